def fm_drop_L40_c (F : Nat) (k28 : MS → Int32 → Option (Int32 × MS)) (k40 : MS → Int32 → Int32 → Option (Int32 × MS)) (σ : MS) (x2 : Int32) (x3 : Int32) : Option (Int32 × MS) :=
  if (169 : Int32) ≤ x3 then (lt (x2 + (1 : Int32)) (fun x2_67 => k28 σ x2_67)) else (bd (fm_of F σ (x2 + (1 : Int32)) x3) (fun r55 => bd (fm_puts F σ x2 x3 r55) (fun σ58 => lt (x3 + (1 : Int32)) (fun x3_61 => k40 σ58 x2 x3_61))))
def fm_drop_L40 (F : Nat) (k28 : MS → Int32 → Option (Int32 × MS)) (n : Nat) (σ : MS) (x2 : Int32) (x3 : Int32) : Option (Int32 × MS) := lpN (fun (k : MS × Int32 × Int32 → Option (Int32 × MS)) a => fm_drop_L40_c F k28 (fun σ x2 x3 => k (σ, x2, x3)) a.1 a.2.1 a.2.2) n (σ, x2, x3)
def fm_drop_L28_c (F : Nat) (k28 : MS → Int32 → Option (Int32 × MS)) (σ : MS) (x2 : Int32) : Option (Int32 × MS) :=
  gd (ix (1 : Int32) 8625 = true) (if (ms_row σ (1 : Int32).toNatClampNeg) ≤ x2 then (gd (ix (1 : Int32) 8625 = true) (some ((ms_row σ (1 : Int32).toNatClampNeg), σ))) else (fm_drop_L40 F k28 F σ x2 (0 : Int32)))
def fm_drop_L28 (F : Nat) (n : Nat) (σ : MS) (x2 : Int32) : Option (Int32 × MS) := lpN (fun (k : MS × Int32 → Option (Int32 × MS)) a => fm_drop_L28_c F (fun σ x2 => k (σ, x2)) a.1 a.2) n (σ, x2)
def fm_drop (F : Nat) (σ : MS) (x1 : Int32) : Option (Int32 × MS) :=
  bd (fm_isLink F σ x1) (fun r2 => if r2 = 0 then (some ((-1001 : Int32), σ)) else (bd (fm_records F σ) (fun σ13 => gd (ix (1 : Int32) 8625 = true) (gd (ix (1 : Int32) 8625 = true) (lt (st_row σ13 (1 : Int32) ((ms_row σ13 (1 : Int32).toNatClampNeg) - (1 : Int32))) (fun σ25 => fm_drop_L28 F F σ25 x1))))))
set_option maxHeartbeats 4000000 in
set_option maxRecDepth 100000 in
theorem km_drop (l : Launch) (D : va_G) (cA : Nat → ClassId) (ad : Nat → Nat) (σ0 : MS) (F : Nat) (a1 : Int32) (r : Int32) (σr : MS) (hf : fm_drop F σ0 a1 = some (r, σr)) : KW l D (tyG cA) yX10_drop cX10_drop 4 (some .int) (rmk 2 44) (wM cA ad σ0) [.ref (ad 0), .int a1] (some (.int r)) (wM cA ad σr) := by
  refine KW.of (by decide) (Nat.le_of_ble_eq_true rfl) ?_
  intro p e s m below meth c A hAe hA C hr hlk hK hP hD hS ls hl
  have hl : lv_has ls 4 [(0, .ref (ad 0)), (1, .int a1)] := hl
  have hB28 : ∀ (n28 : Nat) (H : Heap) (locs : List Loc) (σ : MS) (ls : Array Slot) (x2 : Int32), va_P D vwCl (wM cA ad σ) H → va_D A (wM cA ad σ) → va_S A s.heap H locs → lv_has ls 4 [(0, .ref (ad 0)), (2, .int x2)] → fm_drop_L28 F n28 σ x2 = some (r, σr) → WQ p l e 2 44 s m [.ref (ad 0), .int a1] below meth c (some (.int r)) D (tyG cA) (wM cA ad σ0) (wM cA ad σr) A H locs (F0 m 28 ls []) := by
    intro n28
    induction n28 with
    | zero =>
      intro H locs σ ls x2 hP hD hS hl hf
      cases (show (none : Option _) = _ from hf)
    | succ n28 ih28 =>
      have hB40 : ∀ (n40 : Nat) (H : Heap) (locs : List Loc) (σ : MS) (ls : Array Slot) (x2 : Int32) (x3 : Int32), va_P D vwCl (wM cA ad σ) H → va_D A (wM cA ad σ) → va_S A s.heap H locs → lv_has ls 4 [(0, .ref (ad 0)), (2, .int x2), (3, .int x3)] → fm_drop_L40 F (fm_drop_L28 F n28) n40 σ x2 x3 = some (r, σr) → WQ p l e 2 44 s m [.ref (ad 0), .int a1] below meth c (some (.int r)) D (tyG cA) (wM cA ad σ0) (wM cA ad σr) A H locs (F0 m 40 ls []) := by
        intro n40
        induction n40 with
        | zero =>
          intro H locs σ ls x2 x3 hP hD hS hl hf
          cases (show (none : Option _) = _ from hf)
        | succ n40 ih40 =>
          intro H locs σ ls x2 x3 hP hD hS hl hf
          have hf : fm_drop_L40_c F (fm_drop_L28 F n28) (fm_drop_L40 F (fm_drop_L28 F n28) n40) σ x2 x3 = some (r, σr) := hf
          unfold fm_drop_L40_c at hf
          refine lv_iload_n C.1 C.2.1 dX10_drop_40 rfl (lv_at hl 2 rfl) ?_
          refine lv_sipush (v := (169 : Int32)) C.1 C.2.1 dX10_drop_41 (by decide) ?_
          refine lv_icmp_ge (tgt := 67) C.1 C.2.1 dX10_drop_44 (by decide) (fun c44 => ?_) (fun c44 => ?_)
          · have hf := br_p c44 hf
            obtain ⟨x2_67, ex2_67, hf⟩ := lt_some hf
            refine lv_iinc (v := x2_67) (lv' := [(2, .int x2_67), (0, .ref (ad 0)), (3, .int x3)]) C.1 C.2.1 dX10_drop_67 hl (k := 1) rfl (by rw [ex2_67]; rfl) (by decide) rfl (fun ls hl => ?_)
            refine lv_goto (tgt := 28) C.1 C.2.1 dX10_drop_70 (by decide) ?_
            exact ih28 _ _ _ ls _ hP hD hS (lv_sub hl [1, 0] rfl) hf
          · have hf := br_n c44 hf
            refine lv_aload_n C.1 C.2.1 dX10_drop_47 rfl (lv_at hl 0 rfl) ?_
            refine lv_iload_n C.1 C.2.1 dX10_drop_48 rfl (lv_at hl 1 rfl) ?_
            refine lv_iload_n C.1 C.2.1 dX10_drop_49 rfl (lv_at hl 2 rfl) ?_
            refine lv_aload_n C.1 C.2.1 dX10_drop_50 rfl (lv_at hl 0 rfl) ?_
            refine lv_iload_n C.1 C.2.1 dX10_drop_51 rfl (lv_at hl 1 rfl) ?_
            refine lv_iconst (v := (1 : Int32)) C.1 C.2.1 dX10_drop_52 (by decide) ?_
            refine lv_iadd C.1 C.2.1 dX10_drop_53 ?_
            refine lv_iload_n C.1 C.2.1 dX10_drop_54 rfl (lv_at hl 2 rfl) ?_
            obtain ⟨r55, hc55, hf⟩ := bd_some hf
            refine callRV (As := [_, _]) C hK hP wv_X10_95 hl (km_of l D cA ad _ F _ _ r55 hc55) (rcM hK hP) rfl rfl rfl (Nat.le_of_ble_eq_true rfl) ⟨Nat.le_refl _, Nat.le_refl _⟩ dX10_drop_55 ?_
            obtain ⟨σ58, hc58, hf⟩ := bd_some hf
            refine callWV (As := [_, _, _]) C hK hP hD hA hS wv_X10_107 hl (km_puts l D cA ad _ F _ _ _ σ58 hc58) (rcM hK hP) rfl rfl rfl (Nat.le_of_ble_eq_true rfl) ⟨Nat.le_refl _, Nat.le_refl _⟩ dX10_drop_58 (fun H locs hP hD hS => ?_)
            obtain ⟨x3_61, ex3_61, hf⟩ := lt_some hf
            refine lv_iinc (v := x3_61) (lv' := [(3, .int x3_61), (0, .ref (ad 0)), (2, .int x2)]) C.1 C.2.1 dX10_drop_61 hl (k := 2) rfl (by rw [ex3_61]; rfl) (by decide) rfl (fun ls hl => ?_)
            refine lv_goto (tgt := 40) C.1 C.2.1 dX10_drop_64 (by decide) ?_
            exact ih40 _ _ _ ls _ _ hP hD hS (lv_sub hl [1, 2, 0] rfl) hf
      intro H locs σ ls x2 hP hD hS hl hf
      have hf : fm_drop_L28_c F (fm_drop_L28 F n28) σ x2 = some (r, σr) := hf
      unfold fm_drop_L28_c at hf
      refine lv_iload_n C.1 C.2.1 dX10_drop_28 rfl (lv_at hl 1 rfl) ?_
      refine lv_aload_n C.1 C.2.1 dX10_drop_29 rfl (lv_at hl 0 rfl) ?_
      refine gm_row C hK hP dX10_drop_30 ?_
      refine lv_iconst (v := (1 : Int32)) C.1 C.2.1 dX10_drop_33 (by decide) ?_
      obtain ⟨hi34, hf⟩ := gd_some hf
      refine lm_row C hK hP hi34 dX10_drop_34 ?_
      refine lv_icmp_ge (tgt := 73) C.1 C.2.1 dX10_drop_35 (by decide) (fun c35 => ?_) (fun c35 => ?_)
      · have hf := br_p c35 hf
        refine lv_aload_n C.1 C.2.1 dX10_drop_73 rfl (lv_at hl 0 rfl) ?_
        refine gm_row C hK hP dX10_drop_74 ?_
        refine lv_iconst (v := (1 : Int32)) C.1 C.2.1 dX10_drop_77 (by decide) ?_
        obtain ⟨hi78, hf⟩ := gd_some hf
        refine lm_row C hK hP hi78 dX10_drop_78 ?_
        obtain ⟨rfl, rfl⟩ := Prod.mk.inj (Option.some.inj hf)
        exact KW.iret C hr hlk hK hAe hP hD hS rfl dX10_drop_79
      · have hf := br_n c35 hf
        refine lv_iconst (v := (0 : Int32)) C.1 C.2.1 dX10_drop_38 (by decide) ?_
        refine lv_istore_n (lv' := [(3, .int (0 : Int32)), (0, .ref (ad 0)), (2, .int x2)]) C.1 C.2.1 dX10_drop_39 rfl hl (by decide) rfl (fun ls hl => ?_)
        exact hB40 F _ _ _ ls _ _ hP hD hS (lv_sub hl [1, 2, 0] rfl) hf
  unfold fm_drop at hf
  refine lv_aload_n C.1 C.2.1 dX10_drop_0 rfl (lv_at hl 0 rfl) ?_
  refine lv_iload_n C.1 C.2.1 dX10_drop_1 rfl (lv_at hl 1 rfl) ?_
  obtain ⟨r2, hc2, hf⟩ := bd_some hf
  refine callRV (As := [_]) C hK hP wv_X10_111 hl (km_isLink l D cA ad _ F _ r2 hc2) (rcM hK hP) rfl rfl rfl (Nat.le_of_ble_eq_true rfl) ⟨Nat.le_refl _, Nat.le_refl _⟩ dX10_drop_2 ?_
  refine lv_if_ne (tgt := 12) C.1 C.2.1 dX10_drop_5 (by decide) (fun c5 => ?_) (fun c5 => ?_)
  · have hf := br_n c5 hf
    refine lv_aload_n C.1 C.2.1 dX10_drop_12 rfl (lv_at hl 0 rfl) ?_
    obtain ⟨σ13, hc13, hf⟩ := bd_some hf
    refine callWV (As := []) C hK hP hD hA hS wv_X10_84 hl (km_records l D cA ad _ F σ13 hc13) (rcM hK hP) rfl rfl rfl (Nat.le_of_ble_eq_true rfl) ⟨Nat.le_refl _, Nat.le_refl _⟩ dX10_drop_13 (fun H locs hP hD hS => ?_)
    refine lv_aload_n C.1 C.2.1 dX10_drop_16 rfl (lv_at hl 0 rfl) ?_
    refine gm_row C hK hP dX10_drop_17 ?_
    refine lv_iconst (v := (1 : Int32)) C.1 C.2.1 dX10_drop_20 (by decide) ?_
    refine lv_dup2_11 C.1 C.2.1 dX10_drop_21 rfl rfl ?_
    obtain ⟨hi22, hf⟩ := gd_some hf
    refine lm_row C hK hP hi22 dX10_drop_22 ?_
    refine lv_iconst (v := (1 : Int32)) C.1 C.2.1 dX10_drop_23 (by decide) ?_
    refine lv_isub C.1 C.2.1 dX10_drop_24 ?_
    obtain ⟨hi25, hf⟩ := gd_some hf
    replace hf := lt_e hf
    refine sm_row C hK hP hD hS hi25 dX10_drop_25 (fun H locs hP hD hS => ?_)
    refine lv_iload_n C.1 C.2.1 dX10_drop_26 rfl (lv_at hl 1 rfl) ?_
    refine lv_istore_n (lv' := [(2, .int a1), (0, .ref (ad 0)), (1, .int a1)]) C.1 C.2.1 dX10_drop_27 rfl hl (by decide) rfl (fun ls hl => ?_)
    exact hB28 F _ _ _ ls _ hP hD hS (lv_sub hl [1, 0] rfl) hf
  · have hf := br_p c5 hf
    refine lv_sipush (v := (-1001 : Int32)) C.1 C.2.1 dX10_drop_8 (by decide) ?_
    obtain ⟨rfl, rfl⟩ := Prod.mk.inj (Option.some.inj hf)
    exact KW.iret C hr hlk hK hAe hP hD hS rfl dX10_drop_11
def fm_setPenalty (F : Nat) (σ : MS) (x1 : Int32) : Option (Int32 × MS) :=
  bd (fm_in F x1 (0 : Int32) (50 : Int32)) (fun r4 => if r4 = 0 then (some ((-1002 : Int32), σ)) else (bd (fm_records F σ) (fun σ15 => gd (ix (2 : Int32) 8625 = true) (lt (ms_row σ15 (2 : Int32).toNatClampNeg) (fun x2_24 => gd (ix (2 : Int32) 8625 = true) (lt (st_row σ15 (2 : Int32) x1) (fun σ31 => some (x2_24, σ31))))))))
set_option maxHeartbeats 4000000 in
set_option maxRecDepth 100000 in
theorem km_setPenalty (l : Launch) (D : va_G) (cA : Nat → ClassId) (ad : Nat → Nat) (σ0 : MS) (F : Nat) (a1 : Int32) (r : Int32) (σr : MS) (hf : fm_setPenalty F σ0 a1 = some (r, σr)) : KW l D (tyG cA) yX10_setPenalty cX10_setPenalty 3 (some .int) (rmk 2 44) (wM cA ad σ0) [.ref (ad 0), .int a1] (some (.int r)) (wM cA ad σr) := by
  refine KW.of (by decide) (Nat.le_of_ble_eq_true rfl) ?_
  intro p e s m below meth c A hAe hA C hr hlk hK hP hD hS ls hl
  have hl : lv_has ls 3 [(0, .ref (ad 0)), (1, .int a1)] := hl
  unfold fm_setPenalty at hf
  refine lv_iload_n C.1 C.2.1 dX10_setPenalty_0 rfl (lv_at hl 1 rfl) ?_
  refine lv_iconst (v := (0 : Int32)) C.1 C.2.1 dX10_setPenalty_1 (by decide) ?_
  refine lv_bipush (v := (50 : Int32)) C.1 C.2.1 dX10_setPenalty_2 (by decide) ?_
  obtain ⟨r4, hc4, hf⟩ := bd_some hf
  refine callRS (As := [_, _, _]) C hK hP wv_X10_68 hl (km_in l D cA _ F _ _ _ r4 hc4) rfl rfl rfl (Nat.le_of_ble_eq_true rfl) ⟨Nat.le_refl _, Nat.le_refl _⟩ dX10_setPenalty_4 ?_
  refine lv_if_ne (tgt := 14) C.1 C.2.1 dX10_setPenalty_7 (by decide) (fun c7 => ?_) (fun c7 => ?_)
  · have hf := br_n c7 hf
    refine lv_aload_n C.1 C.2.1 dX10_setPenalty_14 rfl (lv_at hl 0 rfl) ?_
    obtain ⟨σ15, hc15, hf⟩ := bd_some hf
    refine callWV (As := []) C hK hP hD hA hS wv_X10_84 hl (km_records l D cA ad _ F σ15 hc15) (rcM hK hP) rfl rfl rfl (Nat.le_of_ble_eq_true rfl) ⟨Nat.le_refl _, Nat.le_refl _⟩ dX10_setPenalty_15 (fun H locs hP hD hS => ?_)
    refine lv_aload_n C.1 C.2.1 dX10_setPenalty_18 rfl (lv_at hl 0 rfl) ?_
    refine gm_row C hK hP dX10_setPenalty_19 ?_
    refine lv_iconst (v := (2 : Int32)) C.1 C.2.1 dX10_setPenalty_22 (by decide) ?_
    obtain ⟨hi23, hf⟩ := gd_some hf
    refine lm_row C hK hP hi23 dX10_setPenalty_23 ?_
    obtain ⟨x2_24, ex2_24, hf⟩ := lt_some hf
    refine lv_tope ex2_24 ?_
    refine lv_istore_n (lv' := [(2, .int x2_24), (0, .ref (ad 0)), (1, .int a1)]) C.1 C.2.1 dX10_setPenalty_24 rfl hl (by decide) rfl (fun ls hl => ?_)
    refine lv_aload_n C.1 C.2.1 dX10_setPenalty_25 rfl (lv_at hl 1 rfl) ?_
    refine gm_row C hK hP dX10_setPenalty_26 ?_
    refine lv_iconst (v := (2 : Int32)) C.1 C.2.1 dX10_setPenalty_29 (by decide) ?_
    refine lv_iload_n C.1 C.2.1 dX10_setPenalty_30 rfl (lv_at hl 2 rfl) ?_
    obtain ⟨hi31, hf⟩ := gd_some hf
    replace hf := lt_e hf
    refine sm_row C hK hP hD hS hi31 dX10_setPenalty_31 (fun H locs hP hD hS => ?_)
    refine lv_iload_n C.1 C.2.1 dX10_setPenalty_32 rfl (lv_at hl 0 rfl) ?_
    obtain ⟨rfl, rfl⟩ := Prod.mk.inj (Option.some.inj hf)
    exact KW.iret C hr hlk hK hAe hP hD hS rfl dX10_setPenalty_33
  · have hf := br_p c7 hf
    refine lv_sipush (v := (-1002 : Int32)) C.1 C.2.1 dX10_setPenalty_10 (by decide) ?_
    obtain ⟨rfl, rfl⟩ := Prod.mk.inj (Option.some.inj hf)
    exact KW.iret C hr hlk hK hAe hP hD hS rfl dX10_setPenalty_13
def fm_lengthOf_L76 (F : Nat) (σ : MS) (k4 : Int32 → Int32 → Int32 → Option (Int32)) (x1 : Int32) (x3 : Int32) (s0 : Int32) (s1 : Int32) (s2 : Int32) : Option (Int32) :=
  lt (s2 + (s1 + s0)) (fun x2_78 => lt (x3 + (1 : Int32)) (fun x3_79 => k4 x1 x2_78 x3_79))
def fm_lengthOf_L63 (F : Nat) (σ : MS) (k4 : Int32 → Int32 → Int32 → Option (Int32)) (x1 : Int32) (x3 : Int32) (x5 : Int32) (s0 : Int32) (s1 : Int32) : Option (Int32) :=
  if 0 ≤ x5 then (fm_lengthOf_L76 F σ k4 x1 x3 x5 s0 s1) else (fm_lengthOf_L76 F σ k4 x1 x3 (-x5) s0 s1)
def fm_lengthOf_L4_c (F : Nat) (σ : MS) (k4 : Int32 → Int32 → Int32 → Option (Int32)) (x1 : Int32) (x2 : Int32) (x3 : Int32) : Option (Int32) :=
  bd (fm_of F σ x1 (8 : Int32)) (fun r9 => if r9 ≤ x3 then (some x2) else (bd (fm_cornerX F σ x1 x3) (fun r18 => bd (fm_cornerX F σ x1 (x3 - (1 : Int32))) (fun r26 => lt (r18 - r26) (fun x4_30 => bd (fm_cornerY F σ x1 x3) (fun r35 => bd (fm_cornerY F σ x1 (x3 - (1 : Int32))) (fun r43 => lt (r35 - r43) (fun x5_47 => if 0 ≤ x4_30 then (fm_lengthOf_L63 F σ k4 x1 x3 x5_47 x4_30 x2) else (fm_lengthOf_L63 F σ k4 x1 x3 x5_47 (-x4_30) x2)))))))))
def fm_lengthOf_L4 (F : Nat) (σ : MS) (n : Nat) (x1 : Int32) (x2 : Int32) (x3 : Int32) : Option (Int32) := lpN (fun (k : Int32 × Int32 × Int32 → Option (Int32)) a => fm_lengthOf_L4_c F σ (fun x1 x2 x3 => k (x1, x2, x3)) a.1 a.2.1 a.2.2) n (x1, x2, x3)
def fm_lengthOf (F : Nat) (σ : MS) (x1 : Int32) : Option (Int32) :=
  fm_lengthOf_L4 F σ F x1 (0 : Int32) (1 : Int32)
set_option maxHeartbeats 4000000 in
set_option maxRecDepth 100000 in
theorem km_lengthOf (l : Launch) (D : va_G) (cA : Nat → ClassId) (ad : Nat → Nat) (σ : MS) (F : Nat) (a1 : Int32) (r : Int32) (hf : fm_lengthOf F σ a1 = some r) : KR l D (tyG cA) yX10_lengthOf cX10_lengthOf 6 (some .int) (rmk 2 44) (wM cA ad σ) [.ref (ad 0), .int a1] r := by
  refine KR.of (by decide) (Nat.le_of_ble_eq_true rfl) ?_
  intro p e s m below meth c C hr hlk hK hP ls hl
  have hl : lv_has ls 6 [(0, .ref (ad 0)), (1, .int a1)] := hl
  have hB4 : ∀ (n4 : Nat) (ls : Array Slot) (x1 : Int32) (x2 : Int32) (x3 : Int32), lv_has ls 6 [(0, .ref (ad 0)), (1, .int x1), (2, .int x2), (3, .int x3)] → fm_lengthOf_L4 F σ n4 x1 x2 x3 = some r → WR p l e 2 44 s m [.ref (ad 0), .int a1] below meth c r (F0 m 4 ls []) := by
    intro n4
    induction n4 with
    | zero =>
      intro ls x1 x2 x3 hl hf
      cases (show (none : Option _) = _ from hf)
    | succ n4 ih4 =>
      have hB76 : ∀ (ls : Array Slot) (x1 : Int32) (x3 : Int32) (s0 : Int32) (s1 : Int32) (s2 : Int32), lv_has ls 6 [(0, .ref (ad 0)), (1, .int x1), (3, .int x3)] → fm_lengthOf_L76 F σ (fm_lengthOf_L4 F σ n4) x1 x3 s0 s1 s2 = some r → WR p l e 2 44 s m [.ref (ad 0), .int a1] below meth c r (F0 m 76 ls [.int s0, .int s1, .int s2]) := by
        intro ls x1 x3 s0 s1 s2 hl hf
        unfold fm_lengthOf_L76 at hf
        refine lv_iadd C.1 C.2.1 dX10_lengthOf_76 ?_
        refine lv_iadd C.1 C.2.1 dX10_lengthOf_77 ?_
        obtain ⟨x2_78, ex2_78, hf⟩ := lt_some hf
        refine lv_tope ex2_78 ?_
        refine lv_istore_n (lv' := [(2, .int x2_78), (0, .ref (ad 0)), (1, .int x1), (3, .int x3)]) C.1 C.2.1 dX10_lengthOf_78 rfl hl (by decide) rfl (fun ls hl => ?_)
        obtain ⟨x3_79, ex3_79, hf⟩ := lt_some hf
        refine lv_iinc (v := x3_79) (lv' := [(3, .int x3_79), (2, .int x2_78), (0, .ref (ad 0)), (1, .int x1)]) C.1 C.2.1 dX10_lengthOf_79 hl (k := 3) rfl (by rw [ex3_79]; rfl) (by decide) rfl (fun ls hl => ?_)
        refine lv_goto (tgt := 4) C.1 C.2.1 dX10_lengthOf_82 (by decide) ?_
        exact ih4 ls _ _ _ (lv_sub hl [2, 3, 1, 0] rfl) hf
      have hB63 : ∀ (ls : Array Slot) (x1 : Int32) (x3 : Int32) (x5 : Int32) (s0 : Int32) (s1 : Int32), lv_has ls 6 [(0, .ref (ad 0)), (1, .int x1), (3, .int x3), (5, .int x5)] → fm_lengthOf_L63 F σ (fm_lengthOf_L4 F σ n4) x1 x3 x5 s0 s1 = some r → WR p l e 2 44 s m [.ref (ad 0), .int a1] below meth c r (F0 m 63 ls [.int s0, .int s1]) := by
        intro ls x1 x3 x5 s0 s1 hl hf
        unfold fm_lengthOf_L63 at hf
        refine lv_iload C.1 C.2.1 dX10_lengthOf_63 (lv_at hl 3 rfl) ?_
        refine lv_if_ge (tgt := 74) C.1 C.2.1 dX10_lengthOf_65 (by decide) (fun c65 => ?_) (fun c65 => ?_)
        · have hf := br_p c65 hf
          refine lv_iload C.1 C.2.1 dX10_lengthOf_74 (lv_at hl 3 rfl) ?_
          exact hB76 ls _ _ _ _ _ (lv_sub hl [0, 1, 2] rfl) hf
        · have hf := br_n c65 hf
          refine lv_iload C.1 C.2.1 dX10_lengthOf_68 (lv_at hl 3 rfl) ?_
          refine lv_ineg C.1 C.2.1 dX10_lengthOf_70 ?_
          refine lv_goto (tgt := 76) C.1 C.2.1 dX10_lengthOf_71 (by decide) ?_
          exact hB76 ls _ _ _ _ _ (lv_sub hl [0, 1, 2] rfl) hf
      intro ls x1 x2 x3 hl hf
      have hf : fm_lengthOf_L4_c F σ (fm_lengthOf_L4 F σ n4) x1 x2 x3 = some r := hf
      unfold fm_lengthOf_L4_c at hf
      refine lv_iload_n C.1 C.2.1 dX10_lengthOf_4 rfl (lv_at hl 3 rfl) ?_
      refine lv_aload_n C.1 C.2.1 dX10_lengthOf_5 rfl (lv_at hl 0 rfl) ?_
      refine lv_iload_n C.1 C.2.1 dX10_lengthOf_6 rfl (lv_at hl 1 rfl) ?_
      refine lv_bipush (v := (8 : Int32)) C.1 C.2.1 dX10_lengthOf_7 (by decide) ?_
      obtain ⟨r9, hc9, hf⟩ := bd_some hf
      refine callRV (As := [_, _]) C hK hP wv_X10_95 hl (km_of l D cA ad _ F _ _ r9 hc9) (rcM hK hP) rfl rfl rfl (Nat.le_of_ble_eq_true rfl) ⟨Nat.le_refl _, Nat.le_refl _⟩ dX10_lengthOf_9 ?_
      refine lv_icmp_ge (tgt := 85) C.1 C.2.1 dX10_lengthOf_12 (by decide) (fun c12 => ?_) (fun c12 => ?_)
      · have hf := br_p c12 hf
        refine lv_iload_n C.1 C.2.1 dX10_lengthOf_85 rfl (lv_at hl 2 rfl) ?_
        exact KR.iret C hr hlk (Option.some.inj hf) dX10_lengthOf_86
      · have hf := br_n c12 hf
        refine lv_aload_n C.1 C.2.1 dX10_lengthOf_15 rfl (lv_at hl 0 rfl) ?_
        refine lv_iload_n C.1 C.2.1 dX10_lengthOf_16 rfl (lv_at hl 1 rfl) ?_
        refine lv_iload_n C.1 C.2.1 dX10_lengthOf_17 rfl (lv_at hl 3 rfl) ?_
        obtain ⟨r18, hc18, hf⟩ := bd_some hf
        refine callRV (As := [_, _]) C hK hP wv_X10_117 hl (km_cornerX l D cA ad _ F _ _ r18 hc18) (rcM hK hP) rfl rfl rfl (Nat.le_of_ble_eq_true rfl) ⟨Nat.le_refl _, Nat.le_refl _⟩ dX10_lengthOf_18 ?_
        refine lv_aload_n C.1 C.2.1 dX10_lengthOf_21 rfl (lv_at hl 0 rfl) ?_
        refine lv_iload_n C.1 C.2.1 dX10_lengthOf_22 rfl (lv_at hl 1 rfl) ?_
        refine lv_iload_n C.1 C.2.1 dX10_lengthOf_23 rfl (lv_at hl 3 rfl) ?_
        refine lv_iconst (v := (1 : Int32)) C.1 C.2.1 dX10_lengthOf_24 (by decide) ?_
        refine lv_isub C.1 C.2.1 dX10_lengthOf_25 ?_
        obtain ⟨r26, hc26, hf⟩ := bd_some hf
        refine callRV (As := [_, _]) C hK hP wv_X10_117 hl (km_cornerX l D cA ad _ F _ _ r26 hc26) (rcM hK hP) rfl rfl rfl (Nat.le_of_ble_eq_true rfl) ⟨Nat.le_refl _, Nat.le_refl _⟩ dX10_lengthOf_26 ?_
        refine lv_isub C.1 C.2.1 dX10_lengthOf_29 ?_
        obtain ⟨x4_30, ex4_30, hf⟩ := lt_some hf
        refine lv_tope ex4_30 ?_
        refine lv_istore (lv' := [(4, .int x4_30), (0, .ref (ad 0)), (1, .int x1), (2, .int x2), (3, .int x3)]) C.1 C.2.1 dX10_lengthOf_30 hl (by decide) rfl (fun ls hl => ?_)
        refine lv_aload_n C.1 C.2.1 dX10_lengthOf_32 rfl (lv_at hl 1 rfl) ?_
        refine lv_iload_n C.1 C.2.1 dX10_lengthOf_33 rfl (lv_at hl 2 rfl) ?_
        refine lv_iload_n C.1 C.2.1 dX10_lengthOf_34 rfl (lv_at hl 4 rfl) ?_
        obtain ⟨r35, hc35, hf⟩ := bd_some hf
        refine callRV (As := [_, _]) C hK hP wv_X10_124 hl (km_cornerY l D cA ad _ F _ _ r35 hc35) (rcM hK hP) rfl rfl rfl (Nat.le_of_ble_eq_true rfl) ⟨Nat.le_refl _, Nat.le_refl _⟩ dX10_lengthOf_35 ?_
        refine lv_aload_n C.1 C.2.1 dX10_lengthOf_38 rfl (lv_at hl 1 rfl) ?_
        refine lv_iload_n C.1 C.2.1 dX10_lengthOf_39 rfl (lv_at hl 2 rfl) ?_
        refine lv_iload_n C.1 C.2.1 dX10_lengthOf_40 rfl (lv_at hl 4 rfl) ?_
        refine lv_iconst (v := (1 : Int32)) C.1 C.2.1 dX10_lengthOf_41 (by decide) ?_
        refine lv_isub C.1 C.2.1 dX10_lengthOf_42 ?_
        obtain ⟨r43, hc43, hf⟩ := bd_some hf
        refine callRV (As := [_, _]) C hK hP wv_X10_124 hl (km_cornerY l D cA ad _ F _ _ r43 hc43) (rcM hK hP) rfl rfl rfl (Nat.le_of_ble_eq_true rfl) ⟨Nat.le_refl _, Nat.le_refl _⟩ dX10_lengthOf_43 ?_
        refine lv_isub C.1 C.2.1 dX10_lengthOf_46 ?_
        obtain ⟨x5_47, ex5_47, hf⟩ := lt_some hf
        refine lv_tope ex5_47 ?_
        refine lv_istore (lv' := [(5, .int x5_47), (4, .int x4_30), (0, .ref (ad 0)), (1, .int x1), (2, .int x2), (3, .int x3)]) C.1 C.2.1 dX10_lengthOf_47 hl (by decide) rfl (fun ls hl => ?_)
        refine lv_iload_n C.1 C.2.1 dX10_lengthOf_49 rfl (lv_at hl 4 rfl) ?_
        refine lv_iload C.1 C.2.1 dX10_lengthOf_50 (lv_at hl 1 rfl) ?_
        refine lv_if_ge (tgt := 61) C.1 C.2.1 dX10_lengthOf_52 (by decide) (fun c52 => ?_) (fun c52 => ?_)
        · have hf := br_p c52 hf
          refine lv_iload C.1 C.2.1 dX10_lengthOf_61 (lv_at hl 1 rfl) ?_
          exact hB63 ls _ _ _ _ _ (lv_sub hl [2, 3, 5, 0] rfl) hf
        · have hf := br_n c52 hf
          refine lv_iload C.1 C.2.1 dX10_lengthOf_55 (lv_at hl 1 rfl) ?_
          refine lv_ineg C.1 C.2.1 dX10_lengthOf_57 ?_
          refine lv_goto (tgt := 63) C.1 C.2.1 dX10_lengthOf_58 (by decide) ?_
          exact hB63 ls _ _ _ _ _ (lv_sub hl [2, 3, 5, 0] rfl) hf
  unfold fm_lengthOf at hf
  refine lv_iconst (v := (0 : Int32)) C.1 C.2.1 dX10_lengthOf_0 (by decide) ?_
  refine lv_istore_n (lv' := [(2, .int (0 : Int32)), (0, .ref (ad 0)), (1, .int a1)]) C.1 C.2.1 dX10_lengthOf_1 rfl hl (by decide) rfl (fun ls hl => ?_)
  refine lv_iconst (v := (1 : Int32)) C.1 C.2.1 dX10_lengthOf_2 (by decide) ?_
  refine lv_istore_n (lv' := [(3, .int (1 : Int32)), (2, .int (0 : Int32)), (0, .ref (ad 0)), (1, .int a1)]) C.1 C.2.1 dX10_lengthOf_3 rfl hl (by decide) rfl (fun ls hl => ?_)
  exact hB4 F ls _ _ _ (lv_sub hl [2, 3, 1, 0] rfl) hf
def fm_segments_L21 (F : Nat) (σ : MS) (s0 : Int32) : Option (Int32) :=
  some s0
def fm_segments (F : Nat) (σ : MS) (x1 : Int32) : Option (Int32) :=
  bd (fm_hasRoute F σ x1) (fun r2 => if r2 = 0 then (fm_segments_L21 F σ (0 : Int32)) else (bd (fm_of F σ x1 (8 : Int32)) (fun r12 => fm_segments_L21 F σ (r12 - (1 : Int32)))))
set_option maxHeartbeats 4000000 in
set_option maxRecDepth 100000 in
theorem km_segments (l : Launch) (D : va_G) (cA : Nat → ClassId) (ad : Nat → Nat) (σ : MS) (F : Nat) (a1 : Int32) (r : Int32) (hf : fm_segments F σ a1 = some r) : KR l D (tyG cA) yX10_segments cX10_segments 2 (some .int) (rmk 2 43) (wM cA ad σ) [.ref (ad 0), .int a1] r := by
  refine KR.of (by decide) (Nat.le_of_ble_eq_true rfl) ?_
  intro p e s m below meth c C hr hlk hK hP ls hl
  have hl : lv_has ls 2 [(0, .ref (ad 0)), (1, .int a1)] := hl
  have hB21 : ∀ (ls : Array Slot) (s0 : Int32), lv_has ls 2 [(0, .ref (ad 0))] → fm_segments_L21 F σ s0 = some r → WR p l e 2 43 s m [.ref (ad 0), .int a1] below meth c r (F0 m 21 ls [.int s0]) := by
    intro ls s0 hl hf
    unfold fm_segments_L21 at hf
    exact KR.iret C hr hlk (Option.some.inj hf) dX10_segments_21
  unfold fm_segments at hf
  refine lv_aload_n C.1 C.2.1 dX10_segments_0 rfl (lv_at hl 0 rfl) ?_
  refine lv_iload_n C.1 C.2.1 dX10_segments_1 rfl (lv_at hl 1 rfl) ?_
  obtain ⟨r2, hc2, hf⟩ := bd_some hf
  refine callRV (As := [_]) C hK hP wv_X10_114 hl (km_hasRoute l D cA ad _ F _ r2 hc2) (rcM hK hP) rfl rfl rfl (Nat.le_of_ble_eq_true rfl) ⟨Nat.le_refl _, Nat.le_refl _⟩ dX10_segments_2 ?_
  refine lv_if_eq (tgt := 20) C.1 C.2.1 dX10_segments_5 (by decide) (fun c5 => ?_) (fun c5 => ?_)
  · have hf := br_p c5 hf
    refine lv_iconst (v := (0 : Int32)) C.1 C.2.1 dX10_segments_20 (by decide) ?_
    exact hB21 ls _ (lv_sub hl [0] rfl) hf
  · have hf := br_n c5 hf
    refine lv_aload_n C.1 C.2.1 dX10_segments_8 rfl (lv_at hl 0 rfl) ?_
    refine lv_iload_n C.1 C.2.1 dX10_segments_9 rfl (lv_at hl 1 rfl) ?_
    refine lv_bipush (v := (8 : Int32)) C.1 C.2.1 dX10_segments_10 (by decide) ?_
    obtain ⟨r12, hc12, hf⟩ := bd_some hf
    refine callRV (As := [_, _]) C hK hP wv_X10_95 hl (km_of l D cA ad _ F _ _ r12 hc12) (rcM hK hP) rfl rfl rfl (Nat.le_of_ble_eq_true rfl) ⟨Nat.le_refl _, Nat.le_refl _⟩ dX10_segments_12 ?_
    refine lv_iconst (v := (1 : Int32)) C.1 C.2.1 dX10_segments_15 (by decide) ?_
    refine lv_isub C.1 C.2.1 dX10_segments_16 ?_
    refine lv_goto (tgt := 21) C.1 C.2.1 dX10_segments_17 (by decide) ?_
    exact hB21 ls _ (lv_sub hl [0] rfl) hf
def fm_isFlat_L22 (F : Nat) (σ : MS) (s0 : Int32) : Option (Int32) :=
  gd (s0 = 0 ∨ s0 = 1) (some s0)
def fm_isFlat (F : Nat) (σ : MS) (x1 : Int32) (x2 : Int32) : Option (Int32) :=
  bd (fm_cornerY F σ x1 x2) (fun r3 => bd (fm_cornerY F σ x1 (x2 + (1 : Int32))) (fun r11 => if r3 = r11 then (fm_isFlat_L22 F σ (1 : Int32)) else (fm_isFlat_L22 F σ (0 : Int32))))
set_option maxHeartbeats 4000000 in
set_option maxRecDepth 100000 in
theorem km_isFlat (l : Launch) (D : va_G) (cA : Nat → ClassId) (ad : Nat → Nat) (σ : MS) (F : Nat) (a1 : Int32) (a2 : Int32) (r : Int32) (hf : fm_isFlat F σ a1 a2 = some r) : KR l D (tyG cA) yX10_isFlat cX10_isFlat 3 (some .boolean) (rmk 2 44) (wM cA ad σ) [.ref (ad 0), .int a1, .int a2] r := by
  refine KR.of (by decide) (Nat.le_of_ble_eq_true rfl) ?_
  intro p e s m below meth c C hr hlk hK hP ls hl
  have hl : lv_has ls 3 [(0, .ref (ad 0)), (1, .int a1), (2, .int a2)] := hl
  have hB22 : ∀ (ls : Array Slot) (s0 : Int32), lv_has ls 3 [(0, .ref (ad 0))] → fm_isFlat_L22 F σ s0 = some r → WR p l e 2 44 s m [.ref (ad 0), .int a1, .int a2] below meth c r (F0 m 22 ls [.int s0]) := by
    intro ls s0 hl hf
    unfold fm_isFlat_L22 at hf
    obtain ⟨hz22, hf⟩ := gd_some hf
    exact KR.zret C hr hlk hz22 (Option.some.inj hf) dX10_isFlat_22
  unfold fm_isFlat at hf
  refine lv_aload_n C.1 C.2.1 dX10_isFlat_0 rfl (lv_at hl 0 rfl) ?_
  refine lv_iload_n C.1 C.2.1 dX10_isFlat_1 rfl (lv_at hl 1 rfl) ?_
  refine lv_iload_n C.1 C.2.1 dX10_isFlat_2 rfl (lv_at hl 2 rfl) ?_
  obtain ⟨r3, hc3, hf⟩ := bd_some hf
  refine callRV (As := [_, _]) C hK hP wv_X10_124 hl (km_cornerY l D cA ad _ F _ _ r3 hc3) (rcM hK hP) rfl rfl rfl (Nat.le_of_ble_eq_true rfl) ⟨Nat.le_refl _, Nat.le_refl _⟩ dX10_isFlat_3 ?_
  refine lv_aload_n C.1 C.2.1 dX10_isFlat_6 rfl (lv_at hl 0 rfl) ?_
  refine lv_iload_n C.1 C.2.1 dX10_isFlat_7 rfl (lv_at hl 1 rfl) ?_
  refine lv_iload_n C.1 C.2.1 dX10_isFlat_8 rfl (lv_at hl 2 rfl) ?_
  refine lv_iconst (v := (1 : Int32)) C.1 C.2.1 dX10_isFlat_9 (by decide) ?_
  refine lv_iadd C.1 C.2.1 dX10_isFlat_10 ?_
  obtain ⟨r11, hc11, hf⟩ := bd_some hf
  refine callRV (As := [_, _]) C hK hP wv_X10_124 hl (km_cornerY l D cA ad _ F _ _ r11 hc11) (rcM hK hP) rfl rfl rfl (Nat.le_of_ble_eq_true rfl) ⟨Nat.le_refl _, Nat.le_refl _⟩ dX10_isFlat_11 ?_
  refine lv_icmp_ne (tgt := 21) C.1 C.2.1 dX10_isFlat_14 (by decide) (fun c14 => ?_) (fun c14 => ?_)
  · have hf := br_n c14 hf
    refine lv_iconst (v := (0 : Int32)) C.1 C.2.1 dX10_isFlat_21 (by decide) ?_
    exact hB22 ls _ (lv_sub hl [0] rfl) hf
  · have hf := br_p c14 hf
    refine lv_iconst (v := (1 : Int32)) C.1 C.2.1 dX10_isFlat_17 (by decide) ?_
    refine lv_goto (tgt := 22) C.1 C.2.1 dX10_isFlat_18 (by decide) ?_
    exact hB22 ls _ (lv_sub hl [0] rfl) hf
def fm_lowX_L34 (F : Nat) (σ : MS) (s0 : Int32) : Option (Int32) :=
  some s0
def fm_lowX (F : Nat) (σ : MS) (x1 : Int32) (x2 : Int32) : Option (Int32) :=
  bd (fm_cornerX F σ x1 x2) (fun r3 => bd (fm_cornerX F σ x1 (x2 + (1 : Int32))) (fun r11 => if r11 ≤ r3 then (bd (fm_cornerX F σ x1 (x2 + (1 : Int32))) (fun r31 => fm_lowX_L34 F σ r31)) else (bd (fm_cornerX F σ x1 x2) (fun r20 => fm_lowX_L34 F σ r20))))
set_option maxHeartbeats 4000000 in
set_option maxRecDepth 100000 in
theorem km_lowX (l : Launch) (D : va_G) (cA : Nat → ClassId) (ad : Nat → Nat) (σ : MS) (F : Nat) (a1 : Int32) (a2 : Int32) (r : Int32) (hf : fm_lowX F σ a1 a2 = some r) : KR l D (tyG cA) yX10_lowX cX10_lowX 3 (some .int) (rmk 2 44) (wM cA ad σ) [.ref (ad 0), .int a1, .int a2] r := by
  refine KR.of (by decide) (Nat.le_of_ble_eq_true rfl) ?_
  intro p e s m below meth c C hr hlk hK hP ls hl
  have hl : lv_has ls 3 [(0, .ref (ad 0)), (1, .int a1), (2, .int a2)] := hl
  have hB34 : ∀ (ls : Array Slot) (s0 : Int32), lv_has ls 3 [(0, .ref (ad 0))] → fm_lowX_L34 F σ s0 = some r → WR p l e 2 44 s m [.ref (ad 0), .int a1, .int a2] below meth c r (F0 m 34 ls [.int s0]) := by
    intro ls s0 hl hf
    unfold fm_lowX_L34 at hf
    exact KR.iret C hr hlk (Option.some.inj hf) dX10_lowX_34
  unfold fm_lowX at hf
  refine lv_aload_n C.1 C.2.1 dX10_lowX_0 rfl (lv_at hl 0 rfl) ?_
  refine lv_iload_n C.1 C.2.1 dX10_lowX_1 rfl (lv_at hl 1 rfl) ?_
  refine lv_iload_n C.1 C.2.1 dX10_lowX_2 rfl (lv_at hl 2 rfl) ?_
  obtain ⟨r3, hc3, hf⟩ := bd_some hf
  refine callRV (As := [_, _]) C hK hP wv_X10_117 hl (km_cornerX l D cA ad _ F _ _ r3 hc3) (rcM hK hP) rfl rfl rfl (Nat.le_of_ble_eq_true rfl) ⟨Nat.le_refl _, Nat.le_refl _⟩ dX10_lowX_3 ?_
  refine lv_aload_n C.1 C.2.1 dX10_lowX_6 rfl (lv_at hl 0 rfl) ?_
  refine lv_iload_n C.1 C.2.1 dX10_lowX_7 rfl (lv_at hl 1 rfl) ?_
  refine lv_iload_n C.1 C.2.1 dX10_lowX_8 rfl (lv_at hl 2 rfl) ?_
  refine lv_iconst (v := (1 : Int32)) C.1 C.2.1 dX10_lowX_9 (by decide) ?_
  refine lv_iadd C.1 C.2.1 dX10_lowX_10 ?_
  obtain ⟨r11, hc11, hf⟩ := bd_some hf
  refine callRV (As := [_, _]) C hK hP wv_X10_117 hl (km_cornerX l D cA ad _ F _ _ r11 hc11) (rcM hK hP) rfl rfl rfl (Nat.le_of_ble_eq_true rfl) ⟨Nat.le_refl _, Nat.le_refl _⟩ dX10_lowX_11 ?_
  refine lv_icmp_ge (tgt := 26) C.1 C.2.1 dX10_lowX_14 (by decide) (fun c14 => ?_) (fun c14 => ?_)
  · have hf := br_p c14 hf
    refine lv_aload_n C.1 C.2.1 dX10_lowX_26 rfl (lv_at hl 0 rfl) ?_
    refine lv_iload_n C.1 C.2.1 dX10_lowX_27 rfl (lv_at hl 1 rfl) ?_
    refine lv_iload_n C.1 C.2.1 dX10_lowX_28 rfl (lv_at hl 2 rfl) ?_
    refine lv_iconst (v := (1 : Int32)) C.1 C.2.1 dX10_lowX_29 (by decide) ?_
    refine lv_iadd C.1 C.2.1 dX10_lowX_30 ?_
    obtain ⟨r31, hc31, hf⟩ := bd_some hf
    refine callRV (As := [_, _]) C hK hP wv_X10_117 hl (km_cornerX l D cA ad _ F _ _ r31 hc31) (rcM hK hP) rfl rfl rfl (Nat.le_of_ble_eq_true rfl) ⟨Nat.le_refl _, Nat.le_refl _⟩ dX10_lowX_31 ?_
    exact hB34 ls _ (lv_sub hl [0] rfl) hf
  · have hf := br_n c14 hf
    refine lv_aload_n C.1 C.2.1 dX10_lowX_17 rfl (lv_at hl 0 rfl) ?_
    refine lv_iload_n C.1 C.2.1 dX10_lowX_18 rfl (lv_at hl 1 rfl) ?_
    refine lv_iload_n C.1 C.2.1 dX10_lowX_19 rfl (lv_at hl 2 rfl) ?_
    obtain ⟨r20, hc20, hf⟩ := bd_some hf
    refine callRV (As := [_, _]) C hK hP wv_X10_117 hl (km_cornerX l D cA ad _ F _ _ r20 hc20) (rcM hK hP) rfl rfl rfl (Nat.le_of_ble_eq_true rfl) ⟨Nat.le_refl _, Nat.le_refl _⟩ dX10_lowX_20 ?_
    refine lv_goto (tgt := 34) C.1 C.2.1 dX10_lowX_23 (by decide) ?_
    exact hB34 ls _ (lv_sub hl [0] rfl) hf
def fm_highX (F : Nat) (σ : MS) (x1 : Int32) (x2 : Int32) : Option (Int32) :=
  bd (fm_cornerX F σ x1 x2) (fun r3 => bd (fm_cornerX F σ x1 (x2 + (1 : Int32))) (fun r11 => bd (fm_lowX F σ x1 x2) (fun r18 => some ((r3 + r11) - r18))))
set_option maxHeartbeats 4000000 in
set_option maxRecDepth 100000 in
theorem km_highX (l : Launch) (D : va_G) (cA : Nat → ClassId) (ad : Nat → Nat) (σ : MS) (F : Nat) (a1 : Int32) (a2 : Int32) (r : Int32) (hf : fm_highX F σ a1 a2 = some r) : KR l D (tyG cA) yX10_highX cX10_highX 3 (some .int) (rmk 3 66) (wM cA ad σ) [.ref (ad 0), .int a1, .int a2] r := by
  refine KR.of (by decide) (Nat.le_of_ble_eq_true rfl) ?_
  intro p e s m below meth c C hr hlk hK hP ls hl
  have hl : lv_has ls 3 [(0, .ref (ad 0)), (1, .int a1), (2, .int a2)] := hl
  unfold fm_highX at hf
  refine lv_aload_n C.1 C.2.1 dX10_highX_0 rfl (lv_at hl 0 rfl) ?_
  refine lv_iload_n C.1 C.2.1 dX10_highX_1 rfl (lv_at hl 1 rfl) ?_
  refine lv_iload_n C.1 C.2.1 dX10_highX_2 rfl (lv_at hl 2 rfl) ?_
  obtain ⟨r3, hc3, hf⟩ := bd_some hf
  refine callRV (As := [_, _]) C hK hP wv_X10_117 hl (km_cornerX l D cA ad _ F _ _ r3 hc3) (rcM hK hP) rfl rfl rfl (Nat.le_of_ble_eq_true rfl) ⟨Nat.le_refl _, Nat.le_refl _⟩ dX10_highX_3 ?_
  refine lv_aload_n C.1 C.2.1 dX10_highX_6 rfl (lv_at hl 0 rfl) ?_
  refine lv_iload_n C.1 C.2.1 dX10_highX_7 rfl (lv_at hl 1 rfl) ?_
  refine lv_iload_n C.1 C.2.1 dX10_highX_8 rfl (lv_at hl 2 rfl) ?_
  refine lv_iconst (v := (1 : Int32)) C.1 C.2.1 dX10_highX_9 (by decide) ?_
  refine lv_iadd C.1 C.2.1 dX10_highX_10 ?_
  obtain ⟨r11, hc11, hf⟩ := bd_some hf
  refine callRV (As := [_, _]) C hK hP wv_X10_117 hl (km_cornerX l D cA ad _ F _ _ r11 hc11) (rcM hK hP) rfl rfl rfl (Nat.le_of_ble_eq_true rfl) ⟨Nat.le_refl _, Nat.le_refl _⟩ dX10_highX_11 ?_
  refine lv_iadd C.1 C.2.1 dX10_highX_14 ?_
  refine lv_aload_n C.1 C.2.1 dX10_highX_15 rfl (lv_at hl 0 rfl) ?_
  refine lv_iload_n C.1 C.2.1 dX10_highX_16 rfl (lv_at hl 1 rfl) ?_
  refine lv_iload_n C.1 C.2.1 dX10_highX_17 rfl (lv_at hl 2 rfl) ?_
  obtain ⟨r18, hc18, hf⟩ := bd_some hf
  refine callRV (As := [_, _]) C hK hP wv_X10_201 hl (km_lowX l D cA ad _ F _ _ r18 hc18) (rcM hK hP) rfl rfl rfl (Nat.le_of_ble_eq_true rfl) ⟨Nat.le_refl _, Nat.le_refl _⟩ dX10_highX_18 ?_
  refine lv_isub C.1 C.2.1 dX10_highX_21 ?_
  exact KR.iret C hr hlk (Option.some.inj hf) dX10_highX_22
def fm_lowY_L34 (F : Nat) (σ : MS) (s0 : Int32) : Option (Int32) :=
  some s0
def fm_lowY (F : Nat) (σ : MS) (x1 : Int32) (x2 : Int32) : Option (Int32) :=
  bd (fm_cornerY F σ x1 x2) (fun r3 => bd (fm_cornerY F σ x1 (x2 + (1 : Int32))) (fun r11 => if r11 ≤ r3 then (bd (fm_cornerY F σ x1 (x2 + (1 : Int32))) (fun r31 => fm_lowY_L34 F σ r31)) else (bd (fm_cornerY F σ x1 x2) (fun r20 => fm_lowY_L34 F σ r20))))
set_option maxHeartbeats 4000000 in
set_option maxRecDepth 100000 in
theorem km_lowY (l : Launch) (D : va_G) (cA : Nat → ClassId) (ad : Nat → Nat) (σ : MS) (F : Nat) (a1 : Int32) (a2 : Int32) (r : Int32) (hf : fm_lowY F σ a1 a2 = some r) : KR l D (tyG cA) yX10_lowY cX10_lowY 3 (some .int) (rmk 2 44) (wM cA ad σ) [.ref (ad 0), .int a1, .int a2] r := by
  refine KR.of (by decide) (Nat.le_of_ble_eq_true rfl) ?_
  intro p e s m below meth c C hr hlk hK hP ls hl
  have hl : lv_has ls 3 [(0, .ref (ad 0)), (1, .int a1), (2, .int a2)] := hl
  have hB34 : ∀ (ls : Array Slot) (s0 : Int32), lv_has ls 3 [(0, .ref (ad 0))] → fm_lowY_L34 F σ s0 = some r → WR p l e 2 44 s m [.ref (ad 0), .int a1, .int a2] below meth c r (F0 m 34 ls [.int s0]) := by
    intro ls s0 hl hf
    unfold fm_lowY_L34 at hf
    exact KR.iret C hr hlk (Option.some.inj hf) dX10_lowY_34
  unfold fm_lowY at hf
  refine lv_aload_n C.1 C.2.1 dX10_lowY_0 rfl (lv_at hl 0 rfl) ?_
  refine lv_iload_n C.1 C.2.1 dX10_lowY_1 rfl (lv_at hl 1 rfl) ?_
  refine lv_iload_n C.1 C.2.1 dX10_lowY_2 rfl (lv_at hl 2 rfl) ?_
  obtain ⟨r3, hc3, hf⟩ := bd_some hf
  refine callRV (As := [_, _]) C hK hP wv_X10_124 hl (km_cornerY l D cA ad _ F _ _ r3 hc3) (rcM hK hP) rfl rfl rfl (Nat.le_of_ble_eq_true rfl) ⟨Nat.le_refl _, Nat.le_refl _⟩ dX10_lowY_3 ?_
  refine lv_aload_n C.1 C.2.1 dX10_lowY_6 rfl (lv_at hl 0 rfl) ?_
  refine lv_iload_n C.1 C.2.1 dX10_lowY_7 rfl (lv_at hl 1 rfl) ?_
  refine lv_iload_n C.1 C.2.1 dX10_lowY_8 rfl (lv_at hl 2 rfl) ?_
  refine lv_iconst (v := (1 : Int32)) C.1 C.2.1 dX10_lowY_9 (by decide) ?_
  refine lv_iadd C.1 C.2.1 dX10_lowY_10 ?_
  obtain ⟨r11, hc11, hf⟩ := bd_some hf
  refine callRV (As := [_, _]) C hK hP wv_X10_124 hl (km_cornerY l D cA ad _ F _ _ r11 hc11) (rcM hK hP) rfl rfl rfl (Nat.le_of_ble_eq_true rfl) ⟨Nat.le_refl _, Nat.le_refl _⟩ dX10_lowY_11 ?_
  refine lv_icmp_ge (tgt := 26) C.1 C.2.1 dX10_lowY_14 (by decide) (fun c14 => ?_) (fun c14 => ?_)
  · have hf := br_p c14 hf
    refine lv_aload_n C.1 C.2.1 dX10_lowY_26 rfl (lv_at hl 0 rfl) ?_
    refine lv_iload_n C.1 C.2.1 dX10_lowY_27 rfl (lv_at hl 1 rfl) ?_
    refine lv_iload_n C.1 C.2.1 dX10_lowY_28 rfl (lv_at hl 2 rfl) ?_
    refine lv_iconst (v := (1 : Int32)) C.1 C.2.1 dX10_lowY_29 (by decide) ?_
    refine lv_iadd C.1 C.2.1 dX10_lowY_30 ?_
    obtain ⟨r31, hc31, hf⟩ := bd_some hf
    refine callRV (As := [_, _]) C hK hP wv_X10_124 hl (km_cornerY l D cA ad _ F _ _ r31 hc31) (rcM hK hP) rfl rfl rfl (Nat.le_of_ble_eq_true rfl) ⟨Nat.le_refl _, Nat.le_refl _⟩ dX10_lowY_31 ?_
    exact hB34 ls _ (lv_sub hl [0] rfl) hf
  · have hf := br_n c14 hf
    refine lv_aload_n C.1 C.2.1 dX10_lowY_17 rfl (lv_at hl 0 rfl) ?_
    refine lv_iload_n C.1 C.2.1 dX10_lowY_18 rfl (lv_at hl 1 rfl) ?_
    refine lv_iload_n C.1 C.2.1 dX10_lowY_19 rfl (lv_at hl 2 rfl) ?_
    obtain ⟨r20, hc20, hf⟩ := bd_some hf
    refine callRV (As := [_, _]) C hK hP wv_X10_124 hl (km_cornerY l D cA ad _ F _ _ r20 hc20) (rcM hK hP) rfl rfl rfl (Nat.le_of_ble_eq_true rfl) ⟨Nat.le_refl _, Nat.le_refl _⟩ dX10_lowY_20 ?_
    refine lv_goto (tgt := 34) C.1 C.2.1 dX10_lowY_23 (by decide) ?_
    exact hB34 ls _ (lv_sub hl [0] rfl) hf
def fm_highY (F : Nat) (σ : MS) (x1 : Int32) (x2 : Int32) : Option (Int32) :=
  bd (fm_cornerY F σ x1 x2) (fun r3 => bd (fm_cornerY F σ x1 (x2 + (1 : Int32))) (fun r11 => bd (fm_lowY F σ x1 x2) (fun r18 => some ((r3 + r11) - r18))))
set_option maxHeartbeats 4000000 in
set_option maxRecDepth 100000 in
theorem km_highY (l : Launch) (D : va_G) (cA : Nat → ClassId) (ad : Nat → Nat) (σ : MS) (F : Nat) (a1 : Int32) (a2 : Int32) (r : Int32) (hf : fm_highY F σ a1 a2 = some r) : KR l D (tyG cA) yX10_highY cX10_highY 3 (some .int) (rmk 3 66) (wM cA ad σ) [.ref (ad 0), .int a1, .int a2] r := by
  refine KR.of (by decide) (Nat.le_of_ble_eq_true rfl) ?_
  intro p e s m below meth c C hr hlk hK hP ls hl
  have hl : lv_has ls 3 [(0, .ref (ad 0)), (1, .int a1), (2, .int a2)] := hl
  unfold fm_highY at hf
  refine lv_aload_n C.1 C.2.1 dX10_highY_0 rfl (lv_at hl 0 rfl) ?_
  refine lv_iload_n C.1 C.2.1 dX10_highY_1 rfl (lv_at hl 1 rfl) ?_
  refine lv_iload_n C.1 C.2.1 dX10_highY_2 rfl (lv_at hl 2 rfl) ?_
  obtain ⟨r3, hc3, hf⟩ := bd_some hf
  refine callRV (As := [_, _]) C hK hP wv_X10_124 hl (km_cornerY l D cA ad _ F _ _ r3 hc3) (rcM hK hP) rfl rfl rfl (Nat.le_of_ble_eq_true rfl) ⟨Nat.le_refl _, Nat.le_refl _⟩ dX10_highY_3 ?_
  refine lv_aload_n C.1 C.2.1 dX10_highY_6 rfl (lv_at hl 0 rfl) ?_
  refine lv_iload_n C.1 C.2.1 dX10_highY_7 rfl (lv_at hl 1 rfl) ?_
  refine lv_iload_n C.1 C.2.1 dX10_highY_8 rfl (lv_at hl 2 rfl) ?_
  refine lv_iconst (v := (1 : Int32)) C.1 C.2.1 dX10_highY_9 (by decide) ?_
  refine lv_iadd C.1 C.2.1 dX10_highY_10 ?_
  obtain ⟨r11, hc11, hf⟩ := bd_some hf
  refine callRV (As := [_, _]) C hK hP wv_X10_124 hl (km_cornerY l D cA ad _ F _ _ r11 hc11) (rcM hK hP) rfl rfl rfl (Nat.le_of_ble_eq_true rfl) ⟨Nat.le_refl _, Nat.le_refl _⟩ dX10_highY_11 ?_
  refine lv_iadd C.1 C.2.1 dX10_highY_14 ?_
  refine lv_aload_n C.1 C.2.1 dX10_highY_15 rfl (lv_at hl 0 rfl) ?_
  refine lv_iload_n C.1 C.2.1 dX10_highY_16 rfl (lv_at hl 1 rfl) ?_
  refine lv_iload_n C.1 C.2.1 dX10_highY_17 rfl (lv_at hl 2 rfl) ?_
  obtain ⟨r18, hc18, hf⟩ := bd_some hf
  refine callRV (As := [_, _]) C hK hP wv_X10_204 hl (km_lowY l D cA ad _ F _ _ r18 hc18) (rcM hK hP) rfl rfl rfl (Nat.le_of_ble_eq_true rfl) ⟨Nat.le_refl _, Nat.le_refl _⟩ dX10_highY_18 ?_
  refine lv_isub C.1 C.2.1 dX10_highY_21 ?_
  exact KR.iret C hr hlk (Option.some.inj hf) dX10_highY_22
def fm_crossingsOf_L181 (F : Nat) (σ : MS) (k5 : Int32 → Int32 → Int32 → Int32 → Option (Int32)) (k18 : Int32 → Int32 → Int32 → Int32 → Int32 → Option (Int32)) (x1 : Int32) (x2 : Int32) (x3 : Int32) (x4 : Int32) (x5 : Int32) : Option (Int32) :=
  lt (x5 + (1 : Int32)) (fun x5_181 => k18 x1 x2 x3 x4 x5_181)
def fm_crossingsOf_L179 (F : Nat) (σ : MS) (k5 : Int32 → Int32 → Int32 → Int32 → Option (Int32)) (k18 : Int32 → Int32 → Int32 → Int32 → Int32 → Option (Int32)) (x1 : Int32) (x2 : Int32) (x4 : Int32) (x5 : Int32) (s0 : Int32) (s1 : Int32) : Option (Int32) :=
  lt (s1 + s0) (fun x3_180 => fm_crossingsOf_L181 F σ k5 k18 x1 x2 x3_180 x4 x5)
def fm_crossingsOf_L178 (F : Nat) (σ : MS) (k5 : Int32 → Int32 → Int32 → Int32 → Option (Int32)) (k18 : Int32 → Int32 → Int32 → Int32 → Int32 → Option (Int32)) (x1 : Int32) (x2 : Int32) (x4 : Int32) (x5 : Int32) (s0 : Int32) : Option (Int32) :=
  fm_crossingsOf_L179 F σ k5 k18 x1 x2 x4 x5 (0 : Int32) s0
def fm_crossingsOf_L99 (F : Nat) (σ : MS) (k5 : Int32 → Int32 → Int32 → Int32 → Option (Int32)) (k18 : Int32 → Int32 → Int32 → Int32 → Int32 → Option (Int32)) (x1 : Int32) (x2 : Int32) (x3 : Int32) (x4 : Int32) (x5 : Int32) (x7 : Int32) (x8 : Int32) (x9 : Int32) (s0 : Int32) : Option (Int32) :=
  bd (fm_cornerX F σ x9 s0) (fun r106 => bd (fm_cornerY F σ x7 x8) (fun r116 => bd (fm_lowX F σ x7 x8) (fun r129 => if r106 ≤ r129 then (fm_crossingsOf_L178 F σ k5 k18 x1 x2 x4 x5 x3) else (bd (fm_highX F σ x7 x8) (fun r142 => if r142 ≤ r106 then (fm_crossingsOf_L178 F σ k5 k18 x1 x2 x4 x5 x3) else (bd (fm_lowY F σ x9 s0) (fun r155 => if r116 ≤ r155 then (fm_crossingsOf_L178 F σ k5 k18 x1 x2 x4 x5 x3) else (bd (fm_highY F σ x9 s0) (fun r168 => if r168 ≤ r116 then (fm_crossingsOf_L178 F σ k5 k18 x1 x2 x4 x5 x3) else (fm_crossingsOf_L179 F σ k5 k18 x1 x2 x4 x5 (1 : Int32) x3))))))))))
def fm_crossingsOf_L85 (F : Nat) (σ : MS) (k5 : Int32 → Int32 → Int32 → Int32 → Option (Int32)) (k18 : Int32 → Int32 → Int32 → Int32 → Int32 → Option (Int32)) (x1 : Int32) (x2 : Int32) (x3 : Int32) (x4 : Int32) (x5 : Int32) (x6 : Int32) (x7 : Int32) (x8 : Int32) (s0 : Int32) : Option (Int32) :=
  if x6 = 0 then (fm_crossingsOf_L99 F σ k5 k18 x1 x2 x3 x4 x5 x7 x8 s0 x4) else (fm_crossingsOf_L99 F σ k5 k18 x1 x2 x3 x4 x5 x7 x8 s0 x5)
def fm_crossingsOf_L73 (F : Nat) (σ : MS) (k5 : Int32 → Int32 → Int32 → Int32 → Option (Int32)) (k18 : Int32 → Int32 → Int32 → Int32 → Int32 → Option (Int32)) (x1 : Int32) (x2 : Int32) (x3 : Int32) (x4 : Int32) (x5 : Int32) (x6 : Int32) (x7 : Int32) (s0 : Int32) : Option (Int32) :=
  if x6 = 0 then (fm_crossingsOf_L85 F σ k5 k18 x1 x2 x3 x4 x5 x6 x7 s0 x1) else (fm_crossingsOf_L85 F σ k5 k18 x1 x2 x3 x4 x5 x6 x7 s0 x2)
def fm_crossingsOf_L59 (F : Nat) (σ : MS) (k5 : Int32 → Int32 → Int32 → Int32 → Option (Int32)) (k18 : Int32 → Int32 → Int32 → Int32 → Int32 → Option (Int32)) (x1 : Int32) (x2 : Int32) (x3 : Int32) (x4 : Int32) (x5 : Int32) (x6 : Int32) (s0 : Int32) : Option (Int32) :=
  if x6 = 0 then (fm_crossingsOf_L73 F σ k5 k18 x1 x2 x3 x4 x5 x6 s0 x5) else (fm_crossingsOf_L73 F σ k5 k18 x1 x2 x3 x4 x5 x6 s0 x4)
def fm_crossingsOf_L18_c (F : Nat) (σ : MS) (k5 : Int32 → Int32 → Int32 → Int32 → Option (Int32)) (k18 : Int32 → Int32 → Int32 → Int32 → Int32 → Option (Int32)) (x1 : Int32) (x2 : Int32) (x3 : Int32) (x4 : Int32) (x5 : Int32) : Option (Int32) :=
  bd (fm_segments F σ x2) (fun r22 => if r22 ≤ x5 then (lt (x4 + (1 : Int32)) (fun x4_187 => k5 x1 x2 x3 x4_187)) else (bd (fm_isFlat F σ x1 x4) (fun r32 => bd (fm_isFlat F σ x2 x5) (fun r43 => if r32 = r43 then (fm_crossingsOf_L181 F σ k5 k18 x1 x2 x3 x4 x5) else (if r32 = 0 then (fm_crossingsOf_L59 F σ k5 k18 x1 x2 x3 x4 x5 r32 x2) else (fm_crossingsOf_L59 F σ k5 k18 x1 x2 x3 x4 x5 r32 x1))))))
def fm_crossingsOf_L18 (F : Nat) (σ : MS) (k5 : Int32 → Int32 → Int32 → Int32 → Option (Int32)) (n : Nat) (x1 : Int32) (x2 : Int32) (x3 : Int32) (x4 : Int32) (x5 : Int32) : Option (Int32) := lpN (fun (k : Int32 × Int32 × Int32 × Int32 × Int32 → Option (Int32)) a => fm_crossingsOf_L18_c F σ k5 (fun x1 x2 x3 x4 x5 => k (x1, x2, x3, x4, x5)) a.1 a.2.1 a.2.2.1 a.2.2.2.1 a.2.2.2.2) n (x1, x2, x3, x4, x5)
def fm_crossingsOf_L5_c (F : Nat) (σ : MS) (k5 : Int32 → Int32 → Int32 → Int32 → Option (Int32)) (x1 : Int32) (x2 : Int32) (x3 : Int32) (x4 : Int32) : Option (Int32) :=
  bd (fm_segments F σ x1) (fun r9 => if r9 ≤ x4 then (some x3) else (fm_crossingsOf_L18 F σ k5 F x1 x2 x3 x4 (0 : Int32)))
def fm_crossingsOf_L5 (F : Nat) (σ : MS) (n : Nat) (x1 : Int32) (x2 : Int32) (x3 : Int32) (x4 : Int32) : Option (Int32) := lpN (fun (k : Int32 × Int32 × Int32 × Int32 → Option (Int32)) a => fm_crossingsOf_L5_c F σ (fun x1 x2 x3 x4 => k (x1, x2, x3, x4)) a.1 a.2.1 a.2.2.1 a.2.2.2) n (x1, x2, x3, x4)
def fm_crossingsOf (F : Nat) (σ : MS) (x1 : Int32) (x2 : Int32) : Option (Int32) :=
  fm_crossingsOf_L5 F σ F x1 x2 (0 : Int32) (0 : Int32)
set_option maxHeartbeats 4000000 in
set_option maxRecDepth 100000 in
theorem km_crossingsOf (l : Launch) (D : va_G) (cA : Nat → ClassId) (ad : Nat → Nat) (σ : MS) (F : Nat) (a1 : Int32) (a2 : Int32) (r : Int32) (hf : fm_crossingsOf F σ a1 a2 = some r) : KR l D (tyG cA) yX10_crossingsOf cX10_crossingsOf 13 (some .int) (rmk 4 88) (wM cA ad σ) [.ref (ad 0), .int a1, .int a2] r := by
  refine KR.of (by decide) (Nat.le_of_ble_eq_true rfl) ?_
  intro p e s m below meth c C hr hlk hK hP ls hl
  have hl : lv_has ls 13 [(0, .ref (ad 0)), (1, .int a1), (2, .int a2)] := hl
  have hB5 : ∀ (n5 : Nat) (ls : Array Slot) (x1 : Int32) (x2 : Int32) (x3 : Int32) (x4 : Int32), lv_has ls 13 [(0, .ref (ad 0)), (1, .int x1), (2, .int x2), (3, .int x3), (4, .int x4)] → fm_crossingsOf_L5 F σ n5 x1 x2 x3 x4 = some r → WR p l e 4 88 s m [.ref (ad 0), .int a1, .int a2] below meth c r (F0 m 5 ls []) := by
    intro n5
    induction n5 with
    | zero =>
      intro ls x1 x2 x3 x4 hl hf
      cases (show (none : Option _) = _ from hf)
    | succ n5 ih5 =>
      have hB18 : ∀ (n18 : Nat) (ls : Array Slot) (x1 : Int32) (x2 : Int32) (x3 : Int32) (x4 : Int32) (x5 : Int32), lv_has ls 13 [(0, .ref (ad 0)), (1, .int x1), (2, .int x2), (3, .int x3), (4, .int x4), (5, .int x5)] → fm_crossingsOf_L18 F σ (fm_crossingsOf_L5 F σ n5) n18 x1 x2 x3 x4 x5 = some r → WR p l e 4 88 s m [.ref (ad 0), .int a1, .int a2] below meth c r (F0 m 18 ls []) := by
        intro n18
        induction n18 with
        | zero =>
          intro ls x1 x2 x3 x4 x5 hl hf
          cases (show (none : Option _) = _ from hf)
        | succ n18 ih18 =>
          have hB181 : ∀ (ls : Array Slot) (x1 : Int32) (x2 : Int32) (x3 : Int32) (x4 : Int32) (x5 : Int32), lv_has ls 13 [(0, .ref (ad 0)), (1, .int x1), (2, .int x2), (3, .int x3), (4, .int x4), (5, .int x5)] → fm_crossingsOf_L181 F σ (fm_crossingsOf_L5 F σ n5) (fm_crossingsOf_L18 F σ (fm_crossingsOf_L5 F σ n5) n18) x1 x2 x3 x4 x5 = some r → WR p l e 4 88 s m [.ref (ad 0), .int a1, .int a2] below meth c r (F0 m 181 ls []) := by
            intro ls x1 x2 x3 x4 x5 hl hf
            unfold fm_crossingsOf_L181 at hf
            obtain ⟨x5_181, ex5_181, hf⟩ := lt_some hf
            refine lv_iinc (v := x5_181) (lv' := [(5, .int x5_181), (0, .ref (ad 0)), (1, .int x1), (2, .int x2), (3, .int x3), (4, .int x4)]) C.1 C.2.1 dX10_crossingsOf_181 hl (k := 5) rfl (by rw [ex5_181]; rfl) (by decide) rfl (fun ls hl => ?_)
            refine lv_goto (tgt := 18) C.1 C.2.1 dX10_crossingsOf_184 (by decide) ?_
            exact ih18 ls _ _ _ _ _ (lv_sub hl [1, 2, 3, 4, 5, 0] rfl) hf
          have hB179 : ∀ (ls : Array Slot) (x1 : Int32) (x2 : Int32) (x4 : Int32) (x5 : Int32) (s0 : Int32) (s1 : Int32), lv_has ls 13 [(0, .ref (ad 0)), (1, .int x1), (2, .int x2), (4, .int x4), (5, .int x5)] → fm_crossingsOf_L179 F σ (fm_crossingsOf_L5 F σ n5) (fm_crossingsOf_L18 F σ (fm_crossingsOf_L5 F σ n5) n18) x1 x2 x4 x5 s0 s1 = some r → WR p l e 4 88 s m [.ref (ad 0), .int a1, .int a2] below meth c r (F0 m 179 ls [.int s0, .int s1]) := by
            intro ls x1 x2 x4 x5 s0 s1 hl hf
            unfold fm_crossingsOf_L179 at hf
            refine lv_iadd C.1 C.2.1 dX10_crossingsOf_179 ?_
            obtain ⟨x3_180, ex3_180, hf⟩ := lt_some hf
            refine lv_tope ex3_180 ?_
            refine lv_istore_n (lv' := [(3, .int x3_180), (0, .ref (ad 0)), (1, .int x1), (2, .int x2), (4, .int x4), (5, .int x5)]) C.1 C.2.1 dX10_crossingsOf_180 rfl hl (by decide) rfl (fun ls hl => ?_)
            exact hB181 ls _ _ _ _ _ (lv_sub hl [1, 2, 3, 0, 4, 5] rfl) hf
          have hB178 : ∀ (ls : Array Slot) (x1 : Int32) (x2 : Int32) (x4 : Int32) (x5 : Int32) (s0 : Int32), lv_has ls 13 [(0, .ref (ad 0)), (1, .int x1), (2, .int x2), (4, .int x4), (5, .int x5)] → fm_crossingsOf_L178 F σ (fm_crossingsOf_L5 F σ n5) (fm_crossingsOf_L18 F σ (fm_crossingsOf_L5 F σ n5) n18) x1 x2 x4 x5 s0 = some r → WR p l e 4 88 s m [.ref (ad 0), .int a1, .int a2] below meth c r (F0 m 178 ls [.int s0]) := by
            intro ls x1 x2 x4 x5 s0 hl hf
            unfold fm_crossingsOf_L178 at hf
            refine lv_iconst (v := (0 : Int32)) C.1 C.2.1 dX10_crossingsOf_178 (by decide) ?_
            exact hB179 ls _ _ _ _ _ _ (lv_sub hl [0, 1, 2, 3, 4] rfl) hf
          have hB99 : ∀ (ls : Array Slot) (x1 : Int32) (x2 : Int32) (x3 : Int32) (x4 : Int32) (x5 : Int32) (x7 : Int32) (x8 : Int32) (x9 : Int32) (s0 : Int32), lv_has ls 13 [(0, .ref (ad 0)), (1, .int x1), (2, .int x2), (3, .int x3), (4, .int x4), (5, .int x5), (7, .int x7), (8, .int x8), (9, .int x9)] → fm_crossingsOf_L99 F σ (fm_crossingsOf_L5 F σ n5) (fm_crossingsOf_L18 F σ (fm_crossingsOf_L5 F σ n5) n18) x1 x2 x3 x4 x5 x7 x8 x9 s0 = some r → WR p l e 4 88 s m [.ref (ad 0), .int a1, .int a2] below meth c r (F0 m 99 ls [.int s0]) := by
            intro ls x1 x2 x3 x4 x5 x7 x8 x9 s0 hl hf
            unfold fm_crossingsOf_L99 at hf
            refine lv_istore (lv' := [(10, .int s0), (0, .ref (ad 0)), (1, .int x1), (2, .int x2), (3, .int x3), (4, .int x4), (5, .int x5), (7, .int x7), (8, .int x8), (9, .int x9)]) C.1 C.2.1 dX10_crossingsOf_99 hl (by decide) rfl (fun ls hl => ?_)
            refine lv_aload_n C.1 C.2.1 dX10_crossingsOf_101 rfl (lv_at hl 1 rfl) ?_
            refine lv_iload C.1 C.2.1 dX10_crossingsOf_102 (lv_at hl 9 rfl) ?_
            refine lv_iload C.1 C.2.1 dX10_crossingsOf_104 (lv_at hl 0 rfl) ?_
            obtain ⟨r106, hc106, hf⟩ := bd_some hf
            refine callRV (As := [_, _]) C hK hP wv_X10_117 hl (km_cornerX l D cA ad _ F _ _ r106 hc106) (rcM hK hP) rfl rfl rfl (Nat.le_of_ble_eq_true rfl) ⟨Nat.le_refl _, Nat.le_refl _⟩ dX10_crossingsOf_106 ?_
            refine lv_istore (lv' := [(11, .int r106), (10, .int s0), (0, .ref (ad 0)), (1, .int x1), (2, .int x2), (3, .int x3), (4, .int x4), (5, .int x5), (7, .int x7), (8, .int x8), (9, .int x9)]) C.1 C.2.1 dX10_crossingsOf_109 hl (by decide) rfl (fun ls hl => ?_)
            refine lv_aload_n C.1 C.2.1 dX10_crossingsOf_111 rfl (lv_at hl 2 rfl) ?_
            refine lv_iload C.1 C.2.1 dX10_crossingsOf_112 (lv_at hl 8 rfl) ?_
            refine lv_iload C.1 C.2.1 dX10_crossingsOf_114 (lv_at hl 9 rfl) ?_
            obtain ⟨r116, hc116, hf⟩ := bd_some hf
            refine callRV (As := [_, _]) C hK hP wv_X10_124 hl (km_cornerY l D cA ad _ F _ _ r116 hc116) (rcM hK hP) rfl rfl rfl (Nat.le_of_ble_eq_true rfl) ⟨Nat.le_refl _, Nat.le_refl _⟩ dX10_crossingsOf_116 ?_
            refine lv_istore (lv' := [(12, .int r116), (11, .int r106), (10, .int s0), (0, .ref (ad 0)), (1, .int x1), (2, .int x2), (3, .int x3), (4, .int x4), (5, .int x5), (7, .int x7), (8, .int x8), (9, .int x9)]) C.1 C.2.1 dX10_crossingsOf_119 hl (by decide) rfl (fun ls hl => ?_)
            refine lv_iload_n C.1 C.2.1 dX10_crossingsOf_121 rfl (lv_at hl 6 rfl) ?_
            refine lv_iload C.1 C.2.1 dX10_crossingsOf_122 (lv_at hl 1 rfl) ?_
            refine lv_aload_n C.1 C.2.1 dX10_crossingsOf_124 rfl (lv_at hl 3 rfl) ?_
            refine lv_iload C.1 C.2.1 dX10_crossingsOf_125 (lv_at hl 9 rfl) ?_
            refine lv_iload C.1 C.2.1 dX10_crossingsOf_127 (lv_at hl 10 rfl) ?_
            obtain ⟨r129, hc129, hf⟩ := bd_some hf
            refine callRV (As := [_, _]) C hK hP wv_X10_201 hl (km_lowX l D cA ad _ F _ _ r129 hc129) (rcM hK hP) rfl rfl rfl (Nat.le_of_ble_eq_true rfl) ⟨Nat.le_refl _, Nat.le_refl _⟩ dX10_crossingsOf_129 ?_
            refine lv_icmp_le (tgt := 178) C.1 C.2.1 dX10_crossingsOf_132 (by decide) (fun c132 => ?_) (fun c132 => ?_)
            · have hf := br_p c132 hf
              exact hB178 ls _ _ _ _ _ (lv_sub hl [3, 4, 5, 7, 8] rfl) hf
            · have hf := br_n c132 hf
              refine lv_iload C.1 C.2.1 dX10_crossingsOf_135 (lv_at hl 1 rfl) ?_
              refine lv_aload_n C.1 C.2.1 dX10_crossingsOf_137 rfl (lv_at hl 3 rfl) ?_
              refine lv_iload C.1 C.2.1 dX10_crossingsOf_138 (lv_at hl 9 rfl) ?_
              refine lv_iload C.1 C.2.1 dX10_crossingsOf_140 (lv_at hl 10 rfl) ?_
              obtain ⟨r142, hc142, hf⟩ := bd_some hf
              refine callRV (As := [_, _]) C hK hP wv_X10_207 hl (km_highX l D cA ad _ F _ _ r142 hc142) (rcM hK hP) rfl rfl rfl (Nat.le_of_ble_eq_true rfl) ⟨Nat.le_refl _, Nat.le_refl _⟩ dX10_crossingsOf_142 ?_
              refine lv_icmp_ge (tgt := 178) C.1 C.2.1 dX10_crossingsOf_145 (by decide) (fun c145 => ?_) (fun c145 => ?_)
              · have hf := br_p c145 hf
                exact hB178 ls _ _ _ _ _ (lv_sub hl [3, 4, 5, 7, 8] rfl) hf
              · have hf := br_n c145 hf
                refine lv_iload C.1 C.2.1 dX10_crossingsOf_148 (lv_at hl 0 rfl) ?_
                refine lv_aload_n C.1 C.2.1 dX10_crossingsOf_150 rfl (lv_at hl 3 rfl) ?_
                refine lv_iload C.1 C.2.1 dX10_crossingsOf_151 (lv_at hl 11 rfl) ?_
                refine lv_iload C.1 C.2.1 dX10_crossingsOf_153 (lv_at hl 2 rfl) ?_
                obtain ⟨r155, hc155, hf⟩ := bd_some hf
                refine callRV (As := [_, _]) C hK hP wv_X10_204 hl (km_lowY l D cA ad _ F _ _ r155 hc155) (rcM hK hP) rfl rfl rfl (Nat.le_of_ble_eq_true rfl) ⟨Nat.le_refl _, Nat.le_refl _⟩ dX10_crossingsOf_155 ?_
                refine lv_icmp_le (tgt := 178) C.1 C.2.1 dX10_crossingsOf_158 (by decide) (fun c158 => ?_) (fun c158 => ?_)
                · have hf := br_p c158 hf
                  exact hB178 ls _ _ _ _ _ (lv_sub hl [3, 4, 5, 7, 8] rfl) hf
                · have hf := br_n c158 hf
                  refine lv_iload C.1 C.2.1 dX10_crossingsOf_161 (lv_at hl 0 rfl) ?_
                  refine lv_aload_n C.1 C.2.1 dX10_crossingsOf_163 rfl (lv_at hl 3 rfl) ?_
                  refine lv_iload C.1 C.2.1 dX10_crossingsOf_164 (lv_at hl 11 rfl) ?_
                  refine lv_iload C.1 C.2.1 dX10_crossingsOf_166 (lv_at hl 2 rfl) ?_
                  obtain ⟨r168, hc168, hf⟩ := bd_some hf
                  refine callRV (As := [_, _]) C hK hP wv_X10_210 hl (km_highY l D cA ad _ F _ _ r168 hc168) (rcM hK hP) rfl rfl rfl (Nat.le_of_ble_eq_true rfl) ⟨Nat.le_refl _, Nat.le_refl _⟩ dX10_crossingsOf_168 ?_
                  refine lv_icmp_ge (tgt := 178) C.1 C.2.1 dX10_crossingsOf_171 (by decide) (fun c171 => ?_) (fun c171 => ?_)
                  · have hf := br_p c171 hf
                    exact hB178 ls _ _ _ _ _ (lv_sub hl [3, 4, 5, 7, 8] rfl) hf
                  · have hf := br_n c171 hf
                    refine lv_iconst (v := (1 : Int32)) C.1 C.2.1 dX10_crossingsOf_174 (by decide) ?_
                    refine lv_goto (tgt := 179) C.1 C.2.1 dX10_crossingsOf_175 (by decide) ?_
                    exact hB179 ls _ _ _ _ _ _ (lv_sub hl [3, 4, 5, 7, 8] rfl) hf
          have hB85 : ∀ (ls : Array Slot) (x1 : Int32) (x2 : Int32) (x3 : Int32) (x4 : Int32) (x5 : Int32) (x6 : Int32) (x7 : Int32) (x8 : Int32) (s0 : Int32), lv_has ls 13 [(0, .ref (ad 0)), (1, .int x1), (2, .int x2), (3, .int x3), (4, .int x4), (5, .int x5), (6, .int x6), (7, .int x7), (8, .int x8)] → fm_crossingsOf_L85 F σ (fm_crossingsOf_L5 F σ n5) (fm_crossingsOf_L18 F σ (fm_crossingsOf_L5 F σ n5) n18) x1 x2 x3 x4 x5 x6 x7 x8 s0 = some r → WR p l e 4 88 s m [.ref (ad 0), .int a1, .int a2] below meth c r (F0 m 85 ls [.int s0]) := by
            intro ls x1 x2 x3 x4 x5 x6 x7 x8 s0 hl hf
            unfold fm_crossingsOf_L85 at hf
            refine lv_istore (lv' := [(9, .int s0), (0, .ref (ad 0)), (1, .int x1), (2, .int x2), (3, .int x3), (4, .int x4), (5, .int x5), (6, .int x6), (7, .int x7), (8, .int x8)]) C.1 C.2.1 dX10_crossingsOf_85 hl (by decide) rfl (fun ls hl => ?_)
            refine lv_iload C.1 C.2.1 dX10_crossingsOf_87 (lv_at hl 7 rfl) ?_
            refine lv_if_eq (tgt := 97) C.1 C.2.1 dX10_crossingsOf_89 (by decide) (fun c89 => ?_) (fun c89 => ?_)
            · have hf := br_p c89 hf
              refine lv_iload C.1 C.2.1 dX10_crossingsOf_97 (lv_at hl 5 rfl) ?_
              exact hB99 ls _ _ _ _ _ _ _ _ _ (lv_sub hl [1, 2, 3, 4, 5, 6, 8, 9, 0] rfl) hf
            · have hf := br_n c89 hf
              refine lv_iload C.1 C.2.1 dX10_crossingsOf_92 (lv_at hl 6 rfl) ?_
              refine lv_goto (tgt := 99) C.1 C.2.1 dX10_crossingsOf_94 (by decide) ?_
              exact hB99 ls _ _ _ _ _ _ _ _ _ (lv_sub hl [1, 2, 3, 4, 5, 6, 8, 9, 0] rfl) hf
          have hB73 : ∀ (ls : Array Slot) (x1 : Int32) (x2 : Int32) (x3 : Int32) (x4 : Int32) (x5 : Int32) (x6 : Int32) (x7 : Int32) (s0 : Int32), lv_has ls 13 [(0, .ref (ad 0)), (1, .int x1), (2, .int x2), (3, .int x3), (4, .int x4), (5, .int x5), (6, .int x6), (7, .int x7)] → fm_crossingsOf_L73 F σ (fm_crossingsOf_L5 F σ n5) (fm_crossingsOf_L18 F σ (fm_crossingsOf_L5 F σ n5) n18) x1 x2 x3 x4 x5 x6 x7 s0 = some r → WR p l e 4 88 s m [.ref (ad 0), .int a1, .int a2] below meth c r (F0 m 73 ls [.int s0]) := by
            intro ls x1 x2 x3 x4 x5 x6 x7 s0 hl hf
            unfold fm_crossingsOf_L73 at hf
            refine lv_istore (lv' := [(8, .int s0), (0, .ref (ad 0)), (1, .int x1), (2, .int x2), (3, .int x3), (4, .int x4), (5, .int x5), (6, .int x6), (7, .int x7)]) C.1 C.2.1 dX10_crossingsOf_73 hl (by decide) rfl (fun ls hl => ?_)
            refine lv_iload C.1 C.2.1 dX10_crossingsOf_75 (lv_at hl 7 rfl) ?_
            refine lv_if_eq (tgt := 84) C.1 C.2.1 dX10_crossingsOf_77 (by decide) (fun c77 => ?_) (fun c77 => ?_)
            · have hf := br_p c77 hf
              refine lv_iload_n C.1 C.2.1 dX10_crossingsOf_84 rfl (lv_at hl 2 rfl) ?_
              exact hB85 ls _ _ _ _ _ _ _ _ _ (lv_sub hl [1, 2, 3, 4, 5, 6, 7, 8, 0] rfl) hf
            · have hf := br_n c77 hf
              refine lv_iload_n C.1 C.2.1 dX10_crossingsOf_80 rfl (lv_at hl 3 rfl) ?_
              refine lv_goto (tgt := 85) C.1 C.2.1 dX10_crossingsOf_81 (by decide) ?_
              exact hB85 ls _ _ _ _ _ _ _ _ _ (lv_sub hl [1, 2, 3, 4, 5, 6, 7, 8, 0] rfl) hf
          have hB59 : ∀ (ls : Array Slot) (x1 : Int32) (x2 : Int32) (x3 : Int32) (x4 : Int32) (x5 : Int32) (x6 : Int32) (s0 : Int32), lv_has ls 13 [(0, .ref (ad 0)), (1, .int x1), (2, .int x2), (3, .int x3), (4, .int x4), (5, .int x5), (6, .int x6)] → fm_crossingsOf_L59 F σ (fm_crossingsOf_L5 F σ n5) (fm_crossingsOf_L18 F σ (fm_crossingsOf_L5 F σ n5) n18) x1 x2 x3 x4 x5 x6 s0 = some r → WR p l e 4 88 s m [.ref (ad 0), .int a1, .int a2] below meth c r (F0 m 59 ls [.int s0]) := by
            intro ls x1 x2 x3 x4 x5 x6 s0 hl hf
            unfold fm_crossingsOf_L59 at hf
            refine lv_istore (lv' := [(7, .int s0), (0, .ref (ad 0)), (1, .int x1), (2, .int x2), (3, .int x3), (4, .int x4), (5, .int x5), (6, .int x6)]) C.1 C.2.1 dX10_crossingsOf_59 hl (by decide) rfl (fun ls hl => ?_)
            refine lv_iload C.1 C.2.1 dX10_crossingsOf_61 (lv_at hl 7 rfl) ?_
            refine lv_if_eq (tgt := 71) C.1 C.2.1 dX10_crossingsOf_63 (by decide) (fun c63 => ?_) (fun c63 => ?_)
            · have hf := br_p c63 hf
              refine lv_iload C.1 C.2.1 dX10_crossingsOf_71 (lv_at hl 6 rfl) ?_
              exact hB73 ls _ _ _ _ _ _ _ _ (lv_sub hl [1, 2, 3, 4, 5, 6, 7, 0] rfl) hf
            · have hf := br_n c63 hf
              refine lv_iload C.1 C.2.1 dX10_crossingsOf_66 (lv_at hl 5 rfl) ?_
              refine lv_goto (tgt := 73) C.1 C.2.1 dX10_crossingsOf_68 (by decide) ?_
              exact hB73 ls _ _ _ _ _ _ _ _ (lv_sub hl [1, 2, 3, 4, 5, 6, 7, 0] rfl) hf
          intro ls x1 x2 x3 x4 x5 hl hf
          have hf : fm_crossingsOf_L18_c F σ (fm_crossingsOf_L5 F σ n5) (fm_crossingsOf_L18 F σ (fm_crossingsOf_L5 F σ n5) n18) x1 x2 x3 x4 x5 = some r := hf
          unfold fm_crossingsOf_L18_c at hf
          refine lv_iload C.1 C.2.1 dX10_crossingsOf_18 (lv_at hl 5 rfl) ?_
          refine lv_aload_n C.1 C.2.1 dX10_crossingsOf_20 rfl (lv_at hl 0 rfl) ?_
          refine lv_iload_n C.1 C.2.1 dX10_crossingsOf_21 rfl (lv_at hl 2 rfl) ?_
          obtain ⟨r22, hc22, hf⟩ := bd_some hf
          refine callRV (As := [_]) C hK hP wv_X10_213 hl (km_segments l D cA ad _ F _ r22 hc22) (rcM hK hP) rfl rfl rfl (Nat.le_of_ble_eq_true rfl) ⟨Nat.le_refl _, Nat.le_refl _⟩ dX10_crossingsOf_22 ?_
          refine lv_icmp_ge (tgt := 187) C.1 C.2.1 dX10_crossingsOf_25 (by decide) (fun c25 => ?_) (fun c25 => ?_)
          · have hf := br_p c25 hf
            obtain ⟨x4_187, ex4_187, hf⟩ := lt_some hf
            refine lv_iinc (v := x4_187) (lv' := [(4, .int x4_187), (0, .ref (ad 0)), (1, .int x1), (2, .int x2), (3, .int x3), (5, .int x5)]) C.1 C.2.1 dX10_crossingsOf_187 hl (k := 4) rfl (by rw [ex4_187]; rfl) (by decide) rfl (fun ls hl => ?_)
            refine lv_goto (tgt := 5) C.1 C.2.1 dX10_crossingsOf_190 (by decide) ?_
            exact ih5 ls _ _ _ _ (lv_sub hl [1, 2, 3, 4, 0] rfl) hf
          · have hf := br_n c25 hf
            refine lv_aload_n C.1 C.2.1 dX10_crossingsOf_28 rfl (lv_at hl 0 rfl) ?_
            refine lv_iload_n C.1 C.2.1 dX10_crossingsOf_29 rfl (lv_at hl 1 rfl) ?_
            refine lv_iload C.1 C.2.1 dX10_crossingsOf_30 (lv_at hl 4 rfl) ?_
            obtain ⟨r32, hc32, hf⟩ := bd_some hf
            refine callRV (As := [_, _]) C hK hP wv_X10_216 hl (km_isFlat l D cA ad _ F _ _ r32 hc32) (rcM hK hP) rfl rfl rfl (Nat.le_of_ble_eq_true rfl) ⟨Nat.le_refl _, Nat.le_refl _⟩ dX10_crossingsOf_32 ?_
            refine lv_istore (lv' := [(6, .int r32), (0, .ref (ad 0)), (1, .int x1), (2, .int x2), (3, .int x3), (4, .int x4), (5, .int x5)]) C.1 C.2.1 dX10_crossingsOf_35 hl (by decide) rfl (fun ls hl => ?_)
            refine lv_iload C.1 C.2.1 dX10_crossingsOf_37 (lv_at hl 0 rfl) ?_
            refine lv_aload_n C.1 C.2.1 dX10_crossingsOf_39 rfl (lv_at hl 1 rfl) ?_
            refine lv_iload_n C.1 C.2.1 dX10_crossingsOf_40 rfl (lv_at hl 3 rfl) ?_
            refine lv_iload C.1 C.2.1 dX10_crossingsOf_41 (lv_at hl 6 rfl) ?_
            obtain ⟨r43, hc43, hf⟩ := bd_some hf
            refine callRV (As := [_, _]) C hK hP wv_X10_216 hl (km_isFlat l D cA ad _ F _ _ r43 hc43) (rcM hK hP) rfl rfl rfl (Nat.le_of_ble_eq_true rfl) ⟨Nat.le_refl _, Nat.le_refl _⟩ dX10_crossingsOf_43 ?_
            refine lv_icmp_eq (tgt := 181) C.1 C.2.1 dX10_crossingsOf_46 (by decide) (fun c46 => ?_) (fun c46 => ?_)
            · have hf := br_p c46 hf
              exact hB181 ls _ _ _ _ _ (lv_sub hl [1, 2, 3, 4, 5, 6] rfl) hf
            · have hf := br_n c46 hf
              refine lv_iload C.1 C.2.1 dX10_crossingsOf_49 (lv_at hl 0 rfl) ?_
              refine lv_if_eq (tgt := 58) C.1 C.2.1 dX10_crossingsOf_51 (by decide) (fun c51 => ?_) (fun c51 => ?_)
              · have hf := br_p c51 hf
                refine lv_iload_n C.1 C.2.1 dX10_crossingsOf_58 rfl (lv_at hl 3 rfl) ?_
                exact hB59 ls _ _ _ _ _ _ _ (lv_sub hl [1, 2, 3, 4, 5, 6, 0] rfl) hf
              · have hf := br_n c51 hf
                refine lv_iload_n C.1 C.2.1 dX10_crossingsOf_54 rfl (lv_at hl 2 rfl) ?_
                refine lv_goto (tgt := 59) C.1 C.2.1 dX10_crossingsOf_55 (by decide) ?_
                exact hB59 ls _ _ _ _ _ _ _ (lv_sub hl [1, 2, 3, 4, 5, 6, 0] rfl) hf
      intro ls x1 x2 x3 x4 hl hf
      have hf : fm_crossingsOf_L5_c F σ (fm_crossingsOf_L5 F σ n5) x1 x2 x3 x4 = some r := hf
      unfold fm_crossingsOf_L5_c at hf
      refine lv_iload C.1 C.2.1 dX10_crossingsOf_5 (lv_at hl 4 rfl) ?_
      refine lv_aload_n C.1 C.2.1 dX10_crossingsOf_7 rfl (lv_at hl 0 rfl) ?_
      refine lv_iload_n C.1 C.2.1 dX10_crossingsOf_8 rfl (lv_at hl 1 rfl) ?_
      obtain ⟨r9, hc9, hf⟩ := bd_some hf
      refine callRV (As := [_]) C hK hP wv_X10_213 hl (km_segments l D cA ad _ F _ r9 hc9) (rcM hK hP) rfl rfl rfl (Nat.le_of_ble_eq_true rfl) ⟨Nat.le_refl _, Nat.le_refl _⟩ dX10_crossingsOf_9 ?_
      refine lv_icmp_ge (tgt := 193) C.1 C.2.1 dX10_crossingsOf_12 (by decide) (fun c12 => ?_) (fun c12 => ?_)
      · have hf := br_p c12 hf
        refine lv_iload_n C.1 C.2.1 dX10_crossingsOf_193 rfl (lv_at hl 3 rfl) ?_
        exact KR.iret C hr hlk (Option.some.inj hf) dX10_crossingsOf_194
      · have hf := br_n c12 hf
        refine lv_iconst (v := (0 : Int32)) C.1 C.2.1 dX10_crossingsOf_15 (by decide) ?_
        refine lv_istore (lv' := [(5, .int (0 : Int32)), (0, .ref (ad 0)), (1, .int x1), (2, .int x2), (3, .int x3), (4, .int x4)]) C.1 C.2.1 dX10_crossingsOf_16 hl (by decide) rfl (fun ls hl => ?_)
        exact hB18 F ls _ _ _ _ _ (lv_sub hl [1, 2, 3, 4, 5, 0] rfl) hf
  unfold fm_crossingsOf at hf
  refine lv_iconst (v := (0 : Int32)) C.1 C.2.1 dX10_crossingsOf_0 (by decide) ?_
  refine lv_istore_n (lv' := [(3, .int (0 : Int32)), (0, .ref (ad 0)), (1, .int a1), (2, .int a2)]) C.1 C.2.1 dX10_crossingsOf_1 rfl hl (by decide) rfl (fun ls hl => ?_)
  refine lv_iconst (v := (0 : Int32)) C.1 C.2.1 dX10_crossingsOf_2 (by decide) ?_
  refine lv_istore (lv' := [(4, .int (0 : Int32)), (3, .int (0 : Int32)), (0, .ref (ad 0)), (1, .int a1), (2, .int a2)]) C.1 C.2.1 dX10_crossingsOf_3 hl (by decide) rfl (fun ls hl => ?_)
  exact hB5 F ls _ _ _ _ (lv_sub hl [2, 3, 4, 1, 0] rfl) hf
def fm_count_L151 (F : Nat) (σ : MS) (s0 : Int32) : Option (Int32) :=
  some s0
def fm_count_L88 (F : Nat) (σ : MS) (k4 : Int32 → Int32 → Int32 → Option (Int32)) (x1 : Int32) (x2 : Int32) (x3 : Int32) : Option (Int32) :=
  lt (x3 + (1 : Int32)) (fun x3_88 => k4 x1 x2 x3_88)
def fm_count_L61_c (F : Nat) (σ : MS) (k4 : Int32 → Int32 → Int32 → Option (Int32)) (k61 : Int32 → Int32 → Int32 → Int32 → Option (Int32)) (x1 : Int32) (x2 : Int32) (x3 : Int32) (x4 : Int32) : Option (Int32) :=
  if x3 ≤ x4 then (fm_count_L88 F σ k4 x1 x2 x3) else (if x1 = (5 : Int32) then (bd (fm_crossingsOf F σ x3 x4) (fun r77 => lt (x2 + r77) (fun x2_81 => lt (x4 + (1 : Int32)) (fun x4_82 => k61 x1 x2_81 x3 x4_82)))) else (fm_count_L88 F σ k4 x1 x2 x3))
def fm_count_L61 (F : Nat) (σ : MS) (k4 : Int32 → Int32 → Int32 → Option (Int32)) (n : Nat) (x1 : Int32) (x2 : Int32) (x3 : Int32) (x4 : Int32) : Option (Int32) := lpN (fun (k : Int32 × Int32 × Int32 × Int32 → Option (Int32)) a => fm_count_L61_c F σ k4 (fun x1 x2 x3 x4 => k (x1, x2, x3, x4)) a.1 a.2.1 a.2.2.1 a.2.2.2) n (x1, x2, x3, x4)
def fm_count_L56 (F : Nat) (σ : MS) (k4 : Int32 → Int32 → Int32 → Option (Int32)) (x1 : Int32) (x3 : Int32) (s0 : Int32) (s1 : Int32) : Option (Int32) :=
  lt (s1 + s0) (fun x2_57 => fm_count_L61 F σ k4 F x1 x2_57 x3 (0 : Int32))
def fm_count_L55 (F : Nat) (σ : MS) (k4 : Int32 → Int32 → Int32 → Option (Int32)) (x1 : Int32) (x3 : Int32) (s0 : Int32) : Option (Int32) :=
  fm_count_L56 F σ k4 x1 x3 (0 : Int32) s0
def fm_count_L32 (F : Nat) (σ : MS) (k4 : Int32 → Int32 → Int32 → Option (Int32)) (x1 : Int32) (x3 : Int32) (s0 : Int32) : Option (Int32) :=
  if x1 = (4 : Int32) then (bd (fm_hasRoute F σ x3) (fun r39 => if r39 = 0 then (fm_count_L55 F σ k4 x1 x3 s0) else (bd (fm_of F σ x3 (7 : Int32)) (fun r49 => fm_count_L56 F σ k4 x1 x3 r49 s0)))) else (fm_count_L55 F σ k4 x1 x3 s0)
def fm_count_L4_c (F : Nat) (σ : MS) (k4 : Int32 → Int32 → Int32 → Option (Int32)) (x1 : Int32) (x2 : Int32) (x3 : Int32) : Option (Int32) :=
  gd (ix (1 : Int32) 8625 = true) (if (ms_row σ (1 : Int32).toNatClampNeg) ≤ x3 then (bd (fm_in F x1 (0 : Int32) (5 : Int32)) (fun r97 => if r97 = 0 then (fm_count_L151 F σ (-1002 : Int32)) else (if x1 ≤ (2 : Int32) then (if x1 = 0 then (gd (ix (0 : Int32) 8625 = true) (fm_count_L151 F σ (ms_row σ (0 : Int32).toNatClampNeg))) else (if x1 = (1 : Int32) then (gd (ix (1 : Int32) 8625 = true) (fm_count_L151 F σ (ms_row σ (1 : Int32).toNatClampNeg))) else (gd (ix (2 : Int32) 8625 = true) (fm_count_L151 F σ (ms_row σ (2 : Int32).toNatClampNeg))))) else (fm_count_L151 F σ x2)))) else (if x1 = (3 : Int32) then (bd (fm_isTouched F σ x3) (fun r22 => if r22 = 0 then (fm_count_L32 F σ k4 x1 x3 x2) else (fm_count_L56 F σ k4 x1 x3 (1 : Int32) x2))) else (fm_count_L32 F σ k4 x1 x3 x2)))
def fm_count_L4 (F : Nat) (σ : MS) (n : Nat) (x1 : Int32) (x2 : Int32) (x3 : Int32) : Option (Int32) := lpN (fun (k : Int32 × Int32 × Int32 → Option (Int32)) a => fm_count_L4_c F σ (fun x1 x2 x3 => k (x1, x2, x3)) a.1 a.2.1 a.2.2) n (x1, x2, x3)
def fm_count (F : Nat) (σ : MS) (x1 : Int32) : Option (Int32) :=
  fm_count_L4 F σ F x1 (0 : Int32) (0 : Int32)
set_option maxHeartbeats 4000000 in
set_option maxRecDepth 100000 in
theorem km_count (l : Launch) (D : va_G) (cA : Nat → ClassId) (ad : Nat → Nat) (σ : MS) (F : Nat) (a1 : Int32) (r : Int32) (hf : fm_count F σ a1 = some r) : KR l D (tyG cA) yX10_count cX10_count 5 (some .int) (rmk 5 120) (wM cA ad σ) [.ref (ad 0), .int a1] r := by
  refine KR.of (by decide) (Nat.le_of_ble_eq_true rfl) ?_
  intro p e s m below meth c C hr hlk hK hP ls hl
  have hl : lv_has ls 5 [(0, .ref (ad 0)), (1, .int a1)] := hl
  have hB151 : ∀ (ls : Array Slot) (s0 : Int32), lv_has ls 5 [(0, .ref (ad 0))] → fm_count_L151 F σ s0 = some r → WR p l e 5 120 s m [.ref (ad 0), .int a1] below meth c r (F0 m 151 ls [.int s0]) := by
    intro ls s0 hl hf
    unfold fm_count_L151 at hf
    exact KR.iret C hr hlk (Option.some.inj hf) dX10_count_151
  have hB4 : ∀ (n4 : Nat) (ls : Array Slot) (x1 : Int32) (x2 : Int32) (x3 : Int32), lv_has ls 5 [(0, .ref (ad 0)), (1, .int x1), (2, .int x2), (3, .int x3)] → fm_count_L4 F σ n4 x1 x2 x3 = some r → WR p l e 5 120 s m [.ref (ad 0), .int a1] below meth c r (F0 m 4 ls []) := by
    intro n4
    induction n4 with
    | zero =>
      intro ls x1 x2 x3 hl hf
      cases (show (none : Option _) = _ from hf)
    | succ n4 ih4 =>
      have hB88 : ∀ (ls : Array Slot) (x1 : Int32) (x2 : Int32) (x3 : Int32), lv_has ls 5 [(0, .ref (ad 0)), (1, .int x1), (2, .int x2), (3, .int x3)] → fm_count_L88 F σ (fm_count_L4 F σ n4) x1 x2 x3 = some r → WR p l e 5 120 s m [.ref (ad 0), .int a1] below meth c r (F0 m 88 ls []) := by
        intro ls x1 x2 x3 hl hf
        unfold fm_count_L88 at hf
        obtain ⟨x3_88, ex3_88, hf⟩ := lt_some hf
        refine lv_iinc (v := x3_88) (lv' := [(3, .int x3_88), (0, .ref (ad 0)), (1, .int x1), (2, .int x2)]) C.1 C.2.1 dX10_count_88 hl (k := 3) rfl (by rw [ex3_88]; rfl) (by decide) rfl (fun ls hl => ?_)
        refine lv_goto (tgt := 4) C.1 C.2.1 dX10_count_91 (by decide) ?_
        exact ih4 ls _ _ _ (lv_sub hl [1, 2, 3, 0] rfl) hf
      have hB61 : ∀ (n61 : Nat) (ls : Array Slot) (x1 : Int32) (x2 : Int32) (x3 : Int32) (x4 : Int32), lv_has ls 5 [(0, .ref (ad 0)), (1, .int x1), (2, .int x2), (3, .int x3), (4, .int x4)] → fm_count_L61 F σ (fm_count_L4 F σ n4) n61 x1 x2 x3 x4 = some r → WR p l e 5 120 s m [.ref (ad 0), .int a1] below meth c r (F0 m 61 ls []) := by
        intro n61
        induction n61 with
        | zero =>
          intro ls x1 x2 x3 x4 hl hf
          cases (show (none : Option _) = _ from hf)
        | succ n61 ih61 =>
          intro ls x1 x2 x3 x4 hl hf
          have hf : fm_count_L61_c F σ (fm_count_L4 F σ n4) (fm_count_L61 F σ (fm_count_L4 F σ n4) n61) x1 x2 x3 x4 = some r := hf
          unfold fm_count_L61_c at hf
          refine lv_iload C.1 C.2.1 dX10_count_61 (lv_at hl 4 rfl) ?_
          refine lv_iload_n C.1 C.2.1 dX10_count_63 rfl (lv_at hl 3 rfl) ?_
          refine lv_icmp_ge (tgt := 88) C.1 C.2.1 dX10_count_64 (by decide) (fun c64 => ?_) (fun c64 => ?_)
          · have hf := br_p c64 hf
            exact hB88 ls _ _ _ (lv_sub hl [0, 1, 2, 3] rfl) hf
          · have hf := br_n c64 hf
            refine lv_iload_n C.1 C.2.1 dX10_count_67 rfl (lv_at hl 1 rfl) ?_
            refine lv_iconst (v := (5 : Int32)) C.1 C.2.1 dX10_count_68 (by decide) ?_
            refine lv_icmp_ne (tgt := 88) C.1 C.2.1 dX10_count_69 (by decide) (fun c69 => ?_) (fun c69 => ?_)
            · have hf := br_n c69 hf
              exact hB88 ls _ _ _ (lv_sub hl [0, 1, 2, 3] rfl) hf
            · have hf := br_p c69 hf
              refine lv_iload_n C.1 C.2.1 dX10_count_72 rfl (lv_at hl 2 rfl) ?_
              refine lv_aload_n C.1 C.2.1 dX10_count_73 rfl (lv_at hl 0 rfl) ?_
              refine lv_iload_n C.1 C.2.1 dX10_count_74 rfl (lv_at hl 3 rfl) ?_
              refine lv_iload C.1 C.2.1 dX10_count_75 (lv_at hl 4 rfl) ?_
              obtain ⟨r77, hc77, hf⟩ := bd_some hf
              refine callRV (As := [_, _]) C hK hP wv_X10_131 hl (km_crossingsOf l D cA ad _ F _ _ r77 hc77) (rcM hK hP) rfl rfl rfl (Nat.le_of_ble_eq_true rfl) ⟨Nat.le_refl _, Nat.le_refl _⟩ dX10_count_77 ?_
              refine lv_iadd C.1 C.2.1 dX10_count_80 ?_
              obtain ⟨x2_81, ex2_81, hf⟩ := lt_some hf
              refine lv_tope ex2_81 ?_
              refine lv_istore_n (lv' := [(2, .int x2_81), (0, .ref (ad 0)), (1, .int x1), (3, .int x3), (4, .int x4)]) C.1 C.2.1 dX10_count_81 rfl hl (by decide) rfl (fun ls hl => ?_)
              obtain ⟨x4_82, ex4_82, hf⟩ := lt_some hf
              refine lv_iinc (v := x4_82) (lv' := [(4, .int x4_82), (2, .int x2_81), (0, .ref (ad 0)), (1, .int x1), (3, .int x3)]) C.1 C.2.1 dX10_count_82 hl (k := 4) rfl (by rw [ex4_82]; rfl) (by decide) rfl (fun ls hl => ?_)
              refine lv_goto (tgt := 61) C.1 C.2.1 dX10_count_85 (by decide) ?_
              exact ih61 ls _ _ _ _ (lv_sub hl [2, 3, 1, 4, 0] rfl) hf
      have hB56 : ∀ (ls : Array Slot) (x1 : Int32) (x3 : Int32) (s0 : Int32) (s1 : Int32), lv_has ls 5 [(0, .ref (ad 0)), (1, .int x1), (3, .int x3)] → fm_count_L56 F σ (fm_count_L4 F σ n4) x1 x3 s0 s1 = some r → WR p l e 5 120 s m [.ref (ad 0), .int a1] below meth c r (F0 m 56 ls [.int s0, .int s1]) := by
        intro ls x1 x3 s0 s1 hl hf
        unfold fm_count_L56 at hf
        refine lv_iadd C.1 C.2.1 dX10_count_56 ?_
        obtain ⟨x2_57, ex2_57, hf⟩ := lt_some hf
        refine lv_tope ex2_57 ?_
        refine lv_istore_n (lv' := [(2, .int x2_57), (0, .ref (ad 0)), (1, .int x1), (3, .int x3)]) C.1 C.2.1 dX10_count_57 rfl hl (by decide) rfl (fun ls hl => ?_)
        refine lv_iconst (v := (0 : Int32)) C.1 C.2.1 dX10_count_58 (by decide) ?_
        refine lv_istore (lv' := [(4, .int (0 : Int32)), (2, .int x2_57), (0, .ref (ad 0)), (1, .int x1), (3, .int x3)]) C.1 C.2.1 dX10_count_59 hl (by decide) rfl (fun ls hl => ?_)
        exact hB61 F ls _ _ _ _ (lv_sub hl [2, 3, 1, 4, 0] rfl) hf
      have hB55 : ∀ (ls : Array Slot) (x1 : Int32) (x3 : Int32) (s0 : Int32), lv_has ls 5 [(0, .ref (ad 0)), (1, .int x1), (3, .int x3)] → fm_count_L55 F σ (fm_count_L4 F σ n4) x1 x3 s0 = some r → WR p l e 5 120 s m [.ref (ad 0), .int a1] below meth c r (F0 m 55 ls [.int s0]) := by
        intro ls x1 x3 s0 hl hf
        unfold fm_count_L55 at hf
        refine lv_iconst (v := (0 : Int32)) C.1 C.2.1 dX10_count_55 (by decide) ?_
        exact hB56 ls _ _ _ _ (lv_sub hl [0, 1, 2] rfl) hf
      have hB32 : ∀ (ls : Array Slot) (x1 : Int32) (x3 : Int32) (s0 : Int32), lv_has ls 5 [(0, .ref (ad 0)), (1, .int x1), (3, .int x3)] → fm_count_L32 F σ (fm_count_L4 F σ n4) x1 x3 s0 = some r → WR p l e 5 120 s m [.ref (ad 0), .int a1] below meth c r (F0 m 32 ls [.int s0]) := by
        intro ls x1 x3 s0 hl hf
        unfold fm_count_L32 at hf
        refine lv_iload_n C.1 C.2.1 dX10_count_32 rfl (lv_at hl 1 rfl) ?_
        refine lv_iconst (v := (4 : Int32)) C.1 C.2.1 dX10_count_33 (by decide) ?_
        refine lv_icmp_ne (tgt := 55) C.1 C.2.1 dX10_count_34 (by decide) (fun c34 => ?_) (fun c34 => ?_)
        · have hf := br_n c34 hf
          exact hB55 ls _ _ _ (lv_sub hl [0, 1, 2] rfl) hf
        · have hf := br_p c34 hf
          refine lv_aload_n C.1 C.2.1 dX10_count_37 rfl (lv_at hl 0 rfl) ?_
          refine lv_iload_n C.1 C.2.1 dX10_count_38 rfl (lv_at hl 2 rfl) ?_
          obtain ⟨r39, hc39, hf⟩ := bd_some hf
          refine callRV (As := [_]) C hK hP wv_X10_114 hl (km_hasRoute l D cA ad _ F _ r39 hc39) (rcM hK hP) rfl rfl rfl (Nat.le_of_ble_eq_true rfl) ⟨Nat.le_refl _, Nat.le_refl _⟩ dX10_count_39 ?_
          refine lv_if_eq (tgt := 55) C.1 C.2.1 dX10_count_42 (by decide) (fun c42 => ?_) (fun c42 => ?_)
          · have hf := br_p c42 hf
            exact hB55 ls _ _ _ (lv_sub hl [0, 1, 2] rfl) hf
          · have hf := br_n c42 hf
            refine lv_aload_n C.1 C.2.1 dX10_count_45 rfl (lv_at hl 0 rfl) ?_
            refine lv_iload_n C.1 C.2.1 dX10_count_46 rfl (lv_at hl 2 rfl) ?_
            refine lv_bipush (v := (7 : Int32)) C.1 C.2.1 dX10_count_47 (by decide) ?_
            obtain ⟨r49, hc49, hf⟩ := bd_some hf
            refine callRV (As := [_, _]) C hK hP wv_X10_95 hl (km_of l D cA ad _ F _ _ r49 hc49) (rcM hK hP) rfl rfl rfl (Nat.le_of_ble_eq_true rfl) ⟨Nat.le_refl _, Nat.le_refl _⟩ dX10_count_49 ?_
            refine lv_goto (tgt := 56) C.1 C.2.1 dX10_count_52 (by decide) ?_
            exact hB56 ls _ _ _ _ (lv_sub hl [0, 1, 2] rfl) hf
      intro ls x1 x2 x3 hl hf
      have hf : fm_count_L4_c F σ (fm_count_L4 F σ n4) x1 x2 x3 = some r := hf
      unfold fm_count_L4_c at hf
      refine lv_iload_n C.1 C.2.1 dX10_count_4 rfl (lv_at hl 3 rfl) ?_
      refine lv_aload_n C.1 C.2.1 dX10_count_5 rfl (lv_at hl 0 rfl) ?_
      refine gm_row C hK hP dX10_count_6 ?_
      refine lv_iconst (v := (1 : Int32)) C.1 C.2.1 dX10_count_9 (by decide) ?_
      obtain ⟨hi10, hf⟩ := gd_some hf
      refine lm_row C hK hP hi10 dX10_count_10 ?_
      refine lv_icmp_ge (tgt := 94) C.1 C.2.1 dX10_count_11 (by decide) (fun c11 => ?_) (fun c11 => ?_)
      · have hf := br_p c11 hf
        refine lv_iload_n C.1 C.2.1 dX10_count_94 rfl (lv_at hl 1 rfl) ?_
        refine lv_iconst (v := (0 : Int32)) C.1 C.2.1 dX10_count_95 (by decide) ?_
        refine lv_iconst (v := (5 : Int32)) C.1 C.2.1 dX10_count_96 (by decide) ?_
        obtain ⟨r97, hc97, hf⟩ := bd_some hf
        refine callRS (As := [_, _, _]) C hK hP wv_X10_68 hl (km_in l D cA _ F _ _ _ r97 hc97) rfl rfl rfl (Nat.le_of_ble_eq_true rfl) ⟨Nat.le_refl _, Nat.le_refl _⟩ dX10_count_97 ?_
        refine lv_if_ne (tgt := 109) C.1 C.2.1 dX10_count_100 (by decide) (fun c100 => ?_) (fun c100 => ?_)
        · have hf := br_n c100 hf
          refine lv_iload_n C.1 C.2.1 dX10_count_109 rfl (lv_at hl 1 rfl) ?_
          refine lv_iconst (v := (2 : Int32)) C.1 C.2.1 dX10_count_110 (by decide) ?_
          refine lv_icmp_le (tgt := 118) C.1 C.2.1 dX10_count_111 (by decide) (fun c111 => ?_) (fun c111 => ?_)
          · have hf := br_p c111 hf
            refine lv_iload_n C.1 C.2.1 dX10_count_118 rfl (lv_at hl 1 rfl) ?_
            refine lv_if_ne (tgt := 131) C.1 C.2.1 dX10_count_119 (by decide) (fun c119 => ?_) (fun c119 => ?_)
            · have hf := br_n c119 hf
              refine lv_iload_n C.1 C.2.1 dX10_count_131 rfl (lv_at hl 1 rfl) ?_
              refine lv_iconst (v := (1 : Int32)) C.1 C.2.1 dX10_count_132 (by decide) ?_
              refine lv_icmp_ne (tgt := 145) C.1 C.2.1 dX10_count_133 (by decide) (fun c133 => ?_) (fun c133 => ?_)
              · have hf := br_n c133 hf
                refine lv_aload_n C.1 C.2.1 dX10_count_145 rfl (lv_at hl 0 rfl) ?_
                refine gm_row C hK hP dX10_count_146 ?_
                refine lv_iconst (v := (2 : Int32)) C.1 C.2.1 dX10_count_149 (by decide) ?_
                obtain ⟨hi150, hf⟩ := gd_some hf
                refine lm_row C hK hP hi150 dX10_count_150 ?_
                exact hB151 ls _ (lv_sub hl [0] rfl) hf
              · have hf := br_p c133 hf
                refine lv_aload_n C.1 C.2.1 dX10_count_136 rfl (lv_at hl 0 rfl) ?_
                refine gm_row C hK hP dX10_count_137 ?_
                refine lv_iconst (v := (1 : Int32)) C.1 C.2.1 dX10_count_140 (by decide) ?_
                obtain ⟨hi141, hf⟩ := gd_some hf
                refine lm_row C hK hP hi141 dX10_count_141 ?_
                refine lv_goto (tgt := 151) C.1 C.2.1 dX10_count_142 (by decide) ?_
                exact hB151 ls _ (lv_sub hl [0] rfl) hf
            · have hf := br_p c119 hf
              refine lv_aload_n C.1 C.2.1 dX10_count_122 rfl (lv_at hl 0 rfl) ?_
              refine gm_row C hK hP dX10_count_123 ?_
              refine lv_iconst (v := (0 : Int32)) C.1 C.2.1 dX10_count_126 (by decide) ?_
              obtain ⟨hi127, hf⟩ := gd_some hf
              refine lm_row C hK hP hi127 dX10_count_127 ?_
              refine lv_goto (tgt := 151) C.1 C.2.1 dX10_count_128 (by decide) ?_
              exact hB151 ls _ (lv_sub hl [0] rfl) hf
          · have hf := br_n c111 hf
            refine lv_iload_n C.1 C.2.1 dX10_count_114 rfl (lv_at hl 2 rfl) ?_
            refine lv_goto (tgt := 151) C.1 C.2.1 dX10_count_115 (by decide) ?_
            exact hB151 ls _ (lv_sub hl [0] rfl) hf
        · have hf := br_p c100 hf
          refine lv_sipush (v := (-1002 : Int32)) C.1 C.2.1 dX10_count_103 (by decide) ?_
          refine lv_goto (tgt := 151) C.1 C.2.1 dX10_count_106 (by decide) ?_
          exact hB151 ls _ (lv_sub hl [0] rfl) hf
      · have hf := br_n c11 hf
        refine lv_iload_n C.1 C.2.1 dX10_count_14 rfl (lv_at hl 2 rfl) ?_
        refine lv_iload_n C.1 C.2.1 dX10_count_15 rfl (lv_at hl 1 rfl) ?_
        refine lv_iconst (v := (3 : Int32)) C.1 C.2.1 dX10_count_16 (by decide) ?_
        refine lv_icmp_ne (tgt := 32) C.1 C.2.1 dX10_count_17 (by decide) (fun c17 => ?_) (fun c17 => ?_)
        · have hf := br_n c17 hf
          exact hB32 ls _ _ _ (lv_sub hl [0, 1, 3] rfl) hf
        · have hf := br_p c17 hf
          refine lv_aload_n C.1 C.2.1 dX10_count_20 rfl (lv_at hl 0 rfl) ?_
          refine lv_iload_n C.1 C.2.1 dX10_count_21 rfl (lv_at hl 3 rfl) ?_
          obtain ⟨r22, hc22, hf⟩ := bd_some hf
          refine callRV (As := [_]) C hK hP wv_X10_98 hl (km_isTouched l D cA ad _ F _ r22 hc22) (rcM hK hP) rfl rfl rfl (Nat.le_of_ble_eq_true rfl) ⟨Nat.le_refl _, Nat.le_refl _⟩ dX10_count_22 ?_
          refine lv_if_eq (tgt := 32) C.1 C.2.1 dX10_count_25 (by decide) (fun c25 => ?_) (fun c25 => ?_)
          · have hf := br_p c25 hf
            exact hB32 ls _ _ _ (lv_sub hl [0, 1, 3] rfl) hf
          · have hf := br_n c25 hf
            refine lv_iconst (v := (1 : Int32)) C.1 C.2.1 dX10_count_28 (by decide) ?_
            refine lv_goto (tgt := 56) C.1 C.2.1 dX10_count_29 (by decide) ?_
            exact hB56 ls _ _ _ _ (lv_sub hl [0, 1, 3] rfl) hf
  unfold fm_count at hf
  refine lv_iconst (v := (0 : Int32)) C.1 C.2.1 dX10_count_0 (by decide) ?_
  refine lv_istore_n (lv' := [(2, .int (0 : Int32)), (0, .ref (ad 0)), (1, .int a1)]) C.1 C.2.1 dX10_count_1 rfl hl (by decide) rfl (fun ls hl => ?_)
  refine lv_iconst (v := (0 : Int32)) C.1 C.2.1 dX10_count_2 (by decide) ?_
  refine lv_istore_n (lv' := [(3, .int (0 : Int32)), (2, .int (0 : Int32)), (0, .ref (ad 0)), (1, .int a1)]) C.1 C.2.1 dX10_count_3 rfl hl (by decide) rfl (fun ls hl => ?_)
  exact hB4 F ls _ _ _ (lv_sub hl [2, 3, 1, 0] rfl) hf
def fm_connector_L98 (F : Nat) (σ : MS) (s0 : Int32) : Option (Int32) :=
  some s0
def fm_connector_L64 (F : Nat) (σ : MS) (s0 : Int32) (s1 : Int32) (s2 : Int32) : Option (Int32) :=
  bd (fm_portOf F σ s2 s1 s0 (0 : Int32)) (fun r65 => some r65)
def fm_connector (F : Nat) (σ : MS) (x1 : Int32) (x2 : Int32) : Option (Int32) :=
  bd (fm_isLink F σ x1) (fun r2 => if r2 = 0 then (some (-1001 : Int32)) else (bd (fm_in F x2 (0 : Int32) (11 : Int32)) (fun r16 => if r16 = 0 then (some (-1002 : Int32)) else (if (6 : Int32) ≤ x2 then (if (10 : Int32) ≤ x2 then (if x2 = (10 : Int32) then (bd (fm_of F σ x1 (6 : Int32)) (fun r79 => fm_connector_L98 F σ r79)) else (bd (fm_isTouched F σ x1) (fun r87 => if r87 = 0 then (fm_connector_L98 F σ (0 : Int32)) else (fm_connector_L98 F σ (1 : Int32))))) else (if (x2 - x2 / (2 : Int32) * (2 : Int32)) = 0 then (fm_connector_L64 F σ (1 : Int32) ((x2 - (6 : Int32)) / (2 : Int32)) x1) else (fm_connector_L64 F σ (0 : Int32) ((x2 - (6 : Int32)) / (2 : Int32)) x1))) else (bd (fm_of F σ x1 x2) (fun r35 => some r35))))))
set_option maxHeartbeats 4000000 in
set_option maxRecDepth 100000 in
theorem km_connector (l : Launch) (D : va_G) (cA : Nat → ClassId) (ad : Nat → Nat) (σ : MS) (F : Nat) (a1 : Int32) (a2 : Int32) (r : Int32) (hf : fm_connector F σ a1 a2 = some r) : KR l D (tyG cA) yX10_connector cX10_connector 3 (some .int) (rmk 3 78) (wM cA ad σ) [.ref (ad 0), .int a1, .int a2] r := by
  refine KR.of (by decide) (Nat.le_of_ble_eq_true rfl) ?_
  intro p e s m below meth c C hr hlk hK hP ls hl
  have hl : lv_has ls 3 [(0, .ref (ad 0)), (1, .int a1), (2, .int a2)] := hl
  have hB98 : ∀ (ls : Array Slot) (s0 : Int32), lv_has ls 3 [(0, .ref (ad 0))] → fm_connector_L98 F σ s0 = some r → WR p l e 3 78 s m [.ref (ad 0), .int a1, .int a2] below meth c r (F0 m 98 ls [.int s0]) := by
    intro ls s0 hl hf
    unfold fm_connector_L98 at hf
    exact KR.iret C hr hlk (Option.some.inj hf) dX10_connector_98
  have hB64 : ∀ (ls : Array Slot) (s0 : Int32) (s1 : Int32) (s2 : Int32), lv_has ls 3 [(0, .ref (ad 0))] → fm_connector_L64 F σ s0 s1 s2 = some r → WR p l e 3 78 s m [.ref (ad 0), .int a1, .int a2] below meth c r (F0 m 64 ls [.int s0, .int s1, .int s2, .ref (ad 0)]) := by
    intro ls s0 s1 s2 hl hf
    unfold fm_connector_L64 at hf
    refine lv_iconst (v := (0 : Int32)) C.1 C.2.1 dX10_connector_64 (by decide) ?_
    obtain ⟨r65, hc65, hf⟩ := bd_some hf
    refine callRV (As := [_, _, _, _]) C hK hP wv_X10_120 hl (km_portOf l D cA ad _ F _ _ _ _ r65 hc65) (rcM hK hP) rfl rfl rfl (Nat.le_of_ble_eq_true rfl) ⟨Nat.le_refl _, Nat.le_refl _⟩ dX10_connector_65 ?_
    exact KR.iret C hr hlk (Option.some.inj hf) dX10_connector_68
  unfold fm_connector at hf
  refine lv_aload_n C.1 C.2.1 dX10_connector_0 rfl (lv_at hl 0 rfl) ?_
  refine lv_iload_n C.1 C.2.1 dX10_connector_1 rfl (lv_at hl 1 rfl) ?_
  obtain ⟨r2, hc2, hf⟩ := bd_some hf
  refine callRV (As := [_]) C hK hP wv_X10_111 hl (km_isLink l D cA ad _ F _ r2 hc2) (rcM hK hP) rfl rfl rfl (Nat.le_of_ble_eq_true rfl) ⟨Nat.le_refl _, Nat.le_refl _⟩ dX10_connector_2 ?_
  refine lv_if_ne (tgt := 12) C.1 C.2.1 dX10_connector_5 (by decide) (fun c5 => ?_) (fun c5 => ?_)
  · have hf := br_n c5 hf
    refine lv_iload_n C.1 C.2.1 dX10_connector_12 rfl (lv_at hl 2 rfl) ?_
    refine lv_iconst (v := (0 : Int32)) C.1 C.2.1 dX10_connector_13 (by decide) ?_
    refine lv_bipush (v := (11 : Int32)) C.1 C.2.1 dX10_connector_14 (by decide) ?_
    obtain ⟨r16, hc16, hf⟩ := bd_some hf
    refine callRS (As := [_, _, _]) C hK hP wv_X10_68 hl (km_in l D cA _ F _ _ _ r16 hc16) rfl rfl rfl (Nat.le_of_ble_eq_true rfl) ⟨Nat.le_refl _, Nat.le_refl _⟩ dX10_connector_16 ?_
    refine lv_if_ne (tgt := 26) C.1 C.2.1 dX10_connector_19 (by decide) (fun c19 => ?_) (fun c19 => ?_)
    · have hf := br_n c19 hf
      refine lv_iload_n C.1 C.2.1 dX10_connector_26 rfl (lv_at hl 2 rfl) ?_
      refine lv_bipush (v := (6 : Int32)) C.1 C.2.1 dX10_connector_27 (by decide) ?_
      refine lv_icmp_ge (tgt := 39) C.1 C.2.1 dX10_connector_29 (by decide) (fun c29 => ?_) (fun c29 => ?_)
      · have hf := br_p c29 hf
        refine lv_iload_n C.1 C.2.1 dX10_connector_39 rfl (lv_at hl 2 rfl) ?_
        refine lv_bipush (v := (10 : Int32)) C.1 C.2.1 dX10_connector_40 (by decide) ?_
        refine lv_icmp_ge (tgt := 69) C.1 C.2.1 dX10_connector_42 (by decide) (fun c42 => ?_) (fun c42 => ?_)
        · have hf := br_p c42 hf
          refine lv_iload_n C.1 C.2.1 dX10_connector_69 rfl (lv_at hl 2 rfl) ?_
          refine lv_bipush (v := (10 : Int32)) C.1 C.2.1 dX10_connector_70 (by decide) ?_
          refine lv_icmp_ne (tgt := 85) C.1 C.2.1 dX10_connector_72 (by decide) (fun c72 => ?_) (fun c72 => ?_)
          · have hf := br_n c72 hf
            refine lv_aload_n C.1 C.2.1 dX10_connector_85 rfl (lv_at hl 0 rfl) ?_
            refine lv_iload_n C.1 C.2.1 dX10_connector_86 rfl (lv_at hl 1 rfl) ?_
            obtain ⟨r87, hc87, hf⟩ := bd_some hf
            refine callRV (As := [_]) C hK hP wv_X10_98 hl (km_isTouched l D cA ad _ F _ r87 hc87) (rcM hK hP) rfl rfl rfl (Nat.le_of_ble_eq_true rfl) ⟨Nat.le_refl _, Nat.le_refl _⟩ dX10_connector_87 ?_
            refine lv_if_eq (tgt := 97) C.1 C.2.1 dX10_connector_90 (by decide) (fun c90 => ?_) (fun c90 => ?_)
            · have hf := br_p c90 hf
              refine lv_iconst (v := (0 : Int32)) C.1 C.2.1 dX10_connector_97 (by decide) ?_
              exact hB98 ls _ (lv_sub hl [0] rfl) hf
            · have hf := br_n c90 hf
              refine lv_iconst (v := (1 : Int32)) C.1 C.2.1 dX10_connector_93 (by decide) ?_
              refine lv_goto (tgt := 98) C.1 C.2.1 dX10_connector_94 (by decide) ?_
              exact hB98 ls _ (lv_sub hl [0] rfl) hf
          · have hf := br_p c72 hf
            refine lv_aload_n C.1 C.2.1 dX10_connector_75 rfl (lv_at hl 0 rfl) ?_
            refine lv_iload_n C.1 C.2.1 dX10_connector_76 rfl (lv_at hl 1 rfl) ?_
            refine lv_bipush (v := (6 : Int32)) C.1 C.2.1 dX10_connector_77 (by decide) ?_
            obtain ⟨r79, hc79, hf⟩ := bd_some hf
            refine callRV (As := [_, _]) C hK hP wv_X10_95 hl (km_of l D cA ad _ F _ _ r79 hc79) (rcM hK hP) rfl rfl rfl (Nat.le_of_ble_eq_true rfl) ⟨Nat.le_refl _, Nat.le_refl _⟩ dX10_connector_79 ?_
            refine lv_goto (tgt := 98) C.1 C.2.1 dX10_connector_82 (by decide) ?_
            exact hB98 ls _ (lv_sub hl [0] rfl) hf
        · have hf := br_n c42 hf
          refine lv_aload_n C.1 C.2.1 dX10_connector_45 rfl (lv_at hl 0 rfl) ?_
          refine lv_iload_n C.1 C.2.1 dX10_connector_46 rfl (lv_at hl 1 rfl) ?_
          refine lv_iload_n C.1 C.2.1 dX10_connector_47 rfl (lv_at hl 2 rfl) ?_
          refine lv_bipush (v := (6 : Int32)) C.1 C.2.1 dX10_connector_48 (by decide) ?_
          refine lv_isub C.1 C.2.1 dX10_connector_50 ?_
          refine lv_iconst (v := (2 : Int32)) C.1 C.2.1 dX10_connector_51 (by decide) ?_
          refine lv_idiv C.1 C.2.1 dX10_connector_52 (by decide) ?_
          refine lv_iload_n C.1 C.2.1 dX10_connector_53 rfl (lv_at hl 2 rfl) ?_
          refine lv_iconst (v := (2 : Int32)) C.1 C.2.1 dX10_connector_54 (by decide) ?_
          refine lv_irem C.1 C.2.1 dX10_connector_55 (by decide) ?_
          refine lv_if_ne (tgt := 63) C.1 C.2.1 dX10_connector_56 (by decide) (fun c56 => ?_) (fun c56 => ?_)
          · have hf := br_n c56 hf
            refine lv_iconst (v := (0 : Int32)) C.1 C.2.1 dX10_connector_63 (by decide) ?_
            exact hB64 ls _ _ _ (lv_sub hl [0] rfl) hf
          · have hf := br_p c56 hf
            refine lv_iconst (v := (1 : Int32)) C.1 C.2.1 dX10_connector_59 (by decide) ?_
            refine lv_goto (tgt := 64) C.1 C.2.1 dX10_connector_60 (by decide) ?_
            exact hB64 ls _ _ _ (lv_sub hl [0] rfl) hf
      · have hf := br_n c29 hf
        refine lv_aload_n C.1 C.2.1 dX10_connector_32 rfl (lv_at hl 0 rfl) ?_
        refine lv_iload_n C.1 C.2.1 dX10_connector_33 rfl (lv_at hl 1 rfl) ?_
        refine lv_iload_n C.1 C.2.1 dX10_connector_34 rfl (lv_at hl 2 rfl) ?_
        obtain ⟨r35, hc35, hf⟩ := bd_some hf
        refine callRV (As := [_, _]) C hK hP wv_X10_95 hl (km_of l D cA ad _ F _ _ r35 hc35) (rcM hK hP) rfl rfl rfl (Nat.le_of_ble_eq_true rfl) ⟨Nat.le_refl _, Nat.le_refl _⟩ dX10_connector_35 ?_
        exact KR.iret C hr hlk (Option.some.inj hf) dX10_connector_38
    · have hf := br_p c19 hf
      refine lv_sipush (v := (-1002 : Int32)) C.1 C.2.1 dX10_connector_22 (by decide) ?_
      exact KR.iret C hr hlk (Option.some.inj hf) dX10_connector_25
  · have hf := br_p c5 hf
    refine lv_sipush (v := (-1001 : Int32)) C.1 C.2.1 dX10_connector_8 (by decide) ?_
    exact KR.iret C hr hlk (Option.some.inj hf) dX10_connector_11
def fm_addsX_L50_c (F : Nat) (k50 : MS → Int32 → Int32 → Int32 → Option (MS)) (σ : MS) (x1 : Int32) (x2 : Int32) (x3 : Int32) : Option (MS) :=
  if x3 ≤ x2 then (gd (ix x2 20 = true) (lt (st_xs σ x2 x1) (fun σ81 => lt (ms_xMany_s σ81 ((ms_xMany σ81) + (1 : Int32))) (fun σ89 => some σ89)))) else (gd (ix (x3 - (1 : Int32)) 20 = true) (gd (ix x3 20 = true) (lt (st_xs σ x3 (ms_xs σ (x3 - (1 : Int32)).toNatClampNeg)) (fun σ68 => lt (x3 + (-1 : Int32)) (fun x3_69 => k50 σ68 x1 x2 x3_69)))))
def fm_addsX_L50 (F : Nat) (n : Nat) (σ : MS) (x1 : Int32) (x2 : Int32) (x3 : Int32) : Option (MS) := lpN (fun (k : MS × Int32 × Int32 × Int32 → Option (MS)) a => fm_addsX_L50_c F (fun σ x1 x2 x3 => k (σ, x1, x2, x3)) a.1 a.2.1 a.2.2.1 a.2.2.2) n (σ, x1, x2, x3)
def fm_addsX_L45 (F : Nat) (σ : MS) (x1 : Int32) (x2 : Int32) : Option (MS) :=
  lt (ms_xMany σ) (fun x3_49 => fm_addsX_L50 F F σ x1 x2 x3_49)
def fm_addsX_L26 (F : Nat) (σ : MS) (x1 : Int32) (x2 : Int32) : Option (MS) :=
  if (ms_xMany σ) ≤ x2 then (fm_addsX_L45 F σ x1 x2) else (gd (ix x2 20 = true) (if (ms_xs σ x2.toNatClampNeg) = x1 then (some σ) else (fm_addsX_L45 F σ x1 x2)))
def fm_addsX_L2_c (F : Nat) (k2 : MS → Int32 → Int32 → Option (MS)) (σ : MS) (x1 : Int32) (x2 : Int32) : Option (MS) :=
  if (ms_xMany σ) ≤ x2 then (fm_addsX_L26 F σ x1 x2) else (gd (ix x2 20 = true) (if x1 ≤ (ms_xs σ x2.toNatClampNeg) then (fm_addsX_L26 F σ x1 x2) else (lt (x2 + (1 : Int32)) (fun x2_20 => k2 σ x1 x2_20))))
def fm_addsX_L2 (F : Nat) (n : Nat) (σ : MS) (x1 : Int32) (x2 : Int32) : Option (MS) := lpN (fun (k : MS × Int32 × Int32 → Option (MS)) a => fm_addsX_L2_c F (fun σ x1 x2 => k (σ, x1, x2)) a.1 a.2.1 a.2.2) n (σ, x1, x2)
def fm_addsX (F : Nat) (σ : MS) (x1 : Int32) : Option (MS) :=
  fm_addsX_L2 F F σ x1 (0 : Int32)
set_option maxHeartbeats 4000000 in
set_option maxRecDepth 100000 in
theorem km_addsX (l : Launch) (D : va_G) (cA : Nat → ClassId) (ad : Nat → Nat) (σ0 : MS) (F : Nat) (a1 : Int32) (σr : MS) (hf : fm_addsX F σ0 a1 = some σr) : KW l D (tyG cA) yX10_addsX cX10_addsX 4 none (rmk 0 0) (wM cA ad σ0) [.ref (ad 0), .int a1] none (wM cA ad σr) := by
  refine KW.of (by decide) (Nat.le_of_ble_eq_true rfl) ?_
  intro p e s m below meth c A hAe hA C hr hlk hK hP hD hS ls hl
  have hl : lv_has ls 4 [(0, .ref (ad 0)), (1, .int a1)] := hl
  have hB50 : ∀ (n50 : Nat) (H : Heap) (locs : List Loc) (σ : MS) (ls : Array Slot) (x1 : Int32) (x2 : Int32) (x3 : Int32), va_P D vwCl (wM cA ad σ) H → va_D A (wM cA ad σ) → va_S A s.heap H locs → lv_has ls 4 [(0, .ref (ad 0)), (1, .int x1), (2, .int x2), (3, .int x3)] → fm_addsX_L50 F n50 σ x1 x2 x3 = some σr → WQ p l e 0 0 s m [.ref (ad 0), .int a1] below meth c none D (tyG cA) (wM cA ad σ0) (wM cA ad σr) A H locs (F0 m 50 ls []) := by
    intro n50
    induction n50 with
    | zero =>
      intro H locs σ ls x1 x2 x3 hP hD hS hl hf
      cases (show (none : Option _) = _ from hf)
    | succ n50 ih50 =>
      intro H locs σ ls x1 x2 x3 hP hD hS hl hf
      have hf : fm_addsX_L50_c F (fm_addsX_L50 F n50) σ x1 x2 x3 = some σr := hf
      unfold fm_addsX_L50_c at hf
      refine lv_iload_n C.1 C.2.1 dX10_addsX_50 rfl (lv_at hl 3 rfl) ?_
      refine lv_iload_n C.1 C.2.1 dX10_addsX_51 rfl (lv_at hl 2 rfl) ?_
      refine lv_icmp_le (tgt := 75) C.1 C.2.1 dX10_addsX_52 (by decide) (fun c52 => ?_) (fun c52 => ?_)
      · have hf := br_p c52 hf
        refine lv_aload_n C.1 C.2.1 dX10_addsX_75 rfl (lv_at hl 0 rfl) ?_
        refine gm_xs C hK hP dX10_addsX_76 ?_
        refine lv_iload_n C.1 C.2.1 dX10_addsX_79 rfl (lv_at hl 2 rfl) ?_
        refine lv_iload_n C.1 C.2.1 dX10_addsX_80 rfl (lv_at hl 1 rfl) ?_
        obtain ⟨hi81, hf⟩ := gd_some hf
        replace hf := lt_e hf
        refine sm_xs C hK hP hD hS hi81 dX10_addsX_81 (fun H locs hP hD hS => ?_)
        refine lv_aload_n C.1 C.2.1 dX10_addsX_82 rfl (lv_at hl 0 rfl) ?_
        refine lv_dup C.1 C.2.1 dX10_addsX_83 rfl ?_
        refine gm_xMany C hK hP dX10_addsX_84 ?_
        refine lv_iconst (v := (1 : Int32)) C.1 C.2.1 dX10_addsX_87 (by decide) ?_
        refine lv_iadd C.1 C.2.1 dX10_addsX_88 ?_
        replace hf := lt_e hf
        refine pm_xMany C hK hP hD hS dX10_addsX_89 (fun H locs hP hD hS => ?_)
        obtain rfl := Option.some.inj hf
        exact KW.vret C hr hlk hK hAe hP hD hS rfl dX10_addsX_92
      · have hf := br_n c52 hf
        refine lv_aload_n C.1 C.2.1 dX10_addsX_55 rfl (lv_at hl 0 rfl) ?_
        refine gm_xs C hK hP dX10_addsX_56 ?_
        refine lv_iload_n C.1 C.2.1 dX10_addsX_59 rfl (lv_at hl 3 rfl) ?_
        refine lv_aload_n C.1 C.2.1 dX10_addsX_60 rfl (lv_at hl 0 rfl) ?_
        refine gm_xs C hK hP dX10_addsX_61 ?_
        refine lv_iload_n C.1 C.2.1 dX10_addsX_64 rfl (lv_at hl 3 rfl) ?_
        refine lv_iconst (v := (1 : Int32)) C.1 C.2.1 dX10_addsX_65 (by decide) ?_
        refine lv_isub C.1 C.2.1 dX10_addsX_66 ?_
        obtain ⟨hi67, hf⟩ := gd_some hf
        refine lm_xs C hK hP hi67 dX10_addsX_67 ?_
        obtain ⟨hi68, hf⟩ := gd_some hf
        replace hf := lt_e hf
        refine sm_xs C hK hP hD hS hi68 dX10_addsX_68 (fun H locs hP hD hS => ?_)
        obtain ⟨x3_69, ex3_69, hf⟩ := lt_some hf
        refine lv_iinc (v := x3_69) (lv' := [(3, .int x3_69), (0, .ref (ad 0)), (1, .int x1), (2, .int x2)]) C.1 C.2.1 dX10_addsX_69 hl (k := 3) rfl (by rw [ex3_69]; rfl) (by decide) rfl (fun ls hl => ?_)
        refine lv_goto (tgt := 50) C.1 C.2.1 dX10_addsX_72 (by decide) ?_
        exact ih50 _ _ _ ls _ _ _ hP hD hS (lv_sub hl [1, 2, 3, 0] rfl) hf
  have hB45 : ∀ (H : Heap) (locs : List Loc) (σ : MS) (ls : Array Slot) (x1 : Int32) (x2 : Int32), va_P D vwCl (wM cA ad σ) H → va_D A (wM cA ad σ) → va_S A s.heap H locs → lv_has ls 4 [(0, .ref (ad 0)), (1, .int x1), (2, .int x2)] → fm_addsX_L45 F σ x1 x2 = some σr → WQ p l e 0 0 s m [.ref (ad 0), .int a1] below meth c none D (tyG cA) (wM cA ad σ0) (wM cA ad σr) A H locs (F0 m 45 ls []) := by
    intro H locs σ ls x1 x2 hP hD hS hl hf
    unfold fm_addsX_L45 at hf
    refine lv_aload_n C.1 C.2.1 dX10_addsX_45 rfl (lv_at hl 0 rfl) ?_
    refine gm_xMany C hK hP dX10_addsX_46 ?_
    obtain ⟨x3_49, ex3_49, hf⟩ := lt_some hf
    refine lv_tope ex3_49 ?_
    refine lv_istore_n (lv' := [(3, .int x3_49), (0, .ref (ad 0)), (1, .int x1), (2, .int x2)]) C.1 C.2.1 dX10_addsX_49 rfl hl (by decide) rfl (fun ls hl => ?_)
    exact hB50 F _ _ _ ls _ _ _ hP hD hS (lv_sub hl [1, 2, 3, 0] rfl) hf
  have hB26 : ∀ (H : Heap) (locs : List Loc) (σ : MS) (ls : Array Slot) (x1 : Int32) (x2 : Int32), va_P D vwCl (wM cA ad σ) H → va_D A (wM cA ad σ) → va_S A s.heap H locs → lv_has ls 4 [(0, .ref (ad 0)), (1, .int x1), (2, .int x2)] → fm_addsX_L26 F σ x1 x2 = some σr → WQ p l e 0 0 s m [.ref (ad 0), .int a1] below meth c none D (tyG cA) (wM cA ad σ0) (wM cA ad σr) A H locs (F0 m 26 ls []) := by
    intro H locs σ ls x1 x2 hP hD hS hl hf
    unfold fm_addsX_L26 at hf
    refine lv_iload_n C.1 C.2.1 dX10_addsX_26 rfl (lv_at hl 2 rfl) ?_
    refine lv_aload_n C.1 C.2.1 dX10_addsX_27 rfl (lv_at hl 0 rfl) ?_
    refine gm_xMany C hK hP dX10_addsX_28 ?_
    refine lv_icmp_ge (tgt := 45) C.1 C.2.1 dX10_addsX_31 (by decide) (fun c31 => ?_) (fun c31 => ?_)
    · have hf := br_p c31 hf
      exact hB45 _ _ _ ls _ _ hP hD hS (lv_sub hl [0, 1, 2] rfl) hf
    · have hf := br_n c31 hf
      refine lv_aload_n C.1 C.2.1 dX10_addsX_34 rfl (lv_at hl 0 rfl) ?_
      refine gm_xs C hK hP dX10_addsX_35 ?_
      refine lv_iload_n C.1 C.2.1 dX10_addsX_38 rfl (lv_at hl 2 rfl) ?_
      obtain ⟨hi39, hf⟩ := gd_some hf
      refine lm_xs C hK hP hi39 dX10_addsX_39 ?_
      refine lv_iload_n C.1 C.2.1 dX10_addsX_40 rfl (lv_at hl 1 rfl) ?_
      refine lv_icmp_ne (tgt := 45) C.1 C.2.1 dX10_addsX_41 (by decide) (fun c41 => ?_) (fun c41 => ?_)
      · have hf := br_n c41 hf
        exact hB45 _ _ _ ls _ _ hP hD hS (lv_sub hl [0, 1, 2] rfl) hf
      · have hf := br_p c41 hf
        obtain rfl := Option.some.inj hf
        exact KW.vret C hr hlk hK hAe hP hD hS rfl dX10_addsX_44
  have hB2 : ∀ (n2 : Nat) (H : Heap) (locs : List Loc) (σ : MS) (ls : Array Slot) (x1 : Int32) (x2 : Int32), va_P D vwCl (wM cA ad σ) H → va_D A (wM cA ad σ) → va_S A s.heap H locs → lv_has ls 4 [(0, .ref (ad 0)), (1, .int x1), (2, .int x2)] → fm_addsX_L2 F n2 σ x1 x2 = some σr → WQ p l e 0 0 s m [.ref (ad 0), .int a1] below meth c none D (tyG cA) (wM cA ad σ0) (wM cA ad σr) A H locs (F0 m 2 ls []) := by
    intro n2
    induction n2 with
    | zero =>
      intro H locs σ ls x1 x2 hP hD hS hl hf
      cases (show (none : Option _) = _ from hf)
    | succ n2 ih2 =>
      intro H locs σ ls x1 x2 hP hD hS hl hf
      have hf : fm_addsX_L2_c F (fm_addsX_L2 F n2) σ x1 x2 = some σr := hf
      unfold fm_addsX_L2_c at hf
      refine lv_iload_n C.1 C.2.1 dX10_addsX_2 rfl (lv_at hl 2 rfl) ?_
      refine lv_aload_n C.1 C.2.1 dX10_addsX_3 rfl (lv_at hl 0 rfl) ?_
      refine gm_xMany C hK hP dX10_addsX_4 ?_
      refine lv_icmp_ge (tgt := 26) C.1 C.2.1 dX10_addsX_7 (by decide) (fun c7 => ?_) (fun c7 => ?_)
      · have hf := br_p c7 hf
        exact hB26 _ _ _ ls _ _ hP hD hS (lv_sub hl [0, 1, 2] rfl) hf
      · have hf := br_n c7 hf
        refine lv_aload_n C.1 C.2.1 dX10_addsX_10 rfl (lv_at hl 0 rfl) ?_
        refine gm_xs C hK hP dX10_addsX_11 ?_
        refine lv_iload_n C.1 C.2.1 dX10_addsX_14 rfl (lv_at hl 2 rfl) ?_
        obtain ⟨hi15, hf⟩ := gd_some hf
        refine lm_xs C hK hP hi15 dX10_addsX_15 ?_
        refine lv_iload_n C.1 C.2.1 dX10_addsX_16 rfl (lv_at hl 1 rfl) ?_
        refine lv_icmp_ge (tgt := 26) C.1 C.2.1 dX10_addsX_17 (by decide) (fun c17 => ?_) (fun c17 => ?_)
        · have hf := br_p c17 hf
          exact hB26 _ _ _ ls _ _ hP hD hS (lv_sub hl [0, 1, 2] rfl) hf
        · have hf := br_n c17 hf
          obtain ⟨x2_20, ex2_20, hf⟩ := lt_some hf
          refine lv_iinc (v := x2_20) (lv' := [(2, .int x2_20), (0, .ref (ad 0)), (1, .int x1)]) C.1 C.2.1 dX10_addsX_20 hl (k := 2) rfl (by rw [ex2_20]; rfl) (by decide) rfl (fun ls hl => ?_)
          refine lv_goto (tgt := 2) C.1 C.2.1 dX10_addsX_23 (by decide) ?_
          exact ih2 _ _ _ ls _ _ hP hD hS (lv_sub hl [1, 2, 0] rfl) hf
  unfold fm_addsX at hf
  refine lv_iconst (v := (0 : Int32)) C.1 C.2.1 dX10_addsX_0 (by decide) ?_
  refine lv_istore_n (lv' := [(2, .int (0 : Int32)), (0, .ref (ad 0)), (1, .int a1)]) C.1 C.2.1 dX10_addsX_1 rfl hl (by decide) rfl (fun ls hl => ?_)
  exact hB2 F _ _ _ ls _ _ hP hD hS (lv_sub hl [1, 2, 0] rfl) hf
def fm_addsY_L50_c (F : Nat) (k50 : MS → Int32 → Int32 → Int32 → Option (MS)) (σ : MS) (x1 : Int32) (x2 : Int32) (x3 : Int32) : Option (MS) :=
  if x3 ≤ x2 then (gd (ix x2 20 = true) (lt (st_ys σ x2 x1) (fun σ81 => lt (ms_yMany_s σ81 ((ms_yMany σ81) + (1 : Int32))) (fun σ89 => some σ89)))) else (gd (ix (x3 - (1 : Int32)) 20 = true) (gd (ix x3 20 = true) (lt (st_ys σ x3 (ms_ys σ (x3 - (1 : Int32)).toNatClampNeg)) (fun σ68 => lt (x3 + (-1 : Int32)) (fun x3_69 => k50 σ68 x1 x2 x3_69)))))
def fm_addsY_L50 (F : Nat) (n : Nat) (σ : MS) (x1 : Int32) (x2 : Int32) (x3 : Int32) : Option (MS) := lpN (fun (k : MS × Int32 × Int32 × Int32 → Option (MS)) a => fm_addsY_L50_c F (fun σ x1 x2 x3 => k (σ, x1, x2, x3)) a.1 a.2.1 a.2.2.1 a.2.2.2) n (σ, x1, x2, x3)
def fm_addsY_L45 (F : Nat) (σ : MS) (x1 : Int32) (x2 : Int32) : Option (MS) :=
  lt (ms_yMany σ) (fun x3_49 => fm_addsY_L50 F F σ x1 x2 x3_49)
def fm_addsY_L26 (F : Nat) (σ : MS) (x1 : Int32) (x2 : Int32) : Option (MS) :=
  if (ms_yMany σ) ≤ x2 then (fm_addsY_L45 F σ x1 x2) else (gd (ix x2 20 = true) (if (ms_ys σ x2.toNatClampNeg) = x1 then (some σ) else (fm_addsY_L45 F σ x1 x2)))
def fm_addsY_L2_c (F : Nat) (k2 : MS → Int32 → Int32 → Option (MS)) (σ : MS) (x1 : Int32) (x2 : Int32) : Option (MS) :=
  if (ms_yMany σ) ≤ x2 then (fm_addsY_L26 F σ x1 x2) else (gd (ix x2 20 = true) (if x1 ≤ (ms_ys σ x2.toNatClampNeg) then (fm_addsY_L26 F σ x1 x2) else (lt (x2 + (1 : Int32)) (fun x2_20 => k2 σ x1 x2_20))))
def fm_addsY_L2 (F : Nat) (n : Nat) (σ : MS) (x1 : Int32) (x2 : Int32) : Option (MS) := lpN (fun (k : MS × Int32 × Int32 → Option (MS)) a => fm_addsY_L2_c F (fun σ x1 x2 => k (σ, x1, x2)) a.1 a.2.1 a.2.2) n (σ, x1, x2)
def fm_addsY (F : Nat) (σ : MS) (x1 : Int32) : Option (MS) :=
  fm_addsY_L2 F F σ x1 (0 : Int32)
set_option maxHeartbeats 4000000 in
set_option maxRecDepth 100000 in
theorem km_addsY (l : Launch) (D : va_G) (cA : Nat → ClassId) (ad : Nat → Nat) (σ0 : MS) (F : Nat) (a1 : Int32) (σr : MS) (hf : fm_addsY F σ0 a1 = some σr) : KW l D (tyG cA) yX10_addsY cX10_addsY 4 none (rmk 0 0) (wM cA ad σ0) [.ref (ad 0), .int a1] none (wM cA ad σr) := by
  refine KW.of (by decide) (Nat.le_of_ble_eq_true rfl) ?_
  intro p e s m below meth c A hAe hA C hr hlk hK hP hD hS ls hl
  have hl : lv_has ls 4 [(0, .ref (ad 0)), (1, .int a1)] := hl
  have hB50 : ∀ (n50 : Nat) (H : Heap) (locs : List Loc) (σ : MS) (ls : Array Slot) (x1 : Int32) (x2 : Int32) (x3 : Int32), va_P D vwCl (wM cA ad σ) H → va_D A (wM cA ad σ) → va_S A s.heap H locs → lv_has ls 4 [(0, .ref (ad 0)), (1, .int x1), (2, .int x2), (3, .int x3)] → fm_addsY_L50 F n50 σ x1 x2 x3 = some σr → WQ p l e 0 0 s m [.ref (ad 0), .int a1] below meth c none D (tyG cA) (wM cA ad σ0) (wM cA ad σr) A H locs (F0 m 50 ls []) := by
    intro n50
    induction n50 with
    | zero =>
      intro H locs σ ls x1 x2 x3 hP hD hS hl hf
      cases (show (none : Option _) = _ from hf)
    | succ n50 ih50 =>
      intro H locs σ ls x1 x2 x3 hP hD hS hl hf
      have hf : fm_addsY_L50_c F (fm_addsY_L50 F n50) σ x1 x2 x3 = some σr := hf
      unfold fm_addsY_L50_c at hf
      refine lv_iload_n C.1 C.2.1 dX10_addsY_50 rfl (lv_at hl 3 rfl) ?_
      refine lv_iload_n C.1 C.2.1 dX10_addsY_51 rfl (lv_at hl 2 rfl) ?_
      refine lv_icmp_le (tgt := 75) C.1 C.2.1 dX10_addsY_52 (by decide) (fun c52 => ?_) (fun c52 => ?_)
      · have hf := br_p c52 hf
        refine lv_aload_n C.1 C.2.1 dX10_addsY_75 rfl (lv_at hl 0 rfl) ?_
        refine gm_ys C hK hP dX10_addsY_76 ?_
        refine lv_iload_n C.1 C.2.1 dX10_addsY_79 rfl (lv_at hl 2 rfl) ?_
        refine lv_iload_n C.1 C.2.1 dX10_addsY_80 rfl (lv_at hl 1 rfl) ?_
        obtain ⟨hi81, hf⟩ := gd_some hf
        replace hf := lt_e hf
        refine sm_ys C hK hP hD hS hi81 dX10_addsY_81 (fun H locs hP hD hS => ?_)
        refine lv_aload_n C.1 C.2.1 dX10_addsY_82 rfl (lv_at hl 0 rfl) ?_
        refine lv_dup C.1 C.2.1 dX10_addsY_83 rfl ?_
        refine gm_yMany C hK hP dX10_addsY_84 ?_
        refine lv_iconst (v := (1 : Int32)) C.1 C.2.1 dX10_addsY_87 (by decide) ?_
        refine lv_iadd C.1 C.2.1 dX10_addsY_88 ?_
        replace hf := lt_e hf
        refine pm_yMany C hK hP hD hS dX10_addsY_89 (fun H locs hP hD hS => ?_)
        obtain rfl := Option.some.inj hf
        exact KW.vret C hr hlk hK hAe hP hD hS rfl dX10_addsY_92
      · have hf := br_n c52 hf
        refine lv_aload_n C.1 C.2.1 dX10_addsY_55 rfl (lv_at hl 0 rfl) ?_
        refine gm_ys C hK hP dX10_addsY_56 ?_
        refine lv_iload_n C.1 C.2.1 dX10_addsY_59 rfl (lv_at hl 3 rfl) ?_
        refine lv_aload_n C.1 C.2.1 dX10_addsY_60 rfl (lv_at hl 0 rfl) ?_
        refine gm_ys C hK hP dX10_addsY_61 ?_
        refine lv_iload_n C.1 C.2.1 dX10_addsY_64 rfl (lv_at hl 3 rfl) ?_
        refine lv_iconst (v := (1 : Int32)) C.1 C.2.1 dX10_addsY_65 (by decide) ?_
        refine lv_isub C.1 C.2.1 dX10_addsY_66 ?_
        obtain ⟨hi67, hf⟩ := gd_some hf
        refine lm_ys C hK hP hi67 dX10_addsY_67 ?_
        obtain ⟨hi68, hf⟩ := gd_some hf
        replace hf := lt_e hf
        refine sm_ys C hK hP hD hS hi68 dX10_addsY_68 (fun H locs hP hD hS => ?_)
        obtain ⟨x3_69, ex3_69, hf⟩ := lt_some hf
        refine lv_iinc (v := x3_69) (lv' := [(3, .int x3_69), (0, .ref (ad 0)), (1, .int x1), (2, .int x2)]) C.1 C.2.1 dX10_addsY_69 hl (k := 3) rfl (by rw [ex3_69]; rfl) (by decide) rfl (fun ls hl => ?_)
        refine lv_goto (tgt := 50) C.1 C.2.1 dX10_addsY_72 (by decide) ?_
        exact ih50 _ _ _ ls _ _ _ hP hD hS (lv_sub hl [1, 2, 3, 0] rfl) hf
  have hB45 : ∀ (H : Heap) (locs : List Loc) (σ : MS) (ls : Array Slot) (x1 : Int32) (x2 : Int32), va_P D vwCl (wM cA ad σ) H → va_D A (wM cA ad σ) → va_S A s.heap H locs → lv_has ls 4 [(0, .ref (ad 0)), (1, .int x1), (2, .int x2)] → fm_addsY_L45 F σ x1 x2 = some σr → WQ p l e 0 0 s m [.ref (ad 0), .int a1] below meth c none D (tyG cA) (wM cA ad σ0) (wM cA ad σr) A H locs (F0 m 45 ls []) := by
    intro H locs σ ls x1 x2 hP hD hS hl hf
    unfold fm_addsY_L45 at hf
    refine lv_aload_n C.1 C.2.1 dX10_addsY_45 rfl (lv_at hl 0 rfl) ?_
    refine gm_yMany C hK hP dX10_addsY_46 ?_
    obtain ⟨x3_49, ex3_49, hf⟩ := lt_some hf
    refine lv_tope ex3_49 ?_
    refine lv_istore_n (lv' := [(3, .int x3_49), (0, .ref (ad 0)), (1, .int x1), (2, .int x2)]) C.1 C.2.1 dX10_addsY_49 rfl hl (by decide) rfl (fun ls hl => ?_)
    exact hB50 F _ _ _ ls _ _ _ hP hD hS (lv_sub hl [1, 2, 3, 0] rfl) hf
  have hB26 : ∀ (H : Heap) (locs : List Loc) (σ : MS) (ls : Array Slot) (x1 : Int32) (x2 : Int32), va_P D vwCl (wM cA ad σ) H → va_D A (wM cA ad σ) → va_S A s.heap H locs → lv_has ls 4 [(0, .ref (ad 0)), (1, .int x1), (2, .int x2)] → fm_addsY_L26 F σ x1 x2 = some σr → WQ p l e 0 0 s m [.ref (ad 0), .int a1] below meth c none D (tyG cA) (wM cA ad σ0) (wM cA ad σr) A H locs (F0 m 26 ls []) := by
    intro H locs σ ls x1 x2 hP hD hS hl hf
    unfold fm_addsY_L26 at hf
    refine lv_iload_n C.1 C.2.1 dX10_addsY_26 rfl (lv_at hl 2 rfl) ?_
    refine lv_aload_n C.1 C.2.1 dX10_addsY_27 rfl (lv_at hl 0 rfl) ?_
    refine gm_yMany C hK hP dX10_addsY_28 ?_
    refine lv_icmp_ge (tgt := 45) C.1 C.2.1 dX10_addsY_31 (by decide) (fun c31 => ?_) (fun c31 => ?_)
    · have hf := br_p c31 hf
      exact hB45 _ _ _ ls _ _ hP hD hS (lv_sub hl [0, 1, 2] rfl) hf
    · have hf := br_n c31 hf
      refine lv_aload_n C.1 C.2.1 dX10_addsY_34 rfl (lv_at hl 0 rfl) ?_
      refine gm_ys C hK hP dX10_addsY_35 ?_
      refine lv_iload_n C.1 C.2.1 dX10_addsY_38 rfl (lv_at hl 2 rfl) ?_
      obtain ⟨hi39, hf⟩ := gd_some hf
      refine lm_ys C hK hP hi39 dX10_addsY_39 ?_
      refine lv_iload_n C.1 C.2.1 dX10_addsY_40 rfl (lv_at hl 1 rfl) ?_
      refine lv_icmp_ne (tgt := 45) C.1 C.2.1 dX10_addsY_41 (by decide) (fun c41 => ?_) (fun c41 => ?_)
      · have hf := br_n c41 hf
        exact hB45 _ _ _ ls _ _ hP hD hS (lv_sub hl [0, 1, 2] rfl) hf
      · have hf := br_p c41 hf
        obtain rfl := Option.some.inj hf
        exact KW.vret C hr hlk hK hAe hP hD hS rfl dX10_addsY_44
  have hB2 : ∀ (n2 : Nat) (H : Heap) (locs : List Loc) (σ : MS) (ls : Array Slot) (x1 : Int32) (x2 : Int32), va_P D vwCl (wM cA ad σ) H → va_D A (wM cA ad σ) → va_S A s.heap H locs → lv_has ls 4 [(0, .ref (ad 0)), (1, .int x1), (2, .int x2)] → fm_addsY_L2 F n2 σ x1 x2 = some σr → WQ p l e 0 0 s m [.ref (ad 0), .int a1] below meth c none D (tyG cA) (wM cA ad σ0) (wM cA ad σr) A H locs (F0 m 2 ls []) := by
    intro n2
    induction n2 with
    | zero =>
      intro H locs σ ls x1 x2 hP hD hS hl hf
      cases (show (none : Option _) = _ from hf)
    | succ n2 ih2 =>
      intro H locs σ ls x1 x2 hP hD hS hl hf
      have hf : fm_addsY_L2_c F (fm_addsY_L2 F n2) σ x1 x2 = some σr := hf
      unfold fm_addsY_L2_c at hf
      refine lv_iload_n C.1 C.2.1 dX10_addsY_2 rfl (lv_at hl 2 rfl) ?_
      refine lv_aload_n C.1 C.2.1 dX10_addsY_3 rfl (lv_at hl 0 rfl) ?_
      refine gm_yMany C hK hP dX10_addsY_4 ?_
      refine lv_icmp_ge (tgt := 26) C.1 C.2.1 dX10_addsY_7 (by decide) (fun c7 => ?_) (fun c7 => ?_)
      · have hf := br_p c7 hf
        exact hB26 _ _ _ ls _ _ hP hD hS (lv_sub hl [0, 1, 2] rfl) hf
      · have hf := br_n c7 hf
        refine lv_aload_n C.1 C.2.1 dX10_addsY_10 rfl (lv_at hl 0 rfl) ?_
        refine gm_ys C hK hP dX10_addsY_11 ?_
        refine lv_iload_n C.1 C.2.1 dX10_addsY_14 rfl (lv_at hl 2 rfl) ?_
        obtain ⟨hi15, hf⟩ := gd_some hf
        refine lm_ys C hK hP hi15 dX10_addsY_15 ?_
        refine lv_iload_n C.1 C.2.1 dX10_addsY_16 rfl (lv_at hl 1 rfl) ?_
        refine lv_icmp_ge (tgt := 26) C.1 C.2.1 dX10_addsY_17 (by decide) (fun c17 => ?_) (fun c17 => ?_)
        · have hf := br_p c17 hf
          exact hB26 _ _ _ ls _ _ hP hD hS (lv_sub hl [0, 1, 2] rfl) hf
        · have hf := br_n c17 hf
          obtain ⟨x2_20, ex2_20, hf⟩ := lt_some hf
          refine lv_iinc (v := x2_20) (lv' := [(2, .int x2_20), (0, .ref (ad 0)), (1, .int x1)]) C.1 C.2.1 dX10_addsY_20 hl (k := 2) rfl (by rw [ex2_20]; rfl) (by decide) rfl (fun ls hl => ?_)
          refine lv_goto (tgt := 2) C.1 C.2.1 dX10_addsY_23 (by decide) ?_
          exact ih2 _ _ _ ls _ _ hP hD hS (lv_sub hl [1, 2, 0] rfl) hf
  unfold fm_addsY at hf
  refine lv_iconst (v := (0 : Int32)) C.1 C.2.1 dX10_addsY_0 (by decide) ?_
  refine lv_istore_n (lv' := [(2, .int (0 : Int32)), (0, .ref (ad 0)), (1, .int a1)]) C.1 C.2.1 dX10_addsY_1 rfl hl (by decide) rfl (fun ls hl => ?_)
  exact hB2 F _ _ _ ls _ _ hP hD hS (lv_sub hl [1, 2, 0] rfl) hf
def fm_makesGrid_L424 (F : Nat) (k185 : MS → Int32 → Option (MS)) (k195 : MS → Int32 → Int32 → Option (MS)) (σ : MS) (x2 : Int32) (x3 : Int32) (x5 : Int32) : Option (MS) :=
  gd (ix (((20 : Int32) * x2) + x3) 400 = true) (gd (x5 = 0 ∨ x5 = 1) (lt (st_down σ (((20 : Int32) * x2) + x3) x5) (fun σ436 => lt (x3 + (1 : Int32)) (fun x3_437 => k195 σ436 x2 x3_437))))
def fm_makesGrid_L416 (F : Nat) (k185 : MS → Int32 → Option (MS)) (k195 : MS → Int32 → Int32 → Option (MS)) (k375 : MS → Int32 → Int32 → Int32 → Int32 → Option (MS)) (σ : MS) (x2 : Int32) (x3 : Int32) (x6 : Int32) (s0 : Int32) : Option (MS) :=
  lt (x6 + (1 : Int32)) (fun x6_418 => k375 σ x2 x3 s0 x6_418)
def fm_makesGrid_L375_c (F : Nat) (k185 : MS → Int32 → Option (MS)) (k195 : MS → Int32 → Int32 → Option (MS)) (k375 : MS → Int32 → Int32 → Int32 → Int32 → Option (MS)) (σ : MS) (x2 : Int32) (x3 : Int32) (x5 : Int32) (x6 : Int32) : Option (MS) :=
  if x5 = 0 then (fm_makesGrid_L424 F k185 k195 σ x2 x3 x5) else (gd (ix (x3 + (1 : Int32)) 20 = true) (if (ms_ys σ (x3 + (1 : Int32)).toNatClampNeg) ≤ x6 then (fm_makesGrid_L424 F k185 k195 σ x2 x3 x5) else (gd (ix x2 20 = true) (bd (fm_blockerOf F σ (ms_xs σ x2.toNatClampNeg) x6) (fun r402 => if r402 = (-1000 : Int32) then (fm_makesGrid_L416 F k185 k195 k375 σ x2 x3 x6 (1 : Int32)) else (fm_makesGrid_L416 F k185 k195 k375 σ x2 x3 x6 (0 : Int32)))))))
def fm_makesGrid_L375 (F : Nat) (k185 : MS → Int32 → Option (MS)) (k195 : MS → Int32 → Int32 → Option (MS)) (n : Nat) (σ : MS) (x2 : Int32) (x3 : Int32) (x5 : Int32) (x6 : Int32) : Option (MS) := lpN (fun (k : MS × Int32 × Int32 × Int32 × Int32 → Option (MS)) a => fm_makesGrid_L375_c F k185 k195 (fun σ x2 x3 x5 x6 => k (σ, x2, x3, x5, x6)) a.1 a.2.1 a.2.2.1 a.2.2.2.1 a.2.2.2.2) n (σ, x2, x3, x5, x6)
def fm_makesGrid_L365 (F : Nat) (k185 : MS → Int32 → Option (MS)) (k195 : MS → Int32 → Int32 → Option (MS)) (σ : MS) (x2 : Int32) (x3 : Int32) (s0 : Int32) : Option (MS) :=
  gd (ix x3 20 = true) (lt (ms_ys σ x3.toNatClampNeg) (fun x6_373 => fm_makesGrid_L375 F k185 k195 F σ x2 x3 s0 x6_373))
def fm_makesGrid_L364 (F : Nat) (k185 : MS → Int32 → Option (MS)) (k195 : MS → Int32 → Int32 → Option (MS)) (σ : MS) (x2 : Int32) (x3 : Int32) : Option (MS) :=
  fm_makesGrid_L365 F k185 k195 σ x2 x3 (0 : Int32)
def fm_makesGrid_L307 (F : Nat) (k185 : MS → Int32 → Option (MS)) (k195 : MS → Int32 → Int32 → Option (MS)) (σ : MS) (x2 : Int32) (x3 : Int32) (x4 : Int32) : Option (MS) :=
  gd (ix (((20 : Int32) * x2) + x3) 400 = true) (gd (x4 = 0 ∨ x4 = 1) (lt (st_right σ (((20 : Int32) * x2) + x3) x4) (fun σ319 => if (ms_yMany σ319) ≤ (x3 + (1 : Int32)) then (fm_makesGrid_L364 F k185 k195 σ319 x2 x3) else (gd (ix (((20 : Int32) * x2) + x3) 400 = true) (if (ms_isNode σ319 (((20 : Int32) * x2) + x3).toNatClampNeg) = 0 then (fm_makesGrid_L364 F k185 k195 σ319 x2 x3) else (gd (ix ((((20 : Int32) * x2) + x3) + (1 : Int32)) 400 = true) (if (ms_isNode σ319 ((((20 : Int32) * x2) + x3) + (1 : Int32)).toNatClampNeg) = 0 then (fm_makesGrid_L364 F k185 k195 σ319 x2 x3) else (fm_makesGrid_L365 F k185 k195 σ319 x2 x3 (1 : Int32)))))))))
def fm_makesGrid_L299 (F : Nat) (k185 : MS → Int32 → Option (MS)) (k195 : MS → Int32 → Int32 → Option (MS)) (k258 : MS → Int32 → Int32 → Int32 → Int32 → Option (MS)) (σ : MS) (x2 : Int32) (x3 : Int32) (x5 : Int32) (s0 : Int32) : Option (MS) :=
  lt (x5 + (1 : Int32)) (fun x5_301 => k258 σ x2 x3 s0 x5_301)
def fm_makesGrid_L258_c (F : Nat) (k185 : MS → Int32 → Option (MS)) (k195 : MS → Int32 → Int32 → Option (MS)) (k258 : MS → Int32 → Int32 → Int32 → Int32 → Option (MS)) (σ : MS) (x2 : Int32) (x3 : Int32) (x4 : Int32) (x5 : Int32) : Option (MS) :=
  if x4 = 0 then (fm_makesGrid_L307 F k185 k195 σ x2 x3 x4) else (gd (ix (x2 + (1 : Int32)) 20 = true) (if (ms_xs σ (x2 + (1 : Int32)).toNatClampNeg) ≤ x5 then (fm_makesGrid_L307 F k185 k195 σ x2 x3 x4) else (gd (ix x3 20 = true) (bd (fm_blockerOf F σ x5 (ms_ys σ x3.toNatClampNeg)) (fun r285 => if r285 = (-1000 : Int32) then (fm_makesGrid_L299 F k185 k195 k258 σ x2 x3 x5 (1 : Int32)) else (fm_makesGrid_L299 F k185 k195 k258 σ x2 x3 x5 (0 : Int32)))))))
def fm_makesGrid_L258 (F : Nat) (k185 : MS → Int32 → Option (MS)) (k195 : MS → Int32 → Int32 → Option (MS)) (n : Nat) (σ : MS) (x2 : Int32) (x3 : Int32) (x4 : Int32) (x5 : Int32) : Option (MS) := lpN (fun (k : MS × Int32 × Int32 × Int32 × Int32 → Option (MS)) a => fm_makesGrid_L258_c F k185 k195 (fun σ x2 x3 x4 x5 => k (σ, x2, x3, x4, x5)) a.1 a.2.1 a.2.2.1 a.2.2.2.1 a.2.2.2.2) n (σ, x2, x3, x4, x5)
def fm_makesGrid_L248 (F : Nat) (k185 : MS → Int32 → Option (MS)) (k195 : MS → Int32 → Int32 → Option (MS)) (σ : MS) (x2 : Int32) (x3 : Int32) (s0 : Int32) : Option (MS) :=
  gd (ix x2 20 = true) (lt (ms_xs σ x2.toNatClampNeg) (fun x5_256 => fm_makesGrid_L258 F k185 k195 F σ x2 x3 s0 x5_256))
def fm_makesGrid_L247 (F : Nat) (k185 : MS → Int32 → Option (MS)) (k195 : MS → Int32 → Int32 → Option (MS)) (σ : MS) (x2 : Int32) (x3 : Int32) : Option (MS) :=
  fm_makesGrid_L248 F k185 k195 σ x2 x3 (0 : Int32)
def fm_makesGrid_L195_c (F : Nat) (k185 : MS → Int32 → Option (MS)) (k195 : MS → Int32 → Int32 → Option (MS)) (σ : MS) (x2 : Int32) (x3 : Int32) : Option (MS) :=
  if (ms_yMany σ) ≤ x3 then (lt (x2 + (1 : Int32)) (fun x2_443 => k185 σ x2_443)) else (if (ms_xMany σ) ≤ (x2 + (1 : Int32)) then (fm_makesGrid_L247 F k185 k195 σ x2 x3) else (gd (ix (((20 : Int32) * x2) + x3) 400 = true) (if (ms_isNode σ (((20 : Int32) * x2) + x3).toNatClampNeg) = 0 then (fm_makesGrid_L247 F k185 k195 σ x2 x3) else (gd (ix (((20 : Int32) * (x2 + (1 : Int32))) + x3) 400 = true) (if (ms_isNode σ (((20 : Int32) * (x2 + (1 : Int32))) + x3).toNatClampNeg) = 0 then (fm_makesGrid_L247 F k185 k195 σ x2 x3) else (fm_makesGrid_L248 F k185 k195 σ x2 x3 (1 : Int32)))))))
def fm_makesGrid_L195 (F : Nat) (k185 : MS → Int32 → Option (MS)) (n : Nat) (σ : MS) (x2 : Int32) (x3 : Int32) : Option (MS) := lpN (fun (k : MS × Int32 × Int32 → Option (MS)) a => fm_makesGrid_L195_c F k185 (fun σ x2 x3 => k (σ, x2, x3)) a.1 a.2.1 a.2.2) n (σ, x2, x3)
def fm_makesGrid_L185_c (F : Nat) (k185 : MS → Int32 → Option (MS)) (σ : MS) (x2 : Int32) : Option (MS) :=
  if (ms_xMany σ) ≤ x2 then (some σ) else (fm_makesGrid_L195 F k185 F σ x2 (0 : Int32))
def fm_makesGrid_L185 (F : Nat) (n : Nat) (σ : MS) (x2 : Int32) : Option (MS) := lpN (fun (k : MS × Int32 → Option (MS)) a => fm_makesGrid_L185_c F (fun σ x2 => k (σ, x2)) a.1 a.2) n (σ, x2)
def fm_makesGrid_L170 (F : Nat) (k115 : MS → Int32 → Option (MS)) (k125 : MS → Int32 → Int32 → Option (MS)) (σ : MS) (x2 : Int32) (x3 : Int32) (s0 : Int32) (s1 : Int32) : Option (MS) :=
  gd (ix s1 400 = true) (gd (s0 = 0 ∨ s0 = 1) (lt (st_isNode σ s1 s0) (fun σ170 => lt (x3 + (1 : Int32)) (fun x3_171 => k125 σ170 x2 x3_171))))
def fm_makesGrid_L125_c (F : Nat) (k115 : MS → Int32 → Option (MS)) (k125 : MS → Int32 → Int32 → Option (MS)) (σ : MS) (x2 : Int32) (x3 : Int32) : Option (MS) :=
  if (ms_yMany σ) ≤ x3 then (lt (x2 + (1 : Int32)) (fun x2_177 => k115 σ x2_177)) else (gd (ix x2 20 = true) (gd (ix x3 20 = true) (bd (fm_blockerOf F σ (ms_xs σ x2.toNatClampNeg) (ms_ys σ x3.toNatClampNeg)) (fun r156 => if r156 = (-1000 : Int32) then (fm_makesGrid_L170 F k115 k125 σ x2 x3 (1 : Int32) (((20 : Int32) * x2) + x3)) else (fm_makesGrid_L170 F k115 k125 σ x2 x3 (0 : Int32) (((20 : Int32) * x2) + x3))))))
def fm_makesGrid_L125 (F : Nat) (k115 : MS → Int32 → Option (MS)) (n : Nat) (σ : MS) (x2 : Int32) (x3 : Int32) : Option (MS) := lpN (fun (k : MS × Int32 × Int32 → Option (MS)) a => fm_makesGrid_L125_c F k115 (fun σ x2 x3 => k (σ, x2, x3)) a.1 a.2.1 a.2.2) n (σ, x2, x3)
def fm_makesGrid_L115_c (F : Nat) (k115 : MS → Int32 → Option (MS)) (σ : MS) (x2 : Int32) : Option (MS) :=
  if (ms_xMany σ) ≤ x2 then (fm_makesGrid_L185 F F σ (0 : Int32)) else (fm_makesGrid_L125 F k115 F σ x2 (0 : Int32))
def fm_makesGrid_L115 (F : Nat) (n : Nat) (σ : MS) (x2 : Int32) : Option (MS) := lpN (fun (k : MS × Int32 → Option (MS)) a => fm_makesGrid_L115_c F (fun σ x2 => k (σ, x2)) a.1 a.2) n (σ, x2)
def fm_makesGrid_L78_c (F : Nat) (k78 : MS → Int32 → Int32 → Option (MS)) (σ : MS) (x1 : Int32) (x2 : Int32) : Option (MS) :=
  if (2 : Int32) ≤ x2 then (fm_makesGrid_L115 F F σ (0 : Int32)) else (bd (fm_portOf F σ x1 x2 (1 : Int32) (1 : Int32)) (fun r89 => bd (fm_addsX F σ r89) (fun σ92 => bd (fm_portOf F σ92 x1 x2 (0 : Int32) (1 : Int32)) (fun r101 => bd (fm_addsY F σ92 r101) (fun σ104 => lt (x2 + (1 : Int32)) (fun x2_107 => k78 σ104 x1 x2_107))))))
def fm_makesGrid_L78 (F : Nat) (n : Nat) (σ : MS) (x1 : Int32) (x2 : Int32) : Option (MS) := lpN (fun (k : MS × Int32 × Int32 → Option (MS)) a => fm_makesGrid_L78_c F (fun σ x1 x2 => k (σ, x1, x2)) a.1 a.2.1 a.2.2) n (σ, x1, x2)
def fm_makesGrid_L12_c (F : Nat) (k12 : MS → Int32 → Int32 → Option (MS)) (σ : MS) (x1 : Int32) (x2 : Int32) : Option (MS) :=
  gd (ix (0 : Int32) 8625 = true) (if (ms_row σ (0 : Int32).toNatClampNeg) ≤ x2 then (fm_makesGrid_L78 F F σ x1 (0 : Int32)) else (bd (fm_side F σ x2 (0 : Int32)) (fun r26 => bd (fm_addsX F σ (r26 - (1 : Int32))) (fun σ31 => bd (fm_side F σ31 x2 (2 : Int32)) (fun r38 => bd (fm_addsX F σ31 (r38 + (1 : Int32))) (fun σ43 => bd (fm_side F σ43 x2 (1 : Int32)) (fun r50 => bd (fm_addsY F σ43 (r50 - (1 : Int32))) (fun σ55 => bd (fm_side F σ55 x2 (3 : Int32)) (fun r62 => bd (fm_addsY F σ55 (r62 + (1 : Int32))) (fun σ67 => lt (x2 + (1 : Int32)) (fun x2_70 => k12 σ67 x1 x2_70)))))))))))
def fm_makesGrid_L12 (F : Nat) (n : Nat) (σ : MS) (x1 : Int32) (x2 : Int32) : Option (MS) := lpN (fun (k : MS × Int32 × Int32 → Option (MS)) a => fm_makesGrid_L12_c F (fun σ x1 x2 => k (σ, x1, x2)) a.1 a.2.1 a.2.2) n (σ, x1, x2)
def fm_makesGrid (F : Nat) (σ : MS) (x1 : Int32) : Option (MS) :=
  lt (ms_xMany_s σ (0 : Int32)) (fun σ2 => lt (ms_yMany_s σ2 (0 : Int32)) (fun σ7 => fm_makesGrid_L12 F F σ7 x1 (0 : Int32)))
set_option maxHeartbeats 4000000 in
set_option maxRecDepth 100000 in
theorem km_makesGrid (l : Launch) (D : va_G) (cA : Nat → ClassId) (ad : Nat → Nat) (σ0 : MS) (F : Nat) (a1 : Int32) (σr : MS) (hf : fm_makesGrid F σ0 a1 = some σr) : KW l D (tyG cA) yX10_makesGrid cX10_makesGrid 7 none (rmk 2 49) (wM cA ad σ0) [.ref (ad 0), .int a1] none (wM cA ad σr) := by
  refine KW.of (by decide) (Nat.le_of_ble_eq_true rfl) ?_
  intro p e s m below meth c A hAe hA C hr hlk hK hP hD hS ls hl
  have hl : lv_has ls 7 [(0, .ref (ad 0)), (1, .int a1)] := hl
  have hB185 : ∀ (n185 : Nat) (H : Heap) (locs : List Loc) (σ : MS) (ls : Array Slot) (x2 : Int32), va_P D vwCl (wM cA ad σ) H → va_D A (wM cA ad σ) → va_S A s.heap H locs → lv_has ls 7 [(0, .ref (ad 0)), (2, .int x2)] → fm_makesGrid_L185 F n185 σ x2 = some σr → WQ p l e 2 49 s m [.ref (ad 0), .int a1] below meth c none D (tyG cA) (wM cA ad σ0) (wM cA ad σr) A H locs (F0 m 185 ls []) := by
    intro n185
    induction n185 with
    | zero =>
      intro H locs σ ls x2 hP hD hS hl hf
      cases (show (none : Option _) = _ from hf)
    | succ n185 ih185 =>
      have hB195 : ∀ (n195 : Nat) (H : Heap) (locs : List Loc) (σ : MS) (ls : Array Slot) (x2 : Int32) (x3 : Int32), va_P D vwCl (wM cA ad σ) H → va_D A (wM cA ad σ) → va_S A s.heap H locs → lv_has ls 7 [(0, .ref (ad 0)), (2, .int x2), (3, .int x3)] → fm_makesGrid_L195 F (fm_makesGrid_L185 F n185) n195 σ x2 x3 = some σr → WQ p l e 2 49 s m [.ref (ad 0), .int a1] below meth c none D (tyG cA) (wM cA ad σ0) (wM cA ad σr) A H locs (F0 m 195 ls []) := by
        intro n195
        induction n195 with
        | zero =>
          intro H locs σ ls x2 x3 hP hD hS hl hf
          cases (show (none : Option _) = _ from hf)
        | succ n195 ih195 =>
          have hB424 : ∀ (H : Heap) (locs : List Loc) (σ : MS) (ls : Array Slot) (x2 : Int32) (x3 : Int32) (x5 : Int32), va_P D vwCl (wM cA ad σ) H → va_D A (wM cA ad σ) → va_S A s.heap H locs → lv_has ls 7 [(0, .ref (ad 0)), (2, .int x2), (3, .int x3), (5, .int x5)] → fm_makesGrid_L424 F (fm_makesGrid_L185 F n185) (fm_makesGrid_L195 F (fm_makesGrid_L185 F n185) n195) σ x2 x3 x5 = some σr → WQ p l e 2 49 s m [.ref (ad 0), .int a1] below meth c none D (tyG cA) (wM cA ad σ0) (wM cA ad σr) A H locs (F0 m 424 ls []) := by
            intro H locs σ ls x2 x3 x5 hP hD hS hl hf
            unfold fm_makesGrid_L424 at hf
            refine lv_aload_n C.1 C.2.1 dX10_makesGrid_424 rfl (lv_at hl 0 rfl) ?_
            refine gm_down C hK hP dX10_makesGrid_425 ?_
            refine lv_bipush (v := (20 : Int32)) C.1 C.2.1 dX10_makesGrid_428 (by decide) ?_
            refine lv_iload_n C.1 C.2.1 dX10_makesGrid_430 rfl (lv_at hl 1 rfl) ?_
            refine lv_imul C.1 C.2.1 dX10_makesGrid_431 ?_
            refine lv_iload_n C.1 C.2.1 dX10_makesGrid_432 rfl (lv_at hl 2 rfl) ?_
            refine lv_iadd C.1 C.2.1 dX10_makesGrid_433 ?_
            refine lv_iload C.1 C.2.1 dX10_makesGrid_434 (lv_at hl 3 rfl) ?_
            obtain ⟨hi436, hf⟩ := gd_some hf
            obtain ⟨hz436, hf⟩ := gd_some hf
            replace hf := lt_e hf
            refine sm_down C hK hP hD hS hi436 hz436 dX10_makesGrid_436 (fun H locs hP hD hS => ?_)
            obtain ⟨x3_437, ex3_437, hf⟩ := lt_some hf
            refine lv_iinc (v := x3_437) (lv' := [(3, .int x3_437), (0, .ref (ad 0)), (2, .int x2), (5, .int x5)]) C.1 C.2.1 dX10_makesGrid_437 hl (k := 2) rfl (by rw [ex3_437]; rfl) (by decide) rfl (fun ls hl => ?_)
            refine lv_goto (tgt := 195) C.1 C.2.1 dX10_makesGrid_440 (by decide) ?_
            exact ih195 _ _ _ ls _ _ hP hD hS (lv_sub hl [1, 2, 0] rfl) hf
          have hB375 : ∀ (n375 : Nat) (H : Heap) (locs : List Loc) (σ : MS) (ls : Array Slot) (x2 : Int32) (x3 : Int32) (x5 : Int32) (x6 : Int32), va_P D vwCl (wM cA ad σ) H → va_D A (wM cA ad σ) → va_S A s.heap H locs → lv_has ls 7 [(0, .ref (ad 0)), (2, .int x2), (3, .int x3), (5, .int x5), (6, .int x6)] → fm_makesGrid_L375 F (fm_makesGrid_L185 F n185) (fm_makesGrid_L195 F (fm_makesGrid_L185 F n185) n195) n375 σ x2 x3 x5 x6 = some σr → WQ p l e 2 49 s m [.ref (ad 0), .int a1] below meth c none D (tyG cA) (wM cA ad σ0) (wM cA ad σr) A H locs (F0 m 375 ls []) := by
            intro n375
            induction n375 with
            | zero =>
              intro H locs σ ls x2 x3 x5 x6 hP hD hS hl hf
              cases (show (none : Option _) = _ from hf)
            | succ n375 ih375 =>
              have hB416 : ∀ (H : Heap) (locs : List Loc) (σ : MS) (ls : Array Slot) (x2 : Int32) (x3 : Int32) (x6 : Int32) (s0 : Int32), va_P D vwCl (wM cA ad σ) H → va_D A (wM cA ad σ) → va_S A s.heap H locs → lv_has ls 7 [(0, .ref (ad 0)), (2, .int x2), (3, .int x3), (6, .int x6)] → fm_makesGrid_L416 F (fm_makesGrid_L185 F n185) (fm_makesGrid_L195 F (fm_makesGrid_L185 F n185) n195) (fm_makesGrid_L375 F (fm_makesGrid_L185 F n185) (fm_makesGrid_L195 F (fm_makesGrid_L185 F n185) n195) n375) σ x2 x3 x6 s0 = some σr → WQ p l e 2 49 s m [.ref (ad 0), .int a1] below meth c none D (tyG cA) (wM cA ad σ0) (wM cA ad σr) A H locs (F0 m 416 ls [.int s0]) := by
                intro H locs σ ls x2 x3 x6 s0 hP hD hS hl hf
                unfold fm_makesGrid_L416 at hf
                refine lv_istore (lv' := [(5, .int s0), (0, .ref (ad 0)), (2, .int x2), (3, .int x3), (6, .int x6)]) C.1 C.2.1 dX10_makesGrid_416 hl (by decide) rfl (fun ls hl => ?_)
                obtain ⟨x6_418, ex6_418, hf⟩ := lt_some hf
                refine lv_iinc (v := x6_418) (lv' := [(6, .int x6_418), (5, .int s0), (0, .ref (ad 0)), (2, .int x2), (3, .int x3)]) C.1 C.2.1 dX10_makesGrid_418 hl (k := 4) rfl (by rw [ex6_418]; rfl) (by decide) rfl (fun ls hl => ?_)
                refine lv_goto (tgt := 375) C.1 C.2.1 dX10_makesGrid_421 (by decide) ?_
                exact ih375 _ _ _ ls _ _ _ _ hP hD hS (lv_sub hl [2, 3, 4, 1, 0] rfl) hf
              intro H locs σ ls x2 x3 x5 x6 hP hD hS hl hf
              have hf : fm_makesGrid_L375_c F (fm_makesGrid_L185 F n185) (fm_makesGrid_L195 F (fm_makesGrid_L185 F n185) n195) (fm_makesGrid_L375 F (fm_makesGrid_L185 F n185) (fm_makesGrid_L195 F (fm_makesGrid_L185 F n185) n195) n375) σ x2 x3 x5 x6 = some σr := hf
              unfold fm_makesGrid_L375_c at hf
              refine lv_iload C.1 C.2.1 dX10_makesGrid_375 (lv_at hl 3 rfl) ?_
              refine lv_if_eq (tgt := 424) C.1 C.2.1 dX10_makesGrid_377 (by decide) (fun c377 => ?_) (fun c377 => ?_)
              · have hf := br_p c377 hf
                exact hB424 _ _ _ ls _ _ _ hP hD hS (lv_sub hl [0, 1, 2, 3] rfl) hf
              · have hf := br_n c377 hf
                refine lv_iload C.1 C.2.1 dX10_makesGrid_380 (lv_at hl 4 rfl) ?_
                refine lv_aload_n C.1 C.2.1 dX10_makesGrid_382 rfl (lv_at hl 0 rfl) ?_
                refine gm_ys C hK hP dX10_makesGrid_383 ?_
                refine lv_iload_n C.1 C.2.1 dX10_makesGrid_386 rfl (lv_at hl 2 rfl) ?_
                refine lv_iconst (v := (1 : Int32)) C.1 C.2.1 dX10_makesGrid_387 (by decide) ?_
                refine lv_iadd C.1 C.2.1 dX10_makesGrid_388 ?_
                obtain ⟨hi389, hf⟩ := gd_some hf
                refine lm_ys C hK hP hi389 dX10_makesGrid_389 ?_
                refine lv_icmp_ge (tgt := 424) C.1 C.2.1 dX10_makesGrid_390 (by decide) (fun c390 => ?_) (fun c390 => ?_)
                · have hf := br_p c390 hf
                  exact hB424 _ _ _ ls _ _ _ hP hD hS (lv_sub hl [0, 1, 2, 3] rfl) hf
                · have hf := br_n c390 hf
                  refine lv_aload_n C.1 C.2.1 dX10_makesGrid_393 rfl (lv_at hl 0 rfl) ?_
                  refine lv_aload_n C.1 C.2.1 dX10_makesGrid_394 rfl (lv_at hl 0 rfl) ?_
                  refine gm_xs C hK hP dX10_makesGrid_395 ?_
                  refine lv_iload_n C.1 C.2.1 dX10_makesGrid_398 rfl (lv_at hl 1 rfl) ?_
                  obtain ⟨hi399, hf⟩ := gd_some hf
                  refine lm_xs C hK hP hi399 dX10_makesGrid_399 ?_
                  refine lv_iload C.1 C.2.1 dX10_makesGrid_400 (lv_at hl 4 rfl) ?_
                  obtain ⟨r402, hc402, hf⟩ := bd_some hf
                  refine callRV (As := [_, _]) C hK hP wv_X10_101 hl (km_blockerOf l D cA ad _ F _ _ r402 hc402) (rcM hK hP) rfl rfl rfl (Nat.le_of_ble_eq_true rfl) ⟨Nat.le_refl _, Nat.le_refl _⟩ dX10_makesGrid_402 ?_
                  refine lv_sipush (v := (-1000 : Int32)) C.1 C.2.1 dX10_makesGrid_405 (by decide) ?_
                  refine lv_icmp_ne (tgt := 415) C.1 C.2.1 dX10_makesGrid_408 (by decide) (fun c408 => ?_) (fun c408 => ?_)
                  · have hf := br_n c408 hf
                    refine lv_iconst (v := (0 : Int32)) C.1 C.2.1 dX10_makesGrid_415 (by decide) ?_
                    exact hB416 _ _ _ ls _ _ _ _ hP hD hS (lv_sub hl [0, 1, 2, 4] rfl) hf
                  · have hf := br_p c408 hf
                    refine lv_iconst (v := (1 : Int32)) C.1 C.2.1 dX10_makesGrid_411 (by decide) ?_
                    refine lv_goto (tgt := 416) C.1 C.2.1 dX10_makesGrid_412 (by decide) ?_
                    exact hB416 _ _ _ ls _ _ _ _ hP hD hS (lv_sub hl [0, 1, 2, 4] rfl) hf
          have hB365 : ∀ (H : Heap) (locs : List Loc) (σ : MS) (ls : Array Slot) (x2 : Int32) (x3 : Int32) (s0 : Int32), va_P D vwCl (wM cA ad σ) H → va_D A (wM cA ad σ) → va_S A s.heap H locs → lv_has ls 7 [(0, .ref (ad 0)), (2, .int x2), (3, .int x3)] → fm_makesGrid_L365 F (fm_makesGrid_L185 F n185) (fm_makesGrid_L195 F (fm_makesGrid_L185 F n185) n195) σ x2 x3 s0 = some σr → WQ p l e 2 49 s m [.ref (ad 0), .int a1] below meth c none D (tyG cA) (wM cA ad σ0) (wM cA ad σr) A H locs (F0 m 365 ls [.int s0]) := by
            intro H locs σ ls x2 x3 s0 hP hD hS hl hf
            unfold fm_makesGrid_L365 at hf
            refine lv_istore (lv' := [(5, .int s0), (0, .ref (ad 0)), (2, .int x2), (3, .int x3)]) C.1 C.2.1 dX10_makesGrid_365 hl (by decide) rfl (fun ls hl => ?_)
            refine lv_aload_n C.1 C.2.1 dX10_makesGrid_367 rfl (lv_at hl 1 rfl) ?_
            refine gm_ys C hK hP dX10_makesGrid_368 ?_
            refine lv_iload_n C.1 C.2.1 dX10_makesGrid_371 rfl (lv_at hl 3 rfl) ?_
            obtain ⟨hi372, hf⟩ := gd_some hf
            refine lm_ys C hK hP hi372 dX10_makesGrid_372 ?_
            obtain ⟨x6_373, ex6_373, hf⟩ := lt_some hf
            refine lv_tope ex6_373 ?_
            refine lv_istore (lv' := [(6, .int x6_373), (5, .int s0), (0, .ref (ad 0)), (2, .int x2), (3, .int x3)]) C.1 C.2.1 dX10_makesGrid_373 hl (by decide) rfl (fun ls hl => ?_)
            exact hB375 F _ _ _ ls _ _ _ _ hP hD hS (lv_sub hl [2, 3, 4, 1, 0] rfl) hf
          have hB364 : ∀ (H : Heap) (locs : List Loc) (σ : MS) (ls : Array Slot) (x2 : Int32) (x3 : Int32), va_P D vwCl (wM cA ad σ) H → va_D A (wM cA ad σ) → va_S A s.heap H locs → lv_has ls 7 [(0, .ref (ad 0)), (2, .int x2), (3, .int x3)] → fm_makesGrid_L364 F (fm_makesGrid_L185 F n185) (fm_makesGrid_L195 F (fm_makesGrid_L185 F n185) n195) σ x2 x3 = some σr → WQ p l e 2 49 s m [.ref (ad 0), .int a1] below meth c none D (tyG cA) (wM cA ad σ0) (wM cA ad σr) A H locs (F0 m 364 ls []) := by
            intro H locs σ ls x2 x3 hP hD hS hl hf
            unfold fm_makesGrid_L364 at hf
            refine lv_iconst (v := (0 : Int32)) C.1 C.2.1 dX10_makesGrid_364 (by decide) ?_
            exact hB365 _ _ _ ls _ _ _ hP hD hS (lv_sub hl [0, 1, 2] rfl) hf
          have hB307 : ∀ (H : Heap) (locs : List Loc) (σ : MS) (ls : Array Slot) (x2 : Int32) (x3 : Int32) (x4 : Int32), va_P D vwCl (wM cA ad σ) H → va_D A (wM cA ad σ) → va_S A s.heap H locs → lv_has ls 7 [(0, .ref (ad 0)), (2, .int x2), (3, .int x3), (4, .int x4)] → fm_makesGrid_L307 F (fm_makesGrid_L185 F n185) (fm_makesGrid_L195 F (fm_makesGrid_L185 F n185) n195) σ x2 x3 x4 = some σr → WQ p l e 2 49 s m [.ref (ad 0), .int a1] below meth c none D (tyG cA) (wM cA ad σ0) (wM cA ad σr) A H locs (F0 m 307 ls []) := by
            intro H locs σ ls x2 x3 x4 hP hD hS hl hf
            unfold fm_makesGrid_L307 at hf
            refine lv_aload_n C.1 C.2.1 dX10_makesGrid_307 rfl (lv_at hl 0 rfl) ?_
            refine gm_right C hK hP dX10_makesGrid_308 ?_
            refine lv_bipush (v := (20 : Int32)) C.1 C.2.1 dX10_makesGrid_311 (by decide) ?_
            refine lv_iload_n C.1 C.2.1 dX10_makesGrid_313 rfl (lv_at hl 1 rfl) ?_
            refine lv_imul C.1 C.2.1 dX10_makesGrid_314 ?_
            refine lv_iload_n C.1 C.2.1 dX10_makesGrid_315 rfl (lv_at hl 2 rfl) ?_
            refine lv_iadd C.1 C.2.1 dX10_makesGrid_316 ?_
            refine lv_iload C.1 C.2.1 dX10_makesGrid_317 (lv_at hl 3 rfl) ?_
            obtain ⟨hi319, hf⟩ := gd_some hf
            obtain ⟨hz319, hf⟩ := gd_some hf
            replace hf := lt_e hf
            refine sm_right C hK hP hD hS hi319 hz319 dX10_makesGrid_319 (fun H locs hP hD hS => ?_)
            refine lv_iload_n C.1 C.2.1 dX10_makesGrid_320 rfl (lv_at hl 2 rfl) ?_
            refine lv_iconst (v := (1 : Int32)) C.1 C.2.1 dX10_makesGrid_321 (by decide) ?_
            refine lv_iadd C.1 C.2.1 dX10_makesGrid_322 ?_
            refine lv_aload_n C.1 C.2.1 dX10_makesGrid_323 rfl (lv_at hl 0 rfl) ?_
            refine gm_yMany C hK hP dX10_makesGrid_324 ?_
            refine lv_icmp_ge (tgt := 364) C.1 C.2.1 dX10_makesGrid_327 (by decide) (fun c327 => ?_) (fun c327 => ?_)
            · have hf := br_p c327 hf
              exact hB364 _ _ _ ls _ _ hP hD hS (lv_sub hl [0, 1, 2] rfl) hf
            · have hf := br_n c327 hf
              refine lv_aload_n C.1 C.2.1 dX10_makesGrid_330 rfl (lv_at hl 0 rfl) ?_
              refine gm_isNode C hK hP dX10_makesGrid_331 ?_
              refine lv_bipush (v := (20 : Int32)) C.1 C.2.1 dX10_makesGrid_334 (by decide) ?_
              refine lv_iload_n C.1 C.2.1 dX10_makesGrid_336 rfl (lv_at hl 1 rfl) ?_
              refine lv_imul C.1 C.2.1 dX10_makesGrid_337 ?_
              refine lv_iload_n C.1 C.2.1 dX10_makesGrid_338 rfl (lv_at hl 2 rfl) ?_
              refine lv_iadd C.1 C.2.1 dX10_makesGrid_339 ?_
              obtain ⟨hi340, hf⟩ := gd_some hf
              refine lm_isNode C hK hP hi340 dX10_makesGrid_340 ?_
              refine lv_if_eq (tgt := 364) C.1 C.2.1 dX10_makesGrid_341 (by decide) (fun c341 => ?_) (fun c341 => ?_)
              · have hf := br_p c341 hf
                exact hB364 _ _ _ ls _ _ hP hD hS (lv_sub hl [0, 1, 2] rfl) hf
              · have hf := br_n c341 hf
                refine lv_aload_n C.1 C.2.1 dX10_makesGrid_344 rfl (lv_at hl 0 rfl) ?_
                refine gm_isNode C hK hP dX10_makesGrid_345 ?_
                refine lv_bipush (v := (20 : Int32)) C.1 C.2.1 dX10_makesGrid_348 (by decide) ?_
                refine lv_iload_n C.1 C.2.1 dX10_makesGrid_350 rfl (lv_at hl 1 rfl) ?_
                refine lv_imul C.1 C.2.1 dX10_makesGrid_351 ?_
                refine lv_iload_n C.1 C.2.1 dX10_makesGrid_352 rfl (lv_at hl 2 rfl) ?_
                refine lv_iadd C.1 C.2.1 dX10_makesGrid_353 ?_
                refine lv_iconst (v := (1 : Int32)) C.1 C.2.1 dX10_makesGrid_354 (by decide) ?_
                refine lv_iadd C.1 C.2.1 dX10_makesGrid_355 ?_
                obtain ⟨hi356, hf⟩ := gd_some hf
                refine lm_isNode C hK hP hi356 dX10_makesGrid_356 ?_
                refine lv_if_eq (tgt := 364) C.1 C.2.1 dX10_makesGrid_357 (by decide) (fun c357 => ?_) (fun c357 => ?_)
                · have hf := br_p c357 hf
                  exact hB364 _ _ _ ls _ _ hP hD hS (lv_sub hl [0, 1, 2] rfl) hf
                · have hf := br_n c357 hf
                  refine lv_iconst (v := (1 : Int32)) C.1 C.2.1 dX10_makesGrid_360 (by decide) ?_
                  refine lv_goto (tgt := 365) C.1 C.2.1 dX10_makesGrid_361 (by decide) ?_
                  exact hB365 _ _ _ ls _ _ _ hP hD hS (lv_sub hl [0, 1, 2] rfl) hf
          have hB258 : ∀ (n258 : Nat) (H : Heap) (locs : List Loc) (σ : MS) (ls : Array Slot) (x2 : Int32) (x3 : Int32) (x4 : Int32) (x5 : Int32), va_P D vwCl (wM cA ad σ) H → va_D A (wM cA ad σ) → va_S A s.heap H locs → lv_has ls 7 [(0, .ref (ad 0)), (2, .int x2), (3, .int x3), (4, .int x4), (5, .int x5)] → fm_makesGrid_L258 F (fm_makesGrid_L185 F n185) (fm_makesGrid_L195 F (fm_makesGrid_L185 F n185) n195) n258 σ x2 x3 x4 x5 = some σr → WQ p l e 2 49 s m [.ref (ad 0), .int a1] below meth c none D (tyG cA) (wM cA ad σ0) (wM cA ad σr) A H locs (F0 m 258 ls []) := by
            intro n258
            induction n258 with
            | zero =>
              intro H locs σ ls x2 x3 x4 x5 hP hD hS hl hf
              cases (show (none : Option _) = _ from hf)
            | succ n258 ih258 =>
              have hB299 : ∀ (H : Heap) (locs : List Loc) (σ : MS) (ls : Array Slot) (x2 : Int32) (x3 : Int32) (x5 : Int32) (s0 : Int32), va_P D vwCl (wM cA ad σ) H → va_D A (wM cA ad σ) → va_S A s.heap H locs → lv_has ls 7 [(0, .ref (ad 0)), (2, .int x2), (3, .int x3), (5, .int x5)] → fm_makesGrid_L299 F (fm_makesGrid_L185 F n185) (fm_makesGrid_L195 F (fm_makesGrid_L185 F n185) n195) (fm_makesGrid_L258 F (fm_makesGrid_L185 F n185) (fm_makesGrid_L195 F (fm_makesGrid_L185 F n185) n195) n258) σ x2 x3 x5 s0 = some σr → WQ p l e 2 49 s m [.ref (ad 0), .int a1] below meth c none D (tyG cA) (wM cA ad σ0) (wM cA ad σr) A H locs (F0 m 299 ls [.int s0]) := by
                intro H locs σ ls x2 x3 x5 s0 hP hD hS hl hf
                unfold fm_makesGrid_L299 at hf
                refine lv_istore (lv' := [(4, .int s0), (0, .ref (ad 0)), (2, .int x2), (3, .int x3), (5, .int x5)]) C.1 C.2.1 dX10_makesGrid_299 hl (by decide) rfl (fun ls hl => ?_)
                obtain ⟨x5_301, ex5_301, hf⟩ := lt_some hf
                refine lv_iinc (v := x5_301) (lv' := [(5, .int x5_301), (4, .int s0), (0, .ref (ad 0)), (2, .int x2), (3, .int x3)]) C.1 C.2.1 dX10_makesGrid_301 hl (k := 4) rfl (by rw [ex5_301]; rfl) (by decide) rfl (fun ls hl => ?_)
                refine lv_goto (tgt := 258) C.1 C.2.1 dX10_makesGrid_304 (by decide) ?_
                exact ih258 _ _ _ ls _ _ _ _ hP hD hS (lv_sub hl [2, 3, 4, 1, 0] rfl) hf
              intro H locs σ ls x2 x3 x4 x5 hP hD hS hl hf
              have hf : fm_makesGrid_L258_c F (fm_makesGrid_L185 F n185) (fm_makesGrid_L195 F (fm_makesGrid_L185 F n185) n195) (fm_makesGrid_L258 F (fm_makesGrid_L185 F n185) (fm_makesGrid_L195 F (fm_makesGrid_L185 F n185) n195) n258) σ x2 x3 x4 x5 = some σr := hf
              unfold fm_makesGrid_L258_c at hf
              refine lv_iload C.1 C.2.1 dX10_makesGrid_258 (lv_at hl 3 rfl) ?_
              refine lv_if_eq (tgt := 307) C.1 C.2.1 dX10_makesGrid_260 (by decide) (fun c260 => ?_) (fun c260 => ?_)
              · have hf := br_p c260 hf
                exact hB307 _ _ _ ls _ _ _ hP hD hS (lv_sub hl [0, 1, 2, 3] rfl) hf
              · have hf := br_n c260 hf
                refine lv_iload C.1 C.2.1 dX10_makesGrid_263 (lv_at hl 4 rfl) ?_
                refine lv_aload_n C.1 C.2.1 dX10_makesGrid_265 rfl (lv_at hl 0 rfl) ?_
                refine gm_xs C hK hP dX10_makesGrid_266 ?_
                refine lv_iload_n C.1 C.2.1 dX10_makesGrid_269 rfl (lv_at hl 1 rfl) ?_
                refine lv_iconst (v := (1 : Int32)) C.1 C.2.1 dX10_makesGrid_270 (by decide) ?_
                refine lv_iadd C.1 C.2.1 dX10_makesGrid_271 ?_
                obtain ⟨hi272, hf⟩ := gd_some hf
                refine lm_xs C hK hP hi272 dX10_makesGrid_272 ?_
                refine lv_icmp_ge (tgt := 307) C.1 C.2.1 dX10_makesGrid_273 (by decide) (fun c273 => ?_) (fun c273 => ?_)
                · have hf := br_p c273 hf
                  exact hB307 _ _ _ ls _ _ _ hP hD hS (lv_sub hl [0, 1, 2, 3] rfl) hf
                · have hf := br_n c273 hf
                  refine lv_aload_n C.1 C.2.1 dX10_makesGrid_276 rfl (lv_at hl 0 rfl) ?_
                  refine lv_iload C.1 C.2.1 dX10_makesGrid_277 (lv_at hl 4 rfl) ?_
                  refine lv_aload_n C.1 C.2.1 dX10_makesGrid_279 rfl (lv_at hl 0 rfl) ?_
                  refine gm_ys C hK hP dX10_makesGrid_280 ?_
                  refine lv_iload_n C.1 C.2.1 dX10_makesGrid_283 rfl (lv_at hl 2 rfl) ?_
                  obtain ⟨hi284, hf⟩ := gd_some hf
                  refine lm_ys C hK hP hi284 dX10_makesGrid_284 ?_
                  obtain ⟨r285, hc285, hf⟩ := bd_some hf
                  refine callRV (As := [_, _]) C hK hP wv_X10_101 hl (km_blockerOf l D cA ad _ F _ _ r285 hc285) (rcM hK hP) rfl rfl rfl (Nat.le_of_ble_eq_true rfl) ⟨Nat.le_refl _, Nat.le_refl _⟩ dX10_makesGrid_285 ?_
                  refine lv_sipush (v := (-1000 : Int32)) C.1 C.2.1 dX10_makesGrid_288 (by decide) ?_
                  refine lv_icmp_ne (tgt := 298) C.1 C.2.1 dX10_makesGrid_291 (by decide) (fun c291 => ?_) (fun c291 => ?_)
                  · have hf := br_n c291 hf
                    refine lv_iconst (v := (0 : Int32)) C.1 C.2.1 dX10_makesGrid_298 (by decide) ?_
                    exact hB299 _ _ _ ls _ _ _ _ hP hD hS (lv_sub hl [0, 1, 2, 4] rfl) hf
                  · have hf := br_p c291 hf
                    refine lv_iconst (v := (1 : Int32)) C.1 C.2.1 dX10_makesGrid_294 (by decide) ?_
                    refine lv_goto (tgt := 299) C.1 C.2.1 dX10_makesGrid_295 (by decide) ?_
                    exact hB299 _ _ _ ls _ _ _ _ hP hD hS (lv_sub hl [0, 1, 2, 4] rfl) hf
          have hB248 : ∀ (H : Heap) (locs : List Loc) (σ : MS) (ls : Array Slot) (x2 : Int32) (x3 : Int32) (s0 : Int32), va_P D vwCl (wM cA ad σ) H → va_D A (wM cA ad σ) → va_S A s.heap H locs → lv_has ls 7 [(0, .ref (ad 0)), (2, .int x2), (3, .int x3)] → fm_makesGrid_L248 F (fm_makesGrid_L185 F n185) (fm_makesGrid_L195 F (fm_makesGrid_L185 F n185) n195) σ x2 x3 s0 = some σr → WQ p l e 2 49 s m [.ref (ad 0), .int a1] below meth c none D (tyG cA) (wM cA ad σ0) (wM cA ad σr) A H locs (F0 m 248 ls [.int s0]) := by
            intro H locs σ ls x2 x3 s0 hP hD hS hl hf
            unfold fm_makesGrid_L248 at hf
            refine lv_istore (lv' := [(4, .int s0), (0, .ref (ad 0)), (2, .int x2), (3, .int x3)]) C.1 C.2.1 dX10_makesGrid_248 hl (by decide) rfl (fun ls hl => ?_)
            refine lv_aload_n C.1 C.2.1 dX10_makesGrid_250 rfl (lv_at hl 1 rfl) ?_
            refine gm_xs C hK hP dX10_makesGrid_251 ?_
            refine lv_iload_n C.1 C.2.1 dX10_makesGrid_254 rfl (lv_at hl 2 rfl) ?_
            obtain ⟨hi255, hf⟩ := gd_some hf
            refine lm_xs C hK hP hi255 dX10_makesGrid_255 ?_
            obtain ⟨x5_256, ex5_256, hf⟩ := lt_some hf
            refine lv_tope ex5_256 ?_
            refine lv_istore (lv' := [(5, .int x5_256), (4, .int s0), (0, .ref (ad 0)), (2, .int x2), (3, .int x3)]) C.1 C.2.1 dX10_makesGrid_256 hl (by decide) rfl (fun ls hl => ?_)
            exact hB258 F _ _ _ ls _ _ _ _ hP hD hS (lv_sub hl [2, 3, 4, 1, 0] rfl) hf
          have hB247 : ∀ (H : Heap) (locs : List Loc) (σ : MS) (ls : Array Slot) (x2 : Int32) (x3 : Int32), va_P D vwCl (wM cA ad σ) H → va_D A (wM cA ad σ) → va_S A s.heap H locs → lv_has ls 7 [(0, .ref (ad 0)), (2, .int x2), (3, .int x3)] → fm_makesGrid_L247 F (fm_makesGrid_L185 F n185) (fm_makesGrid_L195 F (fm_makesGrid_L185 F n185) n195) σ x2 x3 = some σr → WQ p l e 2 49 s m [.ref (ad 0), .int a1] below meth c none D (tyG cA) (wM cA ad σ0) (wM cA ad σr) A H locs (F0 m 247 ls []) := by
            intro H locs σ ls x2 x3 hP hD hS hl hf
            unfold fm_makesGrid_L247 at hf
            refine lv_iconst (v := (0 : Int32)) C.1 C.2.1 dX10_makesGrid_247 (by decide) ?_
            exact hB248 _ _ _ ls _ _ _ hP hD hS (lv_sub hl [0, 1, 2] rfl) hf
          intro H locs σ ls x2 x3 hP hD hS hl hf
          have hf : fm_makesGrid_L195_c F (fm_makesGrid_L185 F n185) (fm_makesGrid_L195 F (fm_makesGrid_L185 F n185) n195) σ x2 x3 = some σr := hf
          unfold fm_makesGrid_L195_c at hf
          refine lv_iload_n C.1 C.2.1 dX10_makesGrid_195 rfl (lv_at hl 2 rfl) ?_
          refine lv_aload_n C.1 C.2.1 dX10_makesGrid_196 rfl (lv_at hl 0 rfl) ?_
          refine gm_yMany C hK hP dX10_makesGrid_197 ?_
          refine lv_icmp_ge (tgt := 443) C.1 C.2.1 dX10_makesGrid_200 (by decide) (fun c200 => ?_) (fun c200 => ?_)
          · have hf := br_p c200 hf
            obtain ⟨x2_443, ex2_443, hf⟩ := lt_some hf
            refine lv_iinc (v := x2_443) (lv' := [(2, .int x2_443), (0, .ref (ad 0)), (3, .int x3)]) C.1 C.2.1 dX10_makesGrid_443 hl (k := 1) rfl (by rw [ex2_443]; rfl) (by decide) rfl (fun ls hl => ?_)
            refine lv_goto (tgt := 185) C.1 C.2.1 dX10_makesGrid_446 (by decide) ?_
            exact ih185 _ _ _ ls _ hP hD hS (lv_sub hl [1, 0] rfl) hf
          · have hf := br_n c200 hf
            refine lv_iload_n C.1 C.2.1 dX10_makesGrid_203 rfl (lv_at hl 1 rfl) ?_
            refine lv_iconst (v := (1 : Int32)) C.1 C.2.1 dX10_makesGrid_204 (by decide) ?_
            refine lv_iadd C.1 C.2.1 dX10_makesGrid_205 ?_
            refine lv_aload_n C.1 C.2.1 dX10_makesGrid_206 rfl (lv_at hl 0 rfl) ?_
            refine gm_xMany C hK hP dX10_makesGrid_207 ?_
            refine lv_icmp_ge (tgt := 247) C.1 C.2.1 dX10_makesGrid_210 (by decide) (fun c210 => ?_) (fun c210 => ?_)
            · have hf := br_p c210 hf
              exact hB247 _ _ _ ls _ _ hP hD hS (lv_sub hl [0, 1, 2] rfl) hf
            · have hf := br_n c210 hf
              refine lv_aload_n C.1 C.2.1 dX10_makesGrid_213 rfl (lv_at hl 0 rfl) ?_
              refine gm_isNode C hK hP dX10_makesGrid_214 ?_
              refine lv_bipush (v := (20 : Int32)) C.1 C.2.1 dX10_makesGrid_217 (by decide) ?_
              refine lv_iload_n C.1 C.2.1 dX10_makesGrid_219 rfl (lv_at hl 1 rfl) ?_
              refine lv_imul C.1 C.2.1 dX10_makesGrid_220 ?_
              refine lv_iload_n C.1 C.2.1 dX10_makesGrid_221 rfl (lv_at hl 2 rfl) ?_
              refine lv_iadd C.1 C.2.1 dX10_makesGrid_222 ?_
              obtain ⟨hi223, hf⟩ := gd_some hf
              refine lm_isNode C hK hP hi223 dX10_makesGrid_223 ?_
              refine lv_if_eq (tgt := 247) C.1 C.2.1 dX10_makesGrid_224 (by decide) (fun c224 => ?_) (fun c224 => ?_)
              · have hf := br_p c224 hf
                exact hB247 _ _ _ ls _ _ hP hD hS (lv_sub hl [0, 1, 2] rfl) hf
              · have hf := br_n c224 hf
                refine lv_aload_n C.1 C.2.1 dX10_makesGrid_227 rfl (lv_at hl 0 rfl) ?_
                refine gm_isNode C hK hP dX10_makesGrid_228 ?_
                refine lv_bipush (v := (20 : Int32)) C.1 C.2.1 dX10_makesGrid_231 (by decide) ?_
                refine lv_iload_n C.1 C.2.1 dX10_makesGrid_233 rfl (lv_at hl 1 rfl) ?_
                refine lv_iconst (v := (1 : Int32)) C.1 C.2.1 dX10_makesGrid_234 (by decide) ?_
                refine lv_iadd C.1 C.2.1 dX10_makesGrid_235 ?_
                refine lv_imul C.1 C.2.1 dX10_makesGrid_236 ?_
                refine lv_iload_n C.1 C.2.1 dX10_makesGrid_237 rfl (lv_at hl 2 rfl) ?_
                refine lv_iadd C.1 C.2.1 dX10_makesGrid_238 ?_
                obtain ⟨hi239, hf⟩ := gd_some hf
                refine lm_isNode C hK hP hi239 dX10_makesGrid_239 ?_
                refine lv_if_eq (tgt := 247) C.1 C.2.1 dX10_makesGrid_240 (by decide) (fun c240 => ?_) (fun c240 => ?_)
                · have hf := br_p c240 hf
                  exact hB247 _ _ _ ls _ _ hP hD hS (lv_sub hl [0, 1, 2] rfl) hf
                · have hf := br_n c240 hf
                  refine lv_iconst (v := (1 : Int32)) C.1 C.2.1 dX10_makesGrid_243 (by decide) ?_
                  refine lv_goto (tgt := 248) C.1 C.2.1 dX10_makesGrid_244 (by decide) ?_
                  exact hB248 _ _ _ ls _ _ _ hP hD hS (lv_sub hl [0, 1, 2] rfl) hf
      intro H locs σ ls x2 hP hD hS hl hf
      have hf : fm_makesGrid_L185_c F (fm_makesGrid_L185 F n185) σ x2 = some σr := hf
      unfold fm_makesGrid_L185_c at hf
      refine lv_iload_n C.1 C.2.1 dX10_makesGrid_185 rfl (lv_at hl 1 rfl) ?_
      refine lv_aload_n C.1 C.2.1 dX10_makesGrid_186 rfl (lv_at hl 0 rfl) ?_
      refine gm_xMany C hK hP dX10_makesGrid_187 ?_
      refine lv_icmp_ge (tgt := 449) C.1 C.2.1 dX10_makesGrid_190 (by decide) (fun c190 => ?_) (fun c190 => ?_)
      · have hf := br_p c190 hf
        obtain rfl := Option.some.inj hf
        exact KW.vret C hr hlk hK hAe hP hD hS rfl dX10_makesGrid_449
      · have hf := br_n c190 hf
        refine lv_iconst (v := (0 : Int32)) C.1 C.2.1 dX10_makesGrid_193 (by decide) ?_
        refine lv_istore_n (lv' := [(3, .int (0 : Int32)), (0, .ref (ad 0)), (2, .int x2)]) C.1 C.2.1 dX10_makesGrid_194 rfl hl (by decide) rfl (fun ls hl => ?_)
        exact hB195 F _ _ _ ls _ _ hP hD hS (lv_sub hl [1, 2, 0] rfl) hf
  have hB115 : ∀ (n115 : Nat) (H : Heap) (locs : List Loc) (σ : MS) (ls : Array Slot) (x2 : Int32), va_P D vwCl (wM cA ad σ) H → va_D A (wM cA ad σ) → va_S A s.heap H locs → lv_has ls 7 [(0, .ref (ad 0)), (2, .int x2)] → fm_makesGrid_L115 F n115 σ x2 = some σr → WQ p l e 2 49 s m [.ref (ad 0), .int a1] below meth c none D (tyG cA) (wM cA ad σ0) (wM cA ad σr) A H locs (F0 m 115 ls []) := by
    intro n115
    induction n115 with
    | zero =>
      intro H locs σ ls x2 hP hD hS hl hf
      cases (show (none : Option _) = _ from hf)
    | succ n115 ih115 =>
      have hB125 : ∀ (n125 : Nat) (H : Heap) (locs : List Loc) (σ : MS) (ls : Array Slot) (x2 : Int32) (x3 : Int32), va_P D vwCl (wM cA ad σ) H → va_D A (wM cA ad σ) → va_S A s.heap H locs → lv_has ls 7 [(0, .ref (ad 0)), (2, .int x2), (3, .int x3)] → fm_makesGrid_L125 F (fm_makesGrid_L115 F n115) n125 σ x2 x3 = some σr → WQ p l e 2 49 s m [.ref (ad 0), .int a1] below meth c none D (tyG cA) (wM cA ad σ0) (wM cA ad σr) A H locs (F0 m 125 ls []) := by
        intro n125
        induction n125 with
        | zero =>
          intro H locs σ ls x2 x3 hP hD hS hl hf
          cases (show (none : Option _) = _ from hf)
        | succ n125 ih125 =>
          have hB170 : ∀ (H : Heap) (locs : List Loc) (σ : MS) (ls : Array Slot) (x2 : Int32) (x3 : Int32) (s0 : Int32) (s1 : Int32), va_P D vwCl (wM cA ad σ) H → va_D A (wM cA ad σ) → va_S A s.heap H locs → lv_has ls 7 [(0, .ref (ad 0)), (2, .int x2), (3, .int x3)] → fm_makesGrid_L170 F (fm_makesGrid_L115 F n115) (fm_makesGrid_L125 F (fm_makesGrid_L115 F n115) n125) σ x2 x3 s0 s1 = some σr → WQ p l e 2 49 s m [.ref (ad 0), .int a1] below meth c none D (tyG cA) (wM cA ad σ0) (wM cA ad σr) A H locs (F0 m 170 ls [.int s0, .int s1, .ref (ad 4)]) := by
            intro H locs σ ls x2 x3 s0 s1 hP hD hS hl hf
            unfold fm_makesGrid_L170 at hf
            obtain ⟨hi170, hf⟩ := gd_some hf
            obtain ⟨hz170, hf⟩ := gd_some hf
            replace hf := lt_e hf
            refine sm_isNode C hK hP hD hS hi170 hz170 dX10_makesGrid_170 (fun H locs hP hD hS => ?_)
            obtain ⟨x3_171, ex3_171, hf⟩ := lt_some hf
            refine lv_iinc (v := x3_171) (lv' := [(3, .int x3_171), (0, .ref (ad 0)), (2, .int x2)]) C.1 C.2.1 dX10_makesGrid_171 hl (k := 2) rfl (by rw [ex3_171]; rfl) (by decide) rfl (fun ls hl => ?_)
            refine lv_goto (tgt := 125) C.1 C.2.1 dX10_makesGrid_174 (by decide) ?_
            exact ih125 _ _ _ ls _ _ hP hD hS (lv_sub hl [1, 2, 0] rfl) hf
          intro H locs σ ls x2 x3 hP hD hS hl hf
          have hf : fm_makesGrid_L125_c F (fm_makesGrid_L115 F n115) (fm_makesGrid_L125 F (fm_makesGrid_L115 F n115) n125) σ x2 x3 = some σr := hf
          unfold fm_makesGrid_L125_c at hf
          refine lv_iload_n C.1 C.2.1 dX10_makesGrid_125 rfl (lv_at hl 2 rfl) ?_
          refine lv_aload_n C.1 C.2.1 dX10_makesGrid_126 rfl (lv_at hl 0 rfl) ?_
          refine gm_yMany C hK hP dX10_makesGrid_127 ?_
          refine lv_icmp_ge (tgt := 177) C.1 C.2.1 dX10_makesGrid_130 (by decide) (fun c130 => ?_) (fun c130 => ?_)
          · have hf := br_p c130 hf
            obtain ⟨x2_177, ex2_177, hf⟩ := lt_some hf
            refine lv_iinc (v := x2_177) (lv' := [(2, .int x2_177), (0, .ref (ad 0)), (3, .int x3)]) C.1 C.2.1 dX10_makesGrid_177 hl (k := 1) rfl (by rw [ex2_177]; rfl) (by decide) rfl (fun ls hl => ?_)
            refine lv_goto (tgt := 115) C.1 C.2.1 dX10_makesGrid_180 (by decide) ?_
            exact ih115 _ _ _ ls _ hP hD hS (lv_sub hl [1, 0] rfl) hf
          · have hf := br_n c130 hf
            refine lv_aload_n C.1 C.2.1 dX10_makesGrid_133 rfl (lv_at hl 0 rfl) ?_
            refine gm_isNode C hK hP dX10_makesGrid_134 ?_
            refine lv_bipush (v := (20 : Int32)) C.1 C.2.1 dX10_makesGrid_137 (by decide) ?_
            refine lv_iload_n C.1 C.2.1 dX10_makesGrid_139 rfl (lv_at hl 1 rfl) ?_
            refine lv_imul C.1 C.2.1 dX10_makesGrid_140 ?_
            refine lv_iload_n C.1 C.2.1 dX10_makesGrid_141 rfl (lv_at hl 2 rfl) ?_
            refine lv_iadd C.1 C.2.1 dX10_makesGrid_142 ?_
            refine lv_aload_n C.1 C.2.1 dX10_makesGrid_143 rfl (lv_at hl 0 rfl) ?_
            refine lv_aload_n C.1 C.2.1 dX10_makesGrid_144 rfl (lv_at hl 0 rfl) ?_
            refine gm_xs C hK hP dX10_makesGrid_145 ?_
            refine lv_iload_n C.1 C.2.1 dX10_makesGrid_148 rfl (lv_at hl 1 rfl) ?_
            obtain ⟨hi149, hf⟩ := gd_some hf
            refine lm_xs C hK hP hi149 dX10_makesGrid_149 ?_
            refine lv_aload_n C.1 C.2.1 dX10_makesGrid_150 rfl (lv_at hl 0 rfl) ?_
            refine gm_ys C hK hP dX10_makesGrid_151 ?_
            refine lv_iload_n C.1 C.2.1 dX10_makesGrid_154 rfl (lv_at hl 2 rfl) ?_
            obtain ⟨hi155, hf⟩ := gd_some hf
            refine lm_ys C hK hP hi155 dX10_makesGrid_155 ?_
            obtain ⟨r156, hc156, hf⟩ := bd_some hf
            refine callRV (As := [_, _]) C hK hP wv_X10_101 hl (km_blockerOf l D cA ad _ F _ _ r156 hc156) (rcM hK hP) rfl rfl rfl (Nat.le_of_ble_eq_true rfl) ⟨Nat.le_refl _, Nat.le_refl _⟩ dX10_makesGrid_156 ?_
            refine lv_sipush (v := (-1000 : Int32)) C.1 C.2.1 dX10_makesGrid_159 (by decide) ?_
            refine lv_icmp_ne (tgt := 169) C.1 C.2.1 dX10_makesGrid_162 (by decide) (fun c162 => ?_) (fun c162 => ?_)
            · have hf := br_n c162 hf
              refine lv_iconst (v := (0 : Int32)) C.1 C.2.1 dX10_makesGrid_169 (by decide) ?_
              exact hB170 _ _ _ ls _ _ _ _ hP hD hS (lv_sub hl [0, 1, 2] rfl) hf
            · have hf := br_p c162 hf
              refine lv_iconst (v := (1 : Int32)) C.1 C.2.1 dX10_makesGrid_165 (by decide) ?_
              refine lv_goto (tgt := 170) C.1 C.2.1 dX10_makesGrid_166 (by decide) ?_
              exact hB170 _ _ _ ls _ _ _ _ hP hD hS (lv_sub hl [0, 1, 2] rfl) hf
      intro H locs σ ls x2 hP hD hS hl hf
      have hf : fm_makesGrid_L115_c F (fm_makesGrid_L115 F n115) σ x2 = some σr := hf
      unfold fm_makesGrid_L115_c at hf
      refine lv_iload_n C.1 C.2.1 dX10_makesGrid_115 rfl (lv_at hl 1 rfl) ?_
      refine lv_aload_n C.1 C.2.1 dX10_makesGrid_116 rfl (lv_at hl 0 rfl) ?_
      refine gm_xMany C hK hP dX10_makesGrid_117 ?_
      refine lv_icmp_ge (tgt := 183) C.1 C.2.1 dX10_makesGrid_120 (by decide) (fun c120 => ?_) (fun c120 => ?_)
      · have hf := br_p c120 hf
        refine lv_iconst (v := (0 : Int32)) C.1 C.2.1 dX10_makesGrid_183 (by decide) ?_
        refine lv_istore_n (lv' := [(2, .int (0 : Int32)), (0, .ref (ad 0))]) C.1 C.2.1 dX10_makesGrid_184 rfl hl (by decide) rfl (fun ls hl => ?_)
        exact hB185 F _ _ _ ls _ hP hD hS (lv_sub hl [1, 0] rfl) hf
      · have hf := br_n c120 hf
        refine lv_iconst (v := (0 : Int32)) C.1 C.2.1 dX10_makesGrid_123 (by decide) ?_
        refine lv_istore_n (lv' := [(3, .int (0 : Int32)), (0, .ref (ad 0)), (2, .int x2)]) C.1 C.2.1 dX10_makesGrid_124 rfl hl (by decide) rfl (fun ls hl => ?_)
        exact hB125 F _ _ _ ls _ _ hP hD hS (lv_sub hl [1, 2, 0] rfl) hf
  have hB78 : ∀ (n78 : Nat) (H : Heap) (locs : List Loc) (σ : MS) (ls : Array Slot) (x1 : Int32) (x2 : Int32), va_P D vwCl (wM cA ad σ) H → va_D A (wM cA ad σ) → va_S A s.heap H locs → lv_has ls 7 [(0, .ref (ad 0)), (1, .int x1), (2, .int x2)] → fm_makesGrid_L78 F n78 σ x1 x2 = some σr → WQ p l e 2 49 s m [.ref (ad 0), .int a1] below meth c none D (tyG cA) (wM cA ad σ0) (wM cA ad σr) A H locs (F0 m 78 ls []) := by
    intro n78
    induction n78 with
    | zero =>
      intro H locs σ ls x1 x2 hP hD hS hl hf
      cases (show (none : Option _) = _ from hf)
    | succ n78 ih78 =>
      intro H locs σ ls x1 x2 hP hD hS hl hf
      have hf : fm_makesGrid_L78_c F (fm_makesGrid_L78 F n78) σ x1 x2 = some σr := hf
      unfold fm_makesGrid_L78_c at hf
      refine lv_iload_n C.1 C.2.1 dX10_makesGrid_78 rfl (lv_at hl 2 rfl) ?_
      refine lv_iconst (v := (2 : Int32)) C.1 C.2.1 dX10_makesGrid_79 (by decide) ?_
      refine lv_icmp_ge (tgt := 113) C.1 C.2.1 dX10_makesGrid_80 (by decide) (fun c80 => ?_) (fun c80 => ?_)
      · have hf := br_p c80 hf
        refine lv_iconst (v := (0 : Int32)) C.1 C.2.1 dX10_makesGrid_113 (by decide) ?_
        refine lv_istore_n (lv' := [(2, .int (0 : Int32)), (0, .ref (ad 0)), (1, .int x1)]) C.1 C.2.1 dX10_makesGrid_114 rfl hl (by decide) rfl (fun ls hl => ?_)
        exact hB115 F _ _ _ ls _ hP hD hS (lv_sub hl [1, 0] rfl) hf
      · have hf := br_n c80 hf
        refine lv_aload_n C.1 C.2.1 dX10_makesGrid_83 rfl (lv_at hl 0 rfl) ?_
        refine lv_aload_n C.1 C.2.1 dX10_makesGrid_84 rfl (lv_at hl 0 rfl) ?_
        refine lv_iload_n C.1 C.2.1 dX10_makesGrid_85 rfl (lv_at hl 1 rfl) ?_
        refine lv_iload_n C.1 C.2.1 dX10_makesGrid_86 rfl (lv_at hl 2 rfl) ?_
        refine lv_iconst (v := (1 : Int32)) C.1 C.2.1 dX10_makesGrid_87 (by decide) ?_
        refine lv_iconst (v := (1 : Int32)) C.1 C.2.1 dX10_makesGrid_88 (by decide) ?_
        obtain ⟨r89, hc89, hf⟩ := bd_some hf
        refine callRV (As := [_, _, _, _]) C hK hP wv_X10_120 hl (km_portOf l D cA ad _ F _ _ _ _ r89 hc89) (rcM hK hP) rfl rfl rfl (Nat.le_of_ble_eq_true rfl) ⟨Nat.le_refl _, Nat.le_refl _⟩ dX10_makesGrid_89 ?_
        obtain ⟨σ92, hc92, hf⟩ := bd_some hf
        refine callWV (As := [_]) C hK hP hD hA hS wv_X10_140 hl (km_addsX l D cA ad _ F _ σ92 hc92) (rcM hK hP) rfl rfl rfl (Nat.le_of_ble_eq_true rfl) ⟨Nat.le_refl _, Nat.le_refl _⟩ dX10_makesGrid_92 (fun H locs hP hD hS => ?_)
        refine lv_aload_n C.1 C.2.1 dX10_makesGrid_95 rfl (lv_at hl 0 rfl) ?_
        refine lv_aload_n C.1 C.2.1 dX10_makesGrid_96 rfl (lv_at hl 0 rfl) ?_
        refine lv_iload_n C.1 C.2.1 dX10_makesGrid_97 rfl (lv_at hl 1 rfl) ?_
        refine lv_iload_n C.1 C.2.1 dX10_makesGrid_98 rfl (lv_at hl 2 rfl) ?_
        refine lv_iconst (v := (0 : Int32)) C.1 C.2.1 dX10_makesGrid_99 (by decide) ?_
        refine lv_iconst (v := (1 : Int32)) C.1 C.2.1 dX10_makesGrid_100 (by decide) ?_
        obtain ⟨r101, hc101, hf⟩ := bd_some hf
        refine callRV (As := [_, _, _, _]) C hK hP wv_X10_120 hl (km_portOf l D cA ad _ F _ _ _ _ r101 hc101) (rcM hK hP) rfl rfl rfl (Nat.le_of_ble_eq_true rfl) ⟨Nat.le_refl _, Nat.le_refl _⟩ dX10_makesGrid_101 ?_
        obtain ⟨σ104, hc104, hf⟩ := bd_some hf
        refine callWV (As := [_]) C hK hP hD hA hS wv_X10_144 hl (km_addsY l D cA ad _ F _ σ104 hc104) (rcM hK hP) rfl rfl rfl (Nat.le_of_ble_eq_true rfl) ⟨Nat.le_refl _, Nat.le_refl _⟩ dX10_makesGrid_104 (fun H locs hP hD hS => ?_)
        obtain ⟨x2_107, ex2_107, hf⟩ := lt_some hf
        refine lv_iinc (v := x2_107) (lv' := [(2, .int x2_107), (0, .ref (ad 0)), (1, .int x1)]) C.1 C.2.1 dX10_makesGrid_107 hl (k := 2) rfl (by rw [ex2_107]; rfl) (by decide) rfl (fun ls hl => ?_)
        refine lv_goto (tgt := 78) C.1 C.2.1 dX10_makesGrid_110 (by decide) ?_
        exact ih78 _ _ _ ls _ _ hP hD hS (lv_sub hl [1, 2, 0] rfl) hf
  have hB12 : ∀ (n12 : Nat) (H : Heap) (locs : List Loc) (σ : MS) (ls : Array Slot) (x1 : Int32) (x2 : Int32), va_P D vwCl (wM cA ad σ) H → va_D A (wM cA ad σ) → va_S A s.heap H locs → lv_has ls 7 [(0, .ref (ad 0)), (1, .int x1), (2, .int x2)] → fm_makesGrid_L12 F n12 σ x1 x2 = some σr → WQ p l e 2 49 s m [.ref (ad 0), .int a1] below meth c none D (tyG cA) (wM cA ad σ0) (wM cA ad σr) A H locs (F0 m 12 ls []) := by
    intro n12
    induction n12 with
    | zero =>
      intro H locs σ ls x1 x2 hP hD hS hl hf
      cases (show (none : Option _) = _ from hf)
    | succ n12 ih12 =>
      intro H locs σ ls x1 x2 hP hD hS hl hf
      have hf : fm_makesGrid_L12_c F (fm_makesGrid_L12 F n12) σ x1 x2 = some σr := hf
      unfold fm_makesGrid_L12_c at hf
      refine lv_iload_n C.1 C.2.1 dX10_makesGrid_12 rfl (lv_at hl 2 rfl) ?_
      refine lv_aload_n C.1 C.2.1 dX10_makesGrid_13 rfl (lv_at hl 0 rfl) ?_
      refine gm_row C hK hP dX10_makesGrid_14 ?_
      refine lv_iconst (v := (0 : Int32)) C.1 C.2.1 dX10_makesGrid_17 (by decide) ?_
      obtain ⟨hi18, hf⟩ := gd_some hf
      refine lm_row C hK hP hi18 dX10_makesGrid_18 ?_
      refine lv_icmp_ge (tgt := 76) C.1 C.2.1 dX10_makesGrid_19 (by decide) (fun c19 => ?_) (fun c19 => ?_)
      · have hf := br_p c19 hf
        refine lv_iconst (v := (0 : Int32)) C.1 C.2.1 dX10_makesGrid_76 (by decide) ?_
        refine lv_istore_n (lv' := [(2, .int (0 : Int32)), (0, .ref (ad 0)), (1, .int x1)]) C.1 C.2.1 dX10_makesGrid_77 rfl hl (by decide) rfl (fun ls hl => ?_)
        exact hB78 F _ _ _ ls _ _ hP hD hS (lv_sub hl [1, 2, 0] rfl) hf
      · have hf := br_n c19 hf
        refine lv_aload_n C.1 C.2.1 dX10_makesGrid_22 rfl (lv_at hl 0 rfl) ?_
        refine lv_aload_n C.1 C.2.1 dX10_makesGrid_23 rfl (lv_at hl 0 rfl) ?_
        refine lv_iload_n C.1 C.2.1 dX10_makesGrid_24 rfl (lv_at hl 2 rfl) ?_
        refine lv_iconst (v := (0 : Int32)) C.1 C.2.1 dX10_makesGrid_25 (by decide) ?_
        obtain ⟨r26, hc26, hf⟩ := bd_some hf
        refine callRV (As := [_, _]) C hK hP wv_X10_72 hl (km_side l D cA ad _ F _ _ r26 hc26) (rcM hK hP) rfl rfl rfl (Nat.le_of_ble_eq_true rfl) ⟨Nat.le_refl _, Nat.le_refl _⟩ dX10_makesGrid_26 ?_
        refine lv_iconst (v := (1 : Int32)) C.1 C.2.1 dX10_makesGrid_29 (by decide) ?_
        refine lv_isub C.1 C.2.1 dX10_makesGrid_30 ?_
        obtain ⟨σ31, hc31, hf⟩ := bd_some hf
        refine callWV (As := [_]) C hK hP hD hA hS wv_X10_140 hl (km_addsX l D cA ad _ F _ σ31 hc31) (rcM hK hP) rfl rfl rfl (Nat.le_of_ble_eq_true rfl) ⟨Nat.le_refl _, Nat.le_refl _⟩ dX10_makesGrid_31 (fun H locs hP hD hS => ?_)
        refine lv_aload_n C.1 C.2.1 dX10_makesGrid_34 rfl (lv_at hl 0 rfl) ?_
        refine lv_aload_n C.1 C.2.1 dX10_makesGrid_35 rfl (lv_at hl 0 rfl) ?_
        refine lv_iload_n C.1 C.2.1 dX10_makesGrid_36 rfl (lv_at hl 2 rfl) ?_
        refine lv_iconst (v := (2 : Int32)) C.1 C.2.1 dX10_makesGrid_37 (by decide) ?_
        obtain ⟨r38, hc38, hf⟩ := bd_some hf
        refine callRV (As := [_, _]) C hK hP wv_X10_72 hl (km_side l D cA ad _ F _ _ r38 hc38) (rcM hK hP) rfl rfl rfl (Nat.le_of_ble_eq_true rfl) ⟨Nat.le_refl _, Nat.le_refl _⟩ dX10_makesGrid_38 ?_
        refine lv_iconst (v := (1 : Int32)) C.1 C.2.1 dX10_makesGrid_41 (by decide) ?_
        refine lv_iadd C.1 C.2.1 dX10_makesGrid_42 ?_
        obtain ⟨σ43, hc43, hf⟩ := bd_some hf
        refine callWV (As := [_]) C hK hP hD hA hS wv_X10_140 hl (km_addsX l D cA ad _ F _ σ43 hc43) (rcM hK hP) rfl rfl rfl (Nat.le_of_ble_eq_true rfl) ⟨Nat.le_refl _, Nat.le_refl _⟩ dX10_makesGrid_43 (fun H locs hP hD hS => ?_)
        refine lv_aload_n C.1 C.2.1 dX10_makesGrid_46 rfl (lv_at hl 0 rfl) ?_
        refine lv_aload_n C.1 C.2.1 dX10_makesGrid_47 rfl (lv_at hl 0 rfl) ?_
        refine lv_iload_n C.1 C.2.1 dX10_makesGrid_48 rfl (lv_at hl 2 rfl) ?_
        refine lv_iconst (v := (1 : Int32)) C.1 C.2.1 dX10_makesGrid_49 (by decide) ?_
        obtain ⟨r50, hc50, hf⟩ := bd_some hf
        refine callRV (As := [_, _]) C hK hP wv_X10_72 hl (km_side l D cA ad _ F _ _ r50 hc50) (rcM hK hP) rfl rfl rfl (Nat.le_of_ble_eq_true rfl) ⟨Nat.le_refl _, Nat.le_refl _⟩ dX10_makesGrid_50 ?_
        refine lv_iconst (v := (1 : Int32)) C.1 C.2.1 dX10_makesGrid_53 (by decide) ?_
        refine lv_isub C.1 C.2.1 dX10_makesGrid_54 ?_
        obtain ⟨σ55, hc55, hf⟩ := bd_some hf
        refine callWV (As := [_]) C hK hP hD hA hS wv_X10_144 hl (km_addsY l D cA ad _ F _ σ55 hc55) (rcM hK hP) rfl rfl rfl (Nat.le_of_ble_eq_true rfl) ⟨Nat.le_refl _, Nat.le_refl _⟩ dX10_makesGrid_55 (fun H locs hP hD hS => ?_)
        refine lv_aload_n C.1 C.2.1 dX10_makesGrid_58 rfl (lv_at hl 0 rfl) ?_
        refine lv_aload_n C.1 C.2.1 dX10_makesGrid_59 rfl (lv_at hl 0 rfl) ?_
        refine lv_iload_n C.1 C.2.1 dX10_makesGrid_60 rfl (lv_at hl 2 rfl) ?_
        refine lv_iconst (v := (3 : Int32)) C.1 C.2.1 dX10_makesGrid_61 (by decide) ?_
        obtain ⟨r62, hc62, hf⟩ := bd_some hf
        refine callRV (As := [_, _]) C hK hP wv_X10_72 hl (km_side l D cA ad _ F _ _ r62 hc62) (rcM hK hP) rfl rfl rfl (Nat.le_of_ble_eq_true rfl) ⟨Nat.le_refl _, Nat.le_refl _⟩ dX10_makesGrid_62 ?_
        refine lv_iconst (v := (1 : Int32)) C.1 C.2.1 dX10_makesGrid_65 (by decide) ?_
        refine lv_iadd C.1 C.2.1 dX10_makesGrid_66 ?_
        obtain ⟨σ67, hc67, hf⟩ := bd_some hf
        refine callWV (As := [_]) C hK hP hD hA hS wv_X10_144 hl (km_addsY l D cA ad _ F _ σ67 hc67) (rcM hK hP) rfl rfl rfl (Nat.le_of_ble_eq_true rfl) ⟨Nat.le_refl _, Nat.le_refl _⟩ dX10_makesGrid_67 (fun H locs hP hD hS => ?_)
        obtain ⟨x2_70, ex2_70, hf⟩ := lt_some hf
        refine lv_iinc (v := x2_70) (lv' := [(2, .int x2_70), (0, .ref (ad 0)), (1, .int x1)]) C.1 C.2.1 dX10_makesGrid_70 hl (k := 2) rfl (by rw [ex2_70]; rfl) (by decide) rfl (fun ls hl => ?_)
        refine lv_goto (tgt := 12) C.1 C.2.1 dX10_makesGrid_73 (by decide) ?_
        exact ih12 _ _ _ ls _ _ hP hD hS (lv_sub hl [1, 2, 0] rfl) hf
  unfold fm_makesGrid at hf
  refine lv_aload_n C.1 C.2.1 dX10_makesGrid_0 rfl (lv_at hl 0 rfl) ?_
  refine lv_iconst (v := (0 : Int32)) C.1 C.2.1 dX10_makesGrid_1 (by decide) ?_
  replace hf := lt_e hf
  refine pm_xMany C hK hP hD hS dX10_makesGrid_2 (fun H locs hP hD hS => ?_)
  refine lv_aload_n C.1 C.2.1 dX10_makesGrid_5 rfl (lv_at hl 0 rfl) ?_
  refine lv_iconst (v := (0 : Int32)) C.1 C.2.1 dX10_makesGrid_6 (by decide) ?_
  replace hf := lt_e hf
  refine pm_yMany C hK hP hD hS dX10_makesGrid_7 (fun H locs hP hD hS => ?_)
  refine lv_iconst (v := (0 : Int32)) C.1 C.2.1 dX10_makesGrid_10 (by decide) ?_
  refine lv_istore_n (lv' := [(2, .int (0 : Int32)), (0, .ref (ad 0)), (1, .int a1)]) C.1 C.2.1 dX10_makesGrid_11 rfl hl (by decide) rfl (fun ls hl => ?_)
  exact hB12 F _ _ _ ls _ _ hP hD hS (lv_sub hl [1, 2, 0] rfl) hf
def fm_indexX_L2_c (F : Nat) (σ : MS) (k2 : Int32 → Int32 → Option (Int32)) (x1 : Int32) (x2 : Int32) : Option (Int32) :=
  gd (ix x2 20 = true) (if (ms_xs σ x2.toNatClampNeg) = x1 then (some x2) else (lt (x2 + (1 : Int32)) (fun x2_12 => k2 x1 x2_12)))
def fm_indexX_L2 (F : Nat) (σ : MS) (n : Nat) (x1 : Int32) (x2 : Int32) : Option (Int32) := lpN (fun (k : Int32 × Int32 → Option (Int32)) a => fm_indexX_L2_c F σ (fun x1 x2 => k (x1, x2)) a.1 a.2) n (x1, x2)
def fm_indexX (F : Nat) (σ : MS) (x1 : Int32) : Option (Int32) :=
  fm_indexX_L2 F σ F x1 (0 : Int32)
set_option maxHeartbeats 4000000 in
set_option maxRecDepth 100000 in
theorem km_indexX (l : Launch) (D : va_G) (cA : Nat → ClassId) (ad : Nat → Nat) (σ : MS) (F : Nat) (a1 : Int32) (r : Int32) (hf : fm_indexX F σ a1 = some r) : KR l D (tyG cA) yX10_indexX cX10_indexX 3 (some .int) (rmk 0 0) (wM cA ad σ) [.ref (ad 0), .int a1] r := by
  refine KR.of (by decide) (Nat.le_of_ble_eq_true rfl) ?_
  intro p e s m below meth c C hr hlk hK hP ls hl
  have hl : lv_has ls 3 [(0, .ref (ad 0)), (1, .int a1)] := hl
  have hB2 : ∀ (n2 : Nat) (ls : Array Slot) (x1 : Int32) (x2 : Int32), lv_has ls 3 [(0, .ref (ad 0)), (1, .int x1), (2, .int x2)] → fm_indexX_L2 F σ n2 x1 x2 = some r → WR p l e 0 0 s m [.ref (ad 0), .int a1] below meth c r (F0 m 2 ls []) := by
    intro n2
    induction n2 with
    | zero =>
      intro ls x1 x2 hl hf
      cases (show (none : Option _) = _ from hf)
    | succ n2 ih2 =>
      intro ls x1 x2 hl hf
      have hf : fm_indexX_L2_c F σ (fm_indexX_L2 F σ n2) x1 x2 = some r := hf
      unfold fm_indexX_L2_c at hf
      refine lv_aload_n C.1 C.2.1 dX10_indexX_2 rfl (lv_at hl 0 rfl) ?_
      refine gm_xs C hK hP dX10_indexX_3 ?_
      refine lv_iload_n C.1 C.2.1 dX10_indexX_6 rfl (lv_at hl 2 rfl) ?_
      obtain ⟨hi7, hf⟩ := gd_some hf
      refine lm_xs C hK hP hi7 dX10_indexX_7 ?_
      refine lv_iload_n C.1 C.2.1 dX10_indexX_8 rfl (lv_at hl 1 rfl) ?_
      refine lv_icmp_eq (tgt := 18) C.1 C.2.1 dX10_indexX_9 (by decide) (fun c9 => ?_) (fun c9 => ?_)
      · have hf := br_p c9 hf
        refine lv_iload_n C.1 C.2.1 dX10_indexX_18 rfl (lv_at hl 2 rfl) ?_
        exact KR.iret C hr hlk (Option.some.inj hf) dX10_indexX_19
      · have hf := br_n c9 hf
        obtain ⟨x2_12, ex2_12, hf⟩ := lt_some hf
        refine lv_iinc (v := x2_12) (lv' := [(2, .int x2_12), (0, .ref (ad 0)), (1, .int x1)]) C.1 C.2.1 dX10_indexX_12 hl (k := 2) rfl (by rw [ex2_12]; rfl) (by decide) rfl (fun ls hl => ?_)
        refine lv_goto (tgt := 2) C.1 C.2.1 dX10_indexX_15 (by decide) ?_
        exact ih2 ls _ _ (lv_sub hl [1, 2, 0] rfl) hf
  unfold fm_indexX at hf
  refine lv_iconst (v := (0 : Int32)) C.1 C.2.1 dX10_indexX_0 (by decide) ?_
  refine lv_istore_n (lv' := [(2, .int (0 : Int32)), (0, .ref (ad 0)), (1, .int a1)]) C.1 C.2.1 dX10_indexX_1 rfl hl (by decide) rfl (fun ls hl => ?_)
  exact hB2 F ls _ _ (lv_sub hl [1, 2, 0] rfl) hf
def fm_indexY_L2_c (F : Nat) (σ : MS) (k2 : Int32 → Int32 → Option (Int32)) (x1 : Int32) (x2 : Int32) : Option (Int32) :=
  gd (ix x2 20 = true) (if (ms_ys σ x2.toNatClampNeg) = x1 then (some x2) else (lt (x2 + (1 : Int32)) (fun x2_12 => k2 x1 x2_12)))
def fm_indexY_L2 (F : Nat) (σ : MS) (n : Nat) (x1 : Int32) (x2 : Int32) : Option (Int32) := lpN (fun (k : Int32 × Int32 → Option (Int32)) a => fm_indexY_L2_c F σ (fun x1 x2 => k (x1, x2)) a.1 a.2) n (x1, x2)
def fm_indexY (F : Nat) (σ : MS) (x1 : Int32) : Option (Int32) :=
  fm_indexY_L2 F σ F x1 (0 : Int32)
set_option maxHeartbeats 4000000 in
set_option maxRecDepth 100000 in
theorem km_indexY (l : Launch) (D : va_G) (cA : Nat → ClassId) (ad : Nat → Nat) (σ : MS) (F : Nat) (a1 : Int32) (r : Int32) (hf : fm_indexY F σ a1 = some r) : KR l D (tyG cA) yX10_indexY cX10_indexY 3 (some .int) (rmk 0 0) (wM cA ad σ) [.ref (ad 0), .int a1] r := by
  refine KR.of (by decide) (Nat.le_of_ble_eq_true rfl) ?_
  intro p e s m below meth c C hr hlk hK hP ls hl
  have hl : lv_has ls 3 [(0, .ref (ad 0)), (1, .int a1)] := hl
  have hB2 : ∀ (n2 : Nat) (ls : Array Slot) (x1 : Int32) (x2 : Int32), lv_has ls 3 [(0, .ref (ad 0)), (1, .int x1), (2, .int x2)] → fm_indexY_L2 F σ n2 x1 x2 = some r → WR p l e 0 0 s m [.ref (ad 0), .int a1] below meth c r (F0 m 2 ls []) := by
    intro n2
    induction n2 with
    | zero =>
      intro ls x1 x2 hl hf
      cases (show (none : Option _) = _ from hf)
    | succ n2 ih2 =>
      intro ls x1 x2 hl hf
      have hf : fm_indexY_L2_c F σ (fm_indexY_L2 F σ n2) x1 x2 = some r := hf
      unfold fm_indexY_L2_c at hf
      refine lv_aload_n C.1 C.2.1 dX10_indexY_2 rfl (lv_at hl 0 rfl) ?_
      refine gm_ys C hK hP dX10_indexY_3 ?_
      refine lv_iload_n C.1 C.2.1 dX10_indexY_6 rfl (lv_at hl 2 rfl) ?_
      obtain ⟨hi7, hf⟩ := gd_some hf
      refine lm_ys C hK hP hi7 dX10_indexY_7 ?_
      refine lv_iload_n C.1 C.2.1 dX10_indexY_8 rfl (lv_at hl 1 rfl) ?_
      refine lv_icmp_eq (tgt := 18) C.1 C.2.1 dX10_indexY_9 (by decide) (fun c9 => ?_) (fun c9 => ?_)
      · have hf := br_p c9 hf
        refine lv_iload_n C.1 C.2.1 dX10_indexY_18 rfl (lv_at hl 2 rfl) ?_
        exact KR.iret C hr hlk (Option.some.inj hf) dX10_indexY_19
      · have hf := br_n c9 hf
        obtain ⟨x2_12, ex2_12, hf⟩ := lt_some hf
        refine lv_iinc (v := x2_12) (lv' := [(2, .int x2_12), (0, .ref (ad 0)), (1, .int x1)]) C.1 C.2.1 dX10_indexY_12 hl (k := 2) rfl (by rw [ex2_12]; rfl) (by decide) rfl (fun ls hl => ?_)
        refine lv_goto (tgt := 2) C.1 C.2.1 dX10_indexY_15 (by decide) ?_
        exact ih2 ls _ _ (lv_sub hl [1, 2, 0] rfl) hf
  unfold fm_indexY at hf
  refine lv_iconst (v := (0 : Int32)) C.1 C.2.1 dX10_indexY_0 (by decide) ?_
  refine lv_istore_n (lv' := [(2, .int (0 : Int32)), (0, .ref (ad 0)), (1, .int a1)]) C.1 C.2.1 dX10_indexY_1 rfl hl (by decide) rfl (fun ls hl => ?_)
  exact hB2 F ls _ _ (lv_sub hl [1, 2, 0] rfl) hf
def fm_next_L116 (F : Nat) (σ : MS) (s0 : Int32) : Option (Int32) :=
  some s0
def fm_next_L113 (F : Nat) (σ : MS) : Option (Int32) :=
  fm_next_L116 F σ (-1000 : Int32)
def fm_next_L89 (F : Nat) (σ : MS) (s0 : Int32) : Option (Int32) :=
  some s0
def fm_next_L65 (F : Nat) (σ : MS) (s0 : Int32) : Option (Int32) :=
  some s0
def fm_next_L40 (F : Nat) (σ : MS) (s0 : Int32) : Option (Int32) :=
  some s0
def fm_next_L37 (F : Nat) (σ : MS) : Option (Int32) :=
  fm_next_L40 F σ (-1000 : Int32)
def fm_next (F : Nat) (σ : MS) (x1 : Int32) (x2 : Int32) : Option (Int32) :=
  lt (x1 / (20 : Int32)) (fun x3_4 => lt (x1 - x1 / (20 : Int32) * (20 : Int32)) (fun x4_9 => if x2 = 0 then (if x4_9 ≤ 0 then (fm_next_L37 F σ) else (gd (ix (x1 - (1 : Int32)) 400 = true) (if (ms_down σ (x1 - (1 : Int32)).toNatClampNeg) = 0 then (fm_next_L37 F σ) else (fm_next_L40 F σ (x1 - (1 : Int32)))))) else (if x2 = (1 : Int32) then (gd (ix x1 400 = true) (if (ms_right σ x1.toNatClampNeg) = 0 then (fm_next_L65 F σ (-1000 : Int32)) else (fm_next_L65 F σ (x1 + (20 : Int32))))) else (if x2 = (2 : Int32) then (gd (ix x1 400 = true) (if (ms_down σ x1.toNatClampNeg) = 0 then (fm_next_L89 F σ (-1000 : Int32)) else (fm_next_L89 F σ (x1 + (1 : Int32))))) else (if x3_4 ≤ 0 then (fm_next_L113 F σ) else (gd (ix (x1 - (20 : Int32)) 400 = true) (if (ms_right σ (x1 - (20 : Int32)).toNatClampNeg) = 0 then (fm_next_L113 F σ) else (fm_next_L116 F σ (x1 - (20 : Int32))))))))))
set_option maxHeartbeats 4000000 in
set_option maxRecDepth 100000 in
theorem km_next (l : Launch) (D : va_G) (cA : Nat → ClassId) (ad : Nat → Nat) (σ : MS) (F : Nat) (a1 : Int32) (a2 : Int32) (r : Int32) (hf : fm_next F σ a1 a2 = some r) : KR l D (tyG cA) yX10_next cX10_next 5 (some .int) (rmk 0 0) (wM cA ad σ) [.ref (ad 0), .int a1, .int a2] r := by
  refine KR.of (by decide) (Nat.le_of_ble_eq_true rfl) ?_
  intro p e s m below meth c C hr hlk hK hP ls hl
  have hl : lv_has ls 5 [(0, .ref (ad 0)), (1, .int a1), (2, .int a2)] := hl
  have hB116 : ∀ (ls : Array Slot) (s0 : Int32), lv_has ls 5 [(0, .ref (ad 0))] → fm_next_L116 F σ s0 = some r → WR p l e 0 0 s m [.ref (ad 0), .int a1, .int a2] below meth c r (F0 m 116 ls [.int s0]) := by
    intro ls s0 hl hf
    unfold fm_next_L116 at hf
    exact KR.iret C hr hlk (Option.some.inj hf) dX10_next_116
  have hB113 : ∀ (ls : Array Slot), lv_has ls 5 [(0, .ref (ad 0))] → fm_next_L113 F σ = some r → WR p l e 0 0 s m [.ref (ad 0), .int a1, .int a2] below meth c r (F0 m 113 ls []) := by
    intro ls hl hf
    unfold fm_next_L113 at hf
    refine lv_sipush (v := (-1000 : Int32)) C.1 C.2.1 dX10_next_113 (by decide) ?_
    exact hB116 ls _ (lv_sub hl [0] rfl) hf
  have hB89 : ∀ (ls : Array Slot) (s0 : Int32), lv_has ls 5 [(0, .ref (ad 0))] → fm_next_L89 F σ s0 = some r → WR p l e 0 0 s m [.ref (ad 0), .int a1, .int a2] below meth c r (F0 m 89 ls [.int s0]) := by
    intro ls s0 hl hf
    unfold fm_next_L89 at hf
    exact KR.iret C hr hlk (Option.some.inj hf) dX10_next_89
  have hB65 : ∀ (ls : Array Slot) (s0 : Int32), lv_has ls 5 [(0, .ref (ad 0))] → fm_next_L65 F σ s0 = some r → WR p l e 0 0 s m [.ref (ad 0), .int a1, .int a2] below meth c r (F0 m 65 ls [.int s0]) := by
    intro ls s0 hl hf
    unfold fm_next_L65 at hf
    exact KR.iret C hr hlk (Option.some.inj hf) dX10_next_65
  have hB40 : ∀ (ls : Array Slot) (s0 : Int32), lv_has ls 5 [(0, .ref (ad 0))] → fm_next_L40 F σ s0 = some r → WR p l e 0 0 s m [.ref (ad 0), .int a1, .int a2] below meth c r (F0 m 40 ls [.int s0]) := by
    intro ls s0 hl hf
    unfold fm_next_L40 at hf
    exact KR.iret C hr hlk (Option.some.inj hf) dX10_next_40
  have hB37 : ∀ (ls : Array Slot), lv_has ls 5 [(0, .ref (ad 0))] → fm_next_L37 F σ = some r → WR p l e 0 0 s m [.ref (ad 0), .int a1, .int a2] below meth c r (F0 m 37 ls []) := by
    intro ls hl hf
    unfold fm_next_L37 at hf
    refine lv_sipush (v := (-1000 : Int32)) C.1 C.2.1 dX10_next_37 (by decide) ?_
    exact hB40 ls _ (lv_sub hl [0] rfl) hf
  unfold fm_next at hf
  refine lv_iload_n C.1 C.2.1 dX10_next_0 rfl (lv_at hl 1 rfl) ?_
  refine lv_bipush (v := (20 : Int32)) C.1 C.2.1 dX10_next_1 (by decide) ?_
  refine lv_idiv C.1 C.2.1 dX10_next_3 (by decide) ?_
  obtain ⟨x3_4, ex3_4, hf⟩ := lt_some hf
  refine lv_tope ex3_4 ?_
  refine lv_istore_n (lv' := [(3, .int x3_4), (0, .ref (ad 0)), (1, .int a1), (2, .int a2)]) C.1 C.2.1 dX10_next_4 rfl hl (by decide) rfl (fun ls hl => ?_)
  refine lv_iload_n C.1 C.2.1 dX10_next_5 rfl (lv_at hl 2 rfl) ?_
  refine lv_bipush (v := (20 : Int32)) C.1 C.2.1 dX10_next_6 (by decide) ?_
  refine lv_irem C.1 C.2.1 dX10_next_8 (by decide) ?_
  obtain ⟨x4_9, ex4_9, hf⟩ := lt_some hf
  refine lv_tope ex4_9 ?_
  refine lv_istore (lv' := [(4, .int x4_9), (3, .int x3_4), (0, .ref (ad 0)), (1, .int a1), (2, .int a2)]) C.1 C.2.1 dX10_next_9 hl (by decide) rfl (fun ls hl => ?_)
  refine lv_iload_n C.1 C.2.1 dX10_next_11 rfl (lv_at hl 4 rfl) ?_
  refine lv_if_ne (tgt := 41) C.1 C.2.1 dX10_next_12 (by decide) (fun c12 => ?_) (fun c12 => ?_)
  · have hf := br_n c12 hf
    refine lv_iload_n C.1 C.2.1 dX10_next_41 rfl (lv_at hl 4 rfl) ?_
    refine lv_iconst (v := (1 : Int32)) C.1 C.2.1 dX10_next_42 (by decide) ?_
    refine lv_icmp_ne (tgt := 66) C.1 C.2.1 dX10_next_43 (by decide) (fun c43 => ?_) (fun c43 => ?_)
    · have hf := br_n c43 hf
      refine lv_iload_n C.1 C.2.1 dX10_next_66 rfl (lv_at hl 4 rfl) ?_
      refine lv_iconst (v := (2 : Int32)) C.1 C.2.1 dX10_next_67 (by decide) ?_
      refine lv_icmp_ne (tgt := 90) C.1 C.2.1 dX10_next_68 (by decide) (fun c68 => ?_) (fun c68 => ?_)
      · have hf := br_n c68 hf
        refine lv_iload_n C.1 C.2.1 dX10_next_90 rfl (lv_at hl 1 rfl) ?_
        refine lv_if_le (tgt := 113) C.1 C.2.1 dX10_next_91 (by decide) (fun c91 => ?_) (fun c91 => ?_)
        · have hf := br_p c91 hf
          exact hB113 ls (lv_sub hl [2] rfl) hf
        · have hf := br_n c91 hf
          refine lv_aload_n C.1 C.2.1 dX10_next_94 rfl (lv_at hl 2 rfl) ?_
          refine gm_right C hK hP dX10_next_95 ?_
          refine lv_iload_n C.1 C.2.1 dX10_next_98 rfl (lv_at hl 3 rfl) ?_
          refine lv_bipush (v := (20 : Int32)) C.1 C.2.1 dX10_next_99 (by decide) ?_
          refine lv_isub C.1 C.2.1 dX10_next_101 ?_
          obtain ⟨hi102, hf⟩ := gd_some hf
          refine lm_right C hK hP hi102 dX10_next_102 ?_
          refine lv_if_eq (tgt := 113) C.1 C.2.1 dX10_next_103 (by decide) (fun c103 => ?_) (fun c103 => ?_)
          · have hf := br_p c103 hf
            exact hB113 ls (lv_sub hl [2] rfl) hf
          · have hf := br_n c103 hf
            refine lv_iload_n C.1 C.2.1 dX10_next_106 rfl (lv_at hl 3 rfl) ?_
            refine lv_bipush (v := (20 : Int32)) C.1 C.2.1 dX10_next_107 (by decide) ?_
            refine lv_isub C.1 C.2.1 dX10_next_109 ?_
            refine lv_goto (tgt := 116) C.1 C.2.1 dX10_next_110 (by decide) ?_
            exact hB116 ls _ (lv_sub hl [2] rfl) hf
      · have hf := br_p c68 hf
        refine lv_aload_n C.1 C.2.1 dX10_next_71 rfl (lv_at hl 2 rfl) ?_
        refine gm_down C hK hP dX10_next_72 ?_
        refine lv_iload_n C.1 C.2.1 dX10_next_75 rfl (lv_at hl 3 rfl) ?_
        obtain ⟨hi76, hf⟩ := gd_some hf
        refine lm_down C hK hP hi76 dX10_next_76 ?_
        refine lv_if_eq (tgt := 86) C.1 C.2.1 dX10_next_77 (by decide) (fun c77 => ?_) (fun c77 => ?_)
        · have hf := br_p c77 hf
          refine lv_sipush (v := (-1000 : Int32)) C.1 C.2.1 dX10_next_86 (by decide) ?_
          exact hB89 ls _ (lv_sub hl [2] rfl) hf
        · have hf := br_n c77 hf
          refine lv_iload_n C.1 C.2.1 dX10_next_80 rfl (lv_at hl 3 rfl) ?_
          refine lv_iconst (v := (1 : Int32)) C.1 C.2.1 dX10_next_81 (by decide) ?_
          refine lv_iadd C.1 C.2.1 dX10_next_82 ?_
          refine lv_goto (tgt := 89) C.1 C.2.1 dX10_next_83 (by decide) ?_
          exact hB89 ls _ (lv_sub hl [2] rfl) hf
    · have hf := br_p c43 hf
      refine lv_aload_n C.1 C.2.1 dX10_next_46 rfl (lv_at hl 2 rfl) ?_
      refine gm_right C hK hP dX10_next_47 ?_
      refine lv_iload_n C.1 C.2.1 dX10_next_50 rfl (lv_at hl 3 rfl) ?_
      obtain ⟨hi51, hf⟩ := gd_some hf
      refine lm_right C hK hP hi51 dX10_next_51 ?_
      refine lv_if_eq (tgt := 62) C.1 C.2.1 dX10_next_52 (by decide) (fun c52 => ?_) (fun c52 => ?_)
      · have hf := br_p c52 hf
        refine lv_sipush (v := (-1000 : Int32)) C.1 C.2.1 dX10_next_62 (by decide) ?_
        exact hB65 ls _ (lv_sub hl [2] rfl) hf
      · have hf := br_n c52 hf
        refine lv_iload_n C.1 C.2.1 dX10_next_55 rfl (lv_at hl 3 rfl) ?_
        refine lv_bipush (v := (20 : Int32)) C.1 C.2.1 dX10_next_56 (by decide) ?_
        refine lv_iadd C.1 C.2.1 dX10_next_58 ?_
        refine lv_goto (tgt := 65) C.1 C.2.1 dX10_next_59 (by decide) ?_
        exact hB65 ls _ (lv_sub hl [2] rfl) hf
  · have hf := br_p c12 hf
    refine lv_iload C.1 C.2.1 dX10_next_15 (lv_at hl 0 rfl) ?_
    refine lv_if_le (tgt := 37) C.1 C.2.1 dX10_next_17 (by decide) (fun c17 => ?_) (fun c17 => ?_)
    · have hf := br_p c17 hf
      exact hB37 ls (lv_sub hl [2] rfl) hf
    · have hf := br_n c17 hf
      refine lv_aload_n C.1 C.2.1 dX10_next_20 rfl (lv_at hl 2 rfl) ?_
      refine gm_down C hK hP dX10_next_21 ?_
      refine lv_iload_n C.1 C.2.1 dX10_next_24 rfl (lv_at hl 3 rfl) ?_
      refine lv_iconst (v := (1 : Int32)) C.1 C.2.1 dX10_next_25 (by decide) ?_
      refine lv_isub C.1 C.2.1 dX10_next_26 ?_
      obtain ⟨hi27, hf⟩ := gd_some hf
      refine lm_down C hK hP hi27 dX10_next_27 ?_
      refine lv_if_eq (tgt := 37) C.1 C.2.1 dX10_next_28 (by decide) (fun c28 => ?_) (fun c28 => ?_)
      · have hf := br_p c28 hf
        exact hB37 ls (lv_sub hl [2] rfl) hf
      · have hf := br_n c28 hf
        refine lv_iload_n C.1 C.2.1 dX10_next_31 rfl (lv_at hl 3 rfl) ?_
        refine lv_iconst (v := (1 : Int32)) C.1 C.2.1 dX10_next_32 (by decide) ?_
        refine lv_isub C.1 C.2.1 dX10_next_33 ?_
        refine lv_goto (tgt := 40) C.1 C.2.1 dX10_next_34 (by decide) ?_
        exact hB40 ls _ (lv_sub hl [2] rfl) hf
