def fm_shared_L61_c (F : Nat) (σ : MS) (k48 : Int32 → Int32 → Int32 → Int32 → Option (Int32)) (k61 : Int32 → Int32 → Int32 → Int32 → Int32 → Option (Int32)) (x1 : Int32) (x2 : Int32) (x3 : Int32) (x4 : Int32) (x5 : Int32) : Option (Int32) :=
  bd (fm_segments F σ x2) (fun r65 => if r65 ≤ x5 then (lt (x4 + (1 : Int32)) (fun x4_90 => k48 x1 x2 x3 x4_90)) else (bd (fm_common F σ x1 x4 x2 x5) (fun r79 => lt (x3 + r79) (fun x3_83 => lt (x5 + (1 : Int32)) (fun x5_84 => k61 x1 x2 x3_83 x4 x5_84)))))
def fm_shared_L61 (F : Nat) (σ : MS) (k48 : Int32 → Int32 → Int32 → Int32 → Option (Int32)) (n : Nat) (x1 : Int32) (x2 : Int32) (x3 : Int32) (x4 : Int32) (x5 : Int32) : Option (Int32) := lpN (fun (k : Int32 × Int32 × Int32 × Int32 × Int32 → Option (Int32)) a => fm_shared_L61_c F σ k48 (fun x1 x2 x3 x4 x5 => k (x1, x2, x3, x4, x5)) a.1 a.2.1 a.2.2.1 a.2.2.2.1 a.2.2.2.2) n (x1, x2, x3, x4, x5)
def fm_shared_L48_c (F : Nat) (σ : MS) (k48 : Int32 → Int32 → Int32 → Int32 → Option (Int32)) (x1 : Int32) (x2 : Int32) (x3 : Int32) (x4 : Int32) : Option (Int32) :=
  bd (fm_segments F σ x1) (fun r52 => if r52 ≤ x4 then (some x3) else (fm_shared_L61 F σ k48 F x1 x2 x3 x4 (0 : Int32)))
def fm_shared_L48 (F : Nat) (σ : MS) (n : Nat) (x1 : Int32) (x2 : Int32) (x3 : Int32) (x4 : Int32) : Option (Int32) := lpN (fun (k : Int32 × Int32 × Int32 × Int32 → Option (Int32)) a => fm_shared_L48_c F σ (fun x1 x2 x3 x4 => k (x1, x2, x3, x4)) a.1 a.2.1 a.2.2.1 a.2.2.2) n (x1, x2, x3, x4)
def fm_shared_L42 (F : Nat) (σ : MS) (s0 : Int32) : Option (Int32) :=
  some s0
def fm_shared_L16 (F : Nat) (σ : MS) : Option (Int32) :=
  some (-1001 : Int32)
def fm_shared (F : Nat) (σ : MS) (x1 : Int32) (x2 : Int32) : Option (Int32) :=
  bd (fm_isLink F σ x1) (fun r2 => if r2 = 0 then (fm_shared_L16 F σ) else (bd (fm_isLink F σ x2) (fun r10 => if r10 = 0 then (fm_shared_L16 F σ) else (if x1 = x2 then (bd (fm_hasRoute F σ x1) (fun r27 => if r27 = 0 then (fm_shared_L42 F σ (0 : Int32)) else (bd (fm_lengthOf F σ x1) (fun r35 => fm_shared_L42 F σ r35)))) else (fm_shared_L48 F σ F x1 x2 (0 : Int32) (0 : Int32))))))
set_option maxHeartbeats 4000000 in
set_option maxRecDepth 100000 in
theorem km_shared (l : Launch) (D : va_G) (cA : Nat → ClassId) (ad : Nat → Nat) (σ : MS) (F : Nat) (a1 : Int32) (a2 : Int32) (r : Int32) (hf : fm_shared F σ a1 a2 = some r) : KR l D (tyG cA) yX10_shared cX10_shared 6 (some .int) (rmk 5 115) (wM cA ad σ) [.ref (ad 0), .int a1, .int a2] r := by
  refine KR.of (by decide) (Nat.le_of_ble_eq_true rfl) ?_
  intro p e s m below meth c C hr hlk hK hP ls hl
  have hl : lv_has ls 6 [(0, .ref (ad 0)), (1, .int a1), (2, .int a2)] := hl
  have hB48 : ∀ (n48 : Nat) (ls : Array Slot) (x1 : Int32) (x2 : Int32) (x3 : Int32) (x4 : Int32), lv_has ls 6 [(0, .ref (ad 0)), (1, .int x1), (2, .int x2), (3, .int x3), (4, .int x4)] → fm_shared_L48 F σ n48 x1 x2 x3 x4 = some r → WR p l e 5 115 s m [.ref (ad 0), .int a1, .int a2] below meth c r (F0 m 48 ls []) := by
    intro n48
    induction n48 with
    | zero =>
      intro ls x1 x2 x3 x4 hl hf
      cases (show (none : Option _) = _ from hf)
    | succ n48 ih48 =>
      have hB61 : ∀ (n61 : Nat) (ls : Array Slot) (x1 : Int32) (x2 : Int32) (x3 : Int32) (x4 : Int32) (x5 : Int32), lv_has ls 6 [(0, .ref (ad 0)), (1, .int x1), (2, .int x2), (3, .int x3), (4, .int x4), (5, .int x5)] → fm_shared_L61 F σ (fm_shared_L48 F σ n48) n61 x1 x2 x3 x4 x5 = some r → WR p l e 5 115 s m [.ref (ad 0), .int a1, .int a2] below meth c r (F0 m 61 ls []) := by
        intro n61
        induction n61 with
        | zero =>
          intro ls x1 x2 x3 x4 x5 hl hf
          cases (show (none : Option _) = _ from hf)
        | succ n61 ih61 =>
          intro ls x1 x2 x3 x4 x5 hl hf
          have hf : fm_shared_L61_c F σ (fm_shared_L48 F σ n48) (fm_shared_L61 F σ (fm_shared_L48 F σ n48) n61) x1 x2 x3 x4 x5 = some r := hf
          unfold fm_shared_L61_c at hf
          refine lv_iload C.1 C.2.1 dX10_shared_61 (lv_at hl 5 rfl) ?_
          refine lv_aload_n C.1 C.2.1 dX10_shared_63 rfl (lv_at hl 0 rfl) ?_
          refine lv_iload_n C.1 C.2.1 dX10_shared_64 rfl (lv_at hl 2 rfl) ?_
          obtain ⟨r65, hc65, hf⟩ := bd_some hf
          refine callRV (As := [_]) C hK hP wv_X10_213 hl (km_segments l D cA ad _ F _ r65 hc65) (rcM hK hP) rfl rfl rfl (Nat.le_of_ble_eq_true rfl) ⟨Nat.le_refl _, Nat.le_refl _⟩ dX10_shared_65 ?_
          refine lv_icmp_ge (tgt := 90) C.1 C.2.1 dX10_shared_68 (by decide) (fun c68 => ?_) (fun c68 => ?_)
          · have hf := br_p c68 hf
            obtain ⟨x4_90, ex4_90, hf⟩ := lt_some hf
            refine lv_iinc (v := x4_90) (lv' := [(4, .int x4_90), (0, .ref (ad 0)), (1, .int x1), (2, .int x2), (3, .int x3), (5, .int x5)]) C.1 C.2.1 dX10_shared_90 hl (k := 4) rfl (by rw [ex4_90]; rfl) (by decide) rfl (fun ls hl => ?_)
            refine lv_goto (tgt := 48) C.1 C.2.1 dX10_shared_93 (by decide) ?_
            exact ih48 ls _ _ _ _ (lv_sub hl [1, 2, 3, 4, 0] rfl) hf
          · have hf := br_n c68 hf
            refine lv_iload_n C.1 C.2.1 dX10_shared_71 rfl (lv_at hl 3 rfl) ?_
            refine lv_aload_n C.1 C.2.1 dX10_shared_72 rfl (lv_at hl 0 rfl) ?_
            refine lv_iload_n C.1 C.2.1 dX10_shared_73 rfl (lv_at hl 1 rfl) ?_
            refine lv_iload C.1 C.2.1 dX10_shared_74 (lv_at hl 4 rfl) ?_
            refine lv_iload_n C.1 C.2.1 dX10_shared_76 rfl (lv_at hl 2 rfl) ?_
            refine lv_iload C.1 C.2.1 dX10_shared_77 (lv_at hl 5 rfl) ?_
            obtain ⟨r79, hc79, hf⟩ := bd_some hf
            refine callRV (As := [_, _, _, _]) C hK hP wv_X10_222 hl (km_common l D cA ad _ F _ _ _ _ r79 hc79) (rcM hK hP) rfl rfl rfl (Nat.le_of_ble_eq_true rfl) ⟨Nat.le_refl _, Nat.le_refl _⟩ dX10_shared_79 ?_
            refine lv_iadd C.1 C.2.1 dX10_shared_82 ?_
            obtain ⟨x3_83, ex3_83, hf⟩ := lt_some hf
            refine lv_tope ex3_83 ?_
            refine lv_istore_n (lv' := [(3, .int x3_83), (0, .ref (ad 0)), (1, .int x1), (2, .int x2), (4, .int x4), (5, .int x5)]) C.1 C.2.1 dX10_shared_83 rfl hl (by decide) rfl (fun ls hl => ?_)
            obtain ⟨x5_84, ex5_84, hf⟩ := lt_some hf
            refine lv_iinc (v := x5_84) (lv' := [(5, .int x5_84), (3, .int x3_83), (0, .ref (ad 0)), (1, .int x1), (2, .int x2), (4, .int x4)]) C.1 C.2.1 dX10_shared_84 hl (k := 5) rfl (by rw [ex5_84]; rfl) (by decide) rfl (fun ls hl => ?_)
            refine lv_goto (tgt := 61) C.1 C.2.1 dX10_shared_87 (by decide) ?_
            exact ih61 ls _ _ _ _ _ (lv_sub hl [2, 3, 4, 1, 5, 0] rfl) hf
      intro ls x1 x2 x3 x4 hl hf
      have hf : fm_shared_L48_c F σ (fm_shared_L48 F σ n48) x1 x2 x3 x4 = some r := hf
      unfold fm_shared_L48_c at hf
      refine lv_iload C.1 C.2.1 dX10_shared_48 (lv_at hl 4 rfl) ?_
      refine lv_aload_n C.1 C.2.1 dX10_shared_50 rfl (lv_at hl 0 rfl) ?_
      refine lv_iload_n C.1 C.2.1 dX10_shared_51 rfl (lv_at hl 1 rfl) ?_
      obtain ⟨r52, hc52, hf⟩ := bd_some hf
      refine callRV (As := [_]) C hK hP wv_X10_213 hl (km_segments l D cA ad _ F _ r52 hc52) (rcM hK hP) rfl rfl rfl (Nat.le_of_ble_eq_true rfl) ⟨Nat.le_refl _, Nat.le_refl _⟩ dX10_shared_52 ?_
      refine lv_icmp_ge (tgt := 96) C.1 C.2.1 dX10_shared_55 (by decide) (fun c55 => ?_) (fun c55 => ?_)
      · have hf := br_p c55 hf
        refine lv_iload_n C.1 C.2.1 dX10_shared_96 rfl (lv_at hl 3 rfl) ?_
        exact KR.iret C hr hlk (Option.some.inj hf) dX10_shared_97
      · have hf := br_n c55 hf
        refine lv_iconst (v := (0 : Int32)) C.1 C.2.1 dX10_shared_58 (by decide) ?_
        refine lv_istore (lv' := [(5, .int (0 : Int32)), (0, .ref (ad 0)), (1, .int x1), (2, .int x2), (3, .int x3), (4, .int x4)]) C.1 C.2.1 dX10_shared_59 hl (by decide) rfl (fun ls hl => ?_)
        exact hB61 F ls _ _ _ _ _ (lv_sub hl [1, 2, 3, 4, 5, 0] rfl) hf
  have hB42 : ∀ (ls : Array Slot) (s0 : Int32), lv_has ls 6 [(0, .ref (ad 0))] → fm_shared_L42 F σ s0 = some r → WR p l e 5 115 s m [.ref (ad 0), .int a1, .int a2] below meth c r (F0 m 42 ls [.int s0]) := by
    intro ls s0 hl hf
    unfold fm_shared_L42 at hf
    exact KR.iret C hr hlk (Option.some.inj hf) dX10_shared_42
  have hB16 : ∀ (ls : Array Slot), lv_has ls 6 [(0, .ref (ad 0))] → fm_shared_L16 F σ = some r → WR p l e 5 115 s m [.ref (ad 0), .int a1, .int a2] below meth c r (F0 m 16 ls []) := by
    intro ls hl hf
    unfold fm_shared_L16 at hf
    refine lv_sipush (v := (-1001 : Int32)) C.1 C.2.1 dX10_shared_16 (by decide) ?_
    exact KR.iret C hr hlk (Option.some.inj hf) dX10_shared_19
  unfold fm_shared at hf
  refine lv_aload_n C.1 C.2.1 dX10_shared_0 rfl (lv_at hl 0 rfl) ?_
  refine lv_iload_n C.1 C.2.1 dX10_shared_1 rfl (lv_at hl 1 rfl) ?_
  obtain ⟨r2, hc2, hf⟩ := bd_some hf
  refine callRV (As := [_]) C hK hP wv_X10_111 hl (km_isLink l D cA ad _ F _ r2 hc2) (rcM hK hP) rfl rfl rfl (Nat.le_of_ble_eq_true rfl) ⟨Nat.le_refl _, Nat.le_refl _⟩ dX10_shared_2 ?_
  refine lv_if_eq (tgt := 16) C.1 C.2.1 dX10_shared_5 (by decide) (fun c5 => ?_) (fun c5 => ?_)
  · have hf := br_p c5 hf
    exact hB16 ls (lv_sub hl [0] rfl) hf
  · have hf := br_n c5 hf
    refine lv_aload_n C.1 C.2.1 dX10_shared_8 rfl (lv_at hl 0 rfl) ?_
    refine lv_iload_n C.1 C.2.1 dX10_shared_9 rfl (lv_at hl 2 rfl) ?_
    obtain ⟨r10, hc10, hf⟩ := bd_some hf
    refine callRV (As := [_]) C hK hP wv_X10_111 hl (km_isLink l D cA ad _ F _ r10 hc10) (rcM hK hP) rfl rfl rfl (Nat.le_of_ble_eq_true rfl) ⟨Nat.le_refl _, Nat.le_refl _⟩ dX10_shared_10 ?_
    refine lv_if_ne (tgt := 20) C.1 C.2.1 dX10_shared_13 (by decide) (fun c13 => ?_) (fun c13 => ?_)
    · have hf := br_n c13 hf
      refine lv_iload_n C.1 C.2.1 dX10_shared_20 rfl (lv_at hl 1 rfl) ?_
      refine lv_iload_n C.1 C.2.1 dX10_shared_21 rfl (lv_at hl 2 rfl) ?_
      refine lv_icmp_ne (tgt := 43) C.1 C.2.1 dX10_shared_22 (by decide) (fun c22 => ?_) (fun c22 => ?_)
      · have hf := br_n c22 hf
        refine lv_iconst (v := (0 : Int32)) C.1 C.2.1 dX10_shared_43 (by decide) ?_
        refine lv_istore_n (lv' := [(3, .int (0 : Int32)), (0, .ref (ad 0)), (1, .int a1), (2, .int a2)]) C.1 C.2.1 dX10_shared_44 rfl hl (by decide) rfl (fun ls hl => ?_)
        refine lv_iconst (v := (0 : Int32)) C.1 C.2.1 dX10_shared_45 (by decide) ?_
        refine lv_istore (lv' := [(4, .int (0 : Int32)), (3, .int (0 : Int32)), (0, .ref (ad 0)), (1, .int a1), (2, .int a2)]) C.1 C.2.1 dX10_shared_46 hl (by decide) rfl (fun ls hl => ?_)
        exact hB48 F ls _ _ _ _ (lv_sub hl [2, 3, 4, 1, 0] rfl) hf
      · have hf := br_p c22 hf
        refine lv_aload_n C.1 C.2.1 dX10_shared_25 rfl (lv_at hl 0 rfl) ?_
        refine lv_iload_n C.1 C.2.1 dX10_shared_26 rfl (lv_at hl 1 rfl) ?_
        obtain ⟨r27, hc27, hf⟩ := bd_some hf
        refine callRV (As := [_]) C hK hP wv_X10_114 hl (km_hasRoute l D cA ad _ F _ r27 hc27) (rcM hK hP) rfl rfl rfl (Nat.le_of_ble_eq_true rfl) ⟨Nat.le_refl _, Nat.le_refl _⟩ dX10_shared_27 ?_
        refine lv_if_eq (tgt := 41) C.1 C.2.1 dX10_shared_30 (by decide) (fun c30 => ?_) (fun c30 => ?_)
        · have hf := br_p c30 hf
          refine lv_iconst (v := (0 : Int32)) C.1 C.2.1 dX10_shared_41 (by decide) ?_
          exact hB42 ls _ (lv_sub hl [0] rfl) hf
        · have hf := br_n c30 hf
          refine lv_aload_n C.1 C.2.1 dX10_shared_33 rfl (lv_at hl 0 rfl) ?_
          refine lv_iload_n C.1 C.2.1 dX10_shared_34 rfl (lv_at hl 1 rfl) ?_
          obtain ⟨r35, hc35, hf⟩ := bd_some hf
          refine callRV (As := [_]) C hK hP wv_X10_195 hl (km_lengthOf l D cA ad _ F _ r35 hc35) (rcM hK hP) rfl rfl rfl (Nat.le_of_ble_eq_true rfl) ⟨Nat.le_refl _, Nat.le_refl _⟩ dX10_shared_35 ?_
          refine lv_goto (tgt := 42) C.1 C.2.1 dX10_shared_38 (by decide) ?_
          exact hB42 ls _ (lv_sub hl [0] rfl) hf
    · have hf := br_p c13 hf
      exact hB16 ls (lv_sub hl [0] rfl) hf
def fm_pullOf_L74 (F : Nat) (σ : MS) (s0 : Int32) : Option (Int32) :=
  some s0
def fm_pullOf (F : Nat) (σ : MS) (x1 : Int32) : Option (Int32) :=
  lt (x1 / (100 : Int32)) (fun x2_4 => lt (x1 - x1 / (100 : Int32) * (100 : Int32)) (fun x3_9 => bd (fm_isFlat F σ x2_4 x3_9) (fun r13 => if r13 = 0 then (bd (fm_cornerX F σ x2_4 (x3_9 - (1 : Int32))) (fun r53 => bd (fm_cornerX F σ x2_4 (x3_9 + (2 : Int32))) (fun r61 => bd (fm_cornerX F σ x2_4 x3_9) (fun r69 => fm_pullOf_L74 F σ ((r53 + r61) - ((2 : Int32) * r69)))))) else (bd (fm_cornerY F σ x2_4 (x3_9 - (1 : Int32))) (fun r24 => bd (fm_cornerY F σ x2_4 (x3_9 + (2 : Int32))) (fun r32 => bd (fm_cornerY F σ x2_4 x3_9) (fun r40 => fm_pullOf_L74 F σ ((r24 + r32) - ((2 : Int32) * r40)))))))))
set_option maxHeartbeats 4000000 in
set_option maxRecDepth 100000 in
theorem km_pullOf (l : Launch) (D : va_G) (cA : Nat → ClassId) (ad : Nat → Nat) (σ : MS) (F : Nat) (a1 : Int32) (r : Int32) (hf : fm_pullOf F σ a1 = some r) : KR l D (tyG cA) yX10_pullOf cX10_pullOf 4 (some .int) (rmk 3 66) (wM cA ad σ) [.ref (ad 0), .int a1] r := by
  refine KR.of (by decide) (Nat.le_of_ble_eq_true rfl) ?_
  intro p e s m below meth c C hr hlk hK hP ls hl
  have hl : lv_has ls 4 [(0, .ref (ad 0)), (1, .int a1)] := hl
  have hB74 : ∀ (ls : Array Slot) (s0 : Int32), lv_has ls 4 [(0, .ref (ad 0))] → fm_pullOf_L74 F σ s0 = some r → WR p l e 3 66 s m [.ref (ad 0), .int a1] below meth c r (F0 m 74 ls [.int s0]) := by
    intro ls s0 hl hf
    unfold fm_pullOf_L74 at hf
    exact KR.iret C hr hlk (Option.some.inj hf) dX10_pullOf_74
  unfold fm_pullOf at hf
  refine lv_iload_n C.1 C.2.1 dX10_pullOf_0 rfl (lv_at hl 1 rfl) ?_
  refine lv_bipush (v := (100 : Int32)) C.1 C.2.1 dX10_pullOf_1 (by decide) ?_
  refine lv_idiv C.1 C.2.1 dX10_pullOf_3 (by decide) ?_
  obtain ⟨x2_4, ex2_4, hf⟩ := lt_some hf
  refine lv_tope ex2_4 ?_
  refine lv_istore_n (lv' := [(2, .int x2_4), (0, .ref (ad 0)), (1, .int a1)]) C.1 C.2.1 dX10_pullOf_4 rfl hl (by decide) rfl (fun ls hl => ?_)
  refine lv_iload_n C.1 C.2.1 dX10_pullOf_5 rfl (lv_at hl 2 rfl) ?_
  refine lv_bipush (v := (100 : Int32)) C.1 C.2.1 dX10_pullOf_6 (by decide) ?_
  refine lv_irem C.1 C.2.1 dX10_pullOf_8 (by decide) ?_
  obtain ⟨x3_9, ex3_9, hf⟩ := lt_some hf
  refine lv_tope ex3_9 ?_
  refine lv_istore_n (lv' := [(3, .int x3_9), (2, .int x2_4), (0, .ref (ad 0)), (1, .int a1)]) C.1 C.2.1 dX10_pullOf_9 rfl hl (by decide) rfl (fun ls hl => ?_)
  refine lv_aload_n C.1 C.2.1 dX10_pullOf_10 rfl (lv_at hl 2 rfl) ?_
  refine lv_iload_n C.1 C.2.1 dX10_pullOf_11 rfl (lv_at hl 1 rfl) ?_
  refine lv_iload_n C.1 C.2.1 dX10_pullOf_12 rfl (lv_at hl 0 rfl) ?_
  obtain ⟨r13, hc13, hf⟩ := bd_some hf
  refine callRV (As := [_, _]) C hK hP wv_X10_216 hl (km_isFlat l D cA ad _ F _ _ r13 hc13) (rcM hK hP) rfl rfl rfl (Nat.le_of_ble_eq_true rfl) ⟨Nat.le_refl _, Nat.le_refl _⟩ dX10_pullOf_13 ?_
  refine lv_if_eq (tgt := 48) C.1 C.2.1 dX10_pullOf_16 (by decide) (fun c16 => ?_) (fun c16 => ?_)
  · have hf := br_p c16 hf
    refine lv_aload_n C.1 C.2.1 dX10_pullOf_48 rfl (lv_at hl 2 rfl) ?_
    refine lv_iload_n C.1 C.2.1 dX10_pullOf_49 rfl (lv_at hl 1 rfl) ?_
    refine lv_iload_n C.1 C.2.1 dX10_pullOf_50 rfl (lv_at hl 0 rfl) ?_
    refine lv_iconst (v := (1 : Int32)) C.1 C.2.1 dX10_pullOf_51 (by decide) ?_
    refine lv_isub C.1 C.2.1 dX10_pullOf_52 ?_
    obtain ⟨r53, hc53, hf⟩ := bd_some hf
    refine callRV (As := [_, _]) C hK hP wv_X10_117 hl (km_cornerX l D cA ad _ F _ _ r53 hc53) (rcM hK hP) rfl rfl rfl (Nat.le_of_ble_eq_true rfl) ⟨Nat.le_refl _, Nat.le_refl _⟩ dX10_pullOf_53 ?_
    refine lv_aload_n C.1 C.2.1 dX10_pullOf_56 rfl (lv_at hl 2 rfl) ?_
    refine lv_iload_n C.1 C.2.1 dX10_pullOf_57 rfl (lv_at hl 1 rfl) ?_
    refine lv_iload_n C.1 C.2.1 dX10_pullOf_58 rfl (lv_at hl 0 rfl) ?_
    refine lv_iconst (v := (2 : Int32)) C.1 C.2.1 dX10_pullOf_59 (by decide) ?_
    refine lv_iadd C.1 C.2.1 dX10_pullOf_60 ?_
    obtain ⟨r61, hc61, hf⟩ := bd_some hf
    refine callRV (As := [_, _]) C hK hP wv_X10_117 hl (km_cornerX l D cA ad _ F _ _ r61 hc61) (rcM hK hP) rfl rfl rfl (Nat.le_of_ble_eq_true rfl) ⟨Nat.le_refl _, Nat.le_refl _⟩ dX10_pullOf_61 ?_
    refine lv_iadd C.1 C.2.1 dX10_pullOf_64 ?_
    refine lv_iconst (v := (2 : Int32)) C.1 C.2.1 dX10_pullOf_65 (by decide) ?_
    refine lv_aload_n C.1 C.2.1 dX10_pullOf_66 rfl (lv_at hl 2 rfl) ?_
    refine lv_iload_n C.1 C.2.1 dX10_pullOf_67 rfl (lv_at hl 1 rfl) ?_
    refine lv_iload_n C.1 C.2.1 dX10_pullOf_68 rfl (lv_at hl 0 rfl) ?_
    obtain ⟨r69, hc69, hf⟩ := bd_some hf
    refine callRV (As := [_, _]) C hK hP wv_X10_117 hl (km_cornerX l D cA ad _ F _ _ r69 hc69) (rcM hK hP) rfl rfl rfl (Nat.le_of_ble_eq_true rfl) ⟨Nat.le_refl _, Nat.le_refl _⟩ dX10_pullOf_69 ?_
    refine lv_imul C.1 C.2.1 dX10_pullOf_72 ?_
    refine lv_isub C.1 C.2.1 dX10_pullOf_73 ?_
    exact hB74 ls _ (lv_sub hl [2] rfl) hf
  · have hf := br_n c16 hf
    refine lv_aload_n C.1 C.2.1 dX10_pullOf_19 rfl (lv_at hl 2 rfl) ?_
    refine lv_iload_n C.1 C.2.1 dX10_pullOf_20 rfl (lv_at hl 1 rfl) ?_
    refine lv_iload_n C.1 C.2.1 dX10_pullOf_21 rfl (lv_at hl 0 rfl) ?_
    refine lv_iconst (v := (1 : Int32)) C.1 C.2.1 dX10_pullOf_22 (by decide) ?_
    refine lv_isub C.1 C.2.1 dX10_pullOf_23 ?_
    obtain ⟨r24, hc24, hf⟩ := bd_some hf
    refine callRV (As := [_, _]) C hK hP wv_X10_124 hl (km_cornerY l D cA ad _ F _ _ r24 hc24) (rcM hK hP) rfl rfl rfl (Nat.le_of_ble_eq_true rfl) ⟨Nat.le_refl _, Nat.le_refl _⟩ dX10_pullOf_24 ?_
    refine lv_aload_n C.1 C.2.1 dX10_pullOf_27 rfl (lv_at hl 2 rfl) ?_
    refine lv_iload_n C.1 C.2.1 dX10_pullOf_28 rfl (lv_at hl 1 rfl) ?_
    refine lv_iload_n C.1 C.2.1 dX10_pullOf_29 rfl (lv_at hl 0 rfl) ?_
    refine lv_iconst (v := (2 : Int32)) C.1 C.2.1 dX10_pullOf_30 (by decide) ?_
    refine lv_iadd C.1 C.2.1 dX10_pullOf_31 ?_
    obtain ⟨r32, hc32, hf⟩ := bd_some hf
    refine callRV (As := [_, _]) C hK hP wv_X10_124 hl (km_cornerY l D cA ad _ F _ _ r32 hc32) (rcM hK hP) rfl rfl rfl (Nat.le_of_ble_eq_true rfl) ⟨Nat.le_refl _, Nat.le_refl _⟩ dX10_pullOf_32 ?_
    refine lv_iadd C.1 C.2.1 dX10_pullOf_35 ?_
    refine lv_iconst (v := (2 : Int32)) C.1 C.2.1 dX10_pullOf_36 (by decide) ?_
    refine lv_aload_n C.1 C.2.1 dX10_pullOf_37 rfl (lv_at hl 2 rfl) ?_
    refine lv_iload_n C.1 C.2.1 dX10_pullOf_38 rfl (lv_at hl 1 rfl) ?_
    refine lv_iload_n C.1 C.2.1 dX10_pullOf_39 rfl (lv_at hl 0 rfl) ?_
    obtain ⟨r40, hc40, hf⟩ := bd_some hf
    refine callRV (As := [_, _]) C hK hP wv_X10_124 hl (km_cornerY l D cA ad _ F _ _ r40 hc40) (rcM hK hP) rfl rfl rfl (Nat.le_of_ble_eq_true rfl) ⟨Nat.le_refl _, Nat.le_refl _⟩ dX10_pullOf_40 ?_
    refine lv_imul C.1 C.2.1 dX10_pullOf_43 ?_
    refine lv_isub C.1 C.2.1 dX10_pullOf_44 ?_
    refine lv_goto (tgt := 74) C.1 C.2.1 dX10_pullOf_45 (by decide) ?_
    exact hB74 ls _ (lv_sub hl [2] rfl) hf
def fm_collide_L33 (F : Nat) (σ : MS) (s0 : Int32) : Option (Int32) :=
  gd (s0 = 0 ∨ s0 = 1) (some s0)
def fm_collide_L32 (F : Nat) (σ : MS) : Option (Int32) :=
  fm_collide_L33 F σ (0 : Int32)
def fm_collide (F : Nat) (σ : MS) (x1 : Int32) (x2 : Int32) : Option (Int32) :=
  if x1 = x2 then (fm_collide_L32 F σ) else (bd (fm_common F σ (x1 / (100 : Int32)) (x1 - x1 / (100 : Int32) * (100 : Int32)) (x2 / (100 : Int32)) (x2 - x2 / (100 : Int32) * (100 : Int32))) (fun r22 => if r22 ≤ 0 then (fm_collide_L32 F σ) else (fm_collide_L33 F σ (1 : Int32))))
set_option maxHeartbeats 4000000 in
set_option maxRecDepth 100000 in
theorem km_collide (l : Launch) (D : va_G) (cA : Nat → ClassId) (ad : Nat → Nat) (σ : MS) (F : Nat) (a1 : Int32) (a2 : Int32) (r : Int32) (hf : fm_collide F σ a1 a2 = some r) : KR l D (tyG cA) yX10_collide cX10_collide 3 (some .boolean) (rmk 5 115) (wM cA ad σ) [.ref (ad 0), .int a1, .int a2] r := by
  refine KR.of (by decide) (Nat.le_of_ble_eq_true rfl) ?_
  intro p e s m below meth c C hr hlk hK hP ls hl
  have hl : lv_has ls 3 [(0, .ref (ad 0)), (1, .int a1), (2, .int a2)] := hl
  have hB33 : ∀ (ls : Array Slot) (s0 : Int32), lv_has ls 3 [(0, .ref (ad 0))] → fm_collide_L33 F σ s0 = some r → WR p l e 5 115 s m [.ref (ad 0), .int a1, .int a2] below meth c r (F0 m 33 ls [.int s0]) := by
    intro ls s0 hl hf
    unfold fm_collide_L33 at hf
    obtain ⟨hz33, hf⟩ := gd_some hf
    exact KR.zret C hr hlk hz33 (Option.some.inj hf) dX10_collide_33
  have hB32 : ∀ (ls : Array Slot), lv_has ls 3 [(0, .ref (ad 0))] → fm_collide_L32 F σ = some r → WR p l e 5 115 s m [.ref (ad 0), .int a1, .int a2] below meth c r (F0 m 32 ls []) := by
    intro ls hl hf
    unfold fm_collide_L32 at hf
    refine lv_iconst (v := (0 : Int32)) C.1 C.2.1 dX10_collide_32 (by decide) ?_
    exact hB33 ls _ (lv_sub hl [0] rfl) hf
  unfold fm_collide at hf
  refine lv_iload_n C.1 C.2.1 dX10_collide_0 rfl (lv_at hl 1 rfl) ?_
  refine lv_iload_n C.1 C.2.1 dX10_collide_1 rfl (lv_at hl 2 rfl) ?_
  refine lv_icmp_eq (tgt := 32) C.1 C.2.1 dX10_collide_2 (by decide) (fun c2 => ?_) (fun c2 => ?_)
  · have hf := br_p c2 hf
    exact hB32 ls (lv_sub hl [0] rfl) hf
  · have hf := br_n c2 hf
    refine lv_aload_n C.1 C.2.1 dX10_collide_5 rfl (lv_at hl 0 rfl) ?_
    refine lv_iload_n C.1 C.2.1 dX10_collide_6 rfl (lv_at hl 1 rfl) ?_
    refine lv_bipush (v := (100 : Int32)) C.1 C.2.1 dX10_collide_7 (by decide) ?_
    refine lv_idiv C.1 C.2.1 dX10_collide_9 (by decide) ?_
    refine lv_iload_n C.1 C.2.1 dX10_collide_10 rfl (lv_at hl 1 rfl) ?_
    refine lv_bipush (v := (100 : Int32)) C.1 C.2.1 dX10_collide_11 (by decide) ?_
    refine lv_irem C.1 C.2.1 dX10_collide_13 (by decide) ?_
    refine lv_iload_n C.1 C.2.1 dX10_collide_14 rfl (lv_at hl 2 rfl) ?_
    refine lv_bipush (v := (100 : Int32)) C.1 C.2.1 dX10_collide_15 (by decide) ?_
    refine lv_idiv C.1 C.2.1 dX10_collide_17 (by decide) ?_
    refine lv_iload_n C.1 C.2.1 dX10_collide_18 rfl (lv_at hl 2 rfl) ?_
    refine lv_bipush (v := (100 : Int32)) C.1 C.2.1 dX10_collide_19 (by decide) ?_
    refine lv_irem C.1 C.2.1 dX10_collide_21 (by decide) ?_
    obtain ⟨r22, hc22, hf⟩ := bd_some hf
    refine callRV (As := [_, _, _, _]) C hK hP wv_X10_222 hl (km_common l D cA ad _ F _ _ _ _ r22 hc22) (rcM hK hP) rfl rfl rfl (Nat.le_of_ble_eq_true rfl) ⟨Nat.le_refl _, Nat.le_refl _⟩ dX10_collide_22 ?_
    refine lv_if_le (tgt := 32) C.1 C.2.1 dX10_collide_25 (by decide) (fun c25 => ?_) (fun c25 => ?_)
    · have hf := br_p c25 hf
      exact hB32 ls (lv_sub hl [0] rfl) hf
    · have hf := br_n c25 hf
      refine lv_iconst (v := (1 : Int32)) C.1 C.2.1 dX10_collide_28 (by decide) ?_
      refine lv_goto (tgt := 33) C.1 C.2.1 dX10_collide_29 (by decide) ?_
      exact hB33 ls _ (lv_sub hl [0] rfl) hf
def fm_lays__L258 (F : Nat) (k29 : MS → Int32 → Int32 → Option (Int32 × MS)) (σ : MS) (x1 : Int32) (x2 : Int32) : Option (Int32 × MS) :=
  k29 σ x1 x2
def fm_lays__L257 (F : Nat) (k29 : MS → Int32 → Int32 → Option (Int32 × MS)) (σ : MS) (x2 : Int32) (s0 : Int32) : Option (Int32 × MS) :=
  fm_lays__L258 F k29 σ s0 x2
def fm_lays__L225 (F : Nat) (k29 : MS → Int32 → Int32 → Option (Int32 × MS)) (k135 : MS → Int32 → Int32 → Int32 → Int32 → Int32 → Option (Int32 × MS)) (σ : MS) (x1 : Int32) (x2 : Int32) (x3 : Int32) (x5 : Int32) (s0 : Int32) : Option (Int32 × MS) :=
  lt (x5 + (1 : Int32)) (fun x5_227 => k135 σ x1 x2 x3 s0 x5_227)
def fm_lays__L223 (F : Nat) (k29 : MS → Int32 → Int32 → Option (Int32 × MS)) (k135 : MS → Int32 → Int32 → Int32 → Int32 → Int32 → Option (Int32 × MS)) (σ : MS) (x1 : Int32) (x2 : Int32) (x3 : Int32) (x4 : Int32) (x5 : Int32) : Option (Int32 × MS) :=
  fm_lays__L225 F k29 k135 σ x1 x2 x3 x5 x4
def fm_lays__L192 (F : Nat) (k29 : MS → Int32 → Int32 → Option (Int32 × MS)) (k135 : MS → Int32 → Int32 → Int32 → Int32 → Int32 → Option (Int32 × MS)) (σ : MS) (x1 : Int32) (x2 : Int32) (x3 : Int32) (x4 : Int32) (x5 : Int32) (s0 : Int32) : Option (Int32 × MS) :=
  if s0 = 0 then (fm_lays__L223 F k29 k135 σ x1 x2 x3 x4 x5) else (gd (ix x5 800 = true) (if (ms_laneOf σ x5.toNatClampNeg) < x4 then (fm_lays__L223 F k29 k135 σ x1 x2 x3 x4 x5) else (gd (ix x5 800 = true) (fm_lays__L225 F k29 k135 σ x1 x2 x3 x5 ((ms_laneOf σ x5.toNatClampNeg) + (1 : Int32))))))
def fm_lays__L191 (F : Nat) (k29 : MS → Int32 → Int32 → Option (Int32 × MS)) (k135 : MS → Int32 → Int32 → Int32 → Int32 → Int32 → Option (Int32 × MS)) (σ : MS) (x1 : Int32) (x2 : Int32) (x3 : Int32) (x4 : Int32) (x5 : Int32) : Option (Int32 × MS) :=
  fm_lays__L192 F k29 k135 σ x1 x2 x3 x4 x5 (0 : Int32)
def fm_lays__L135_c (F : Nat) (k29 : MS → Int32 → Int32 → Option (Int32 × MS)) (k135 : MS → Int32 → Int32 → Int32 → Int32 → Int32 → Option (Int32 × MS)) (σ : MS) (x1 : Int32) (x2 : Int32) (x3 : Int32) (x4 : Int32) (x5 : Int32) : Option (Int32 × MS) :=
  if (ms_inners σ) ≤ x5 then (gd (ix x3 800 = true) (lt (st_laneOf σ x3 x4) (fun σ240 => if (x4 + (1 : Int32)) ≤ x1 then (fm_lays__L257 F k29 σ240 x2 x1) else (fm_lays__L257 F k29 σ240 x2 (x4 + (1 : Int32)))))) else (gd (ix x5 800 = true) (if (ms_isIn σ x5.toNatClampNeg) = 0 then (fm_lays__L191 F k29 k135 σ x1 x2 x3 x4 x5) else (gd (ix x5 800 = true) (if (ms_laneOf σ x5.toNatClampNeg) = (-1000 : Int32) then (fm_lays__L191 F k29 k135 σ x1 x2 x3 x4 x5) else (gd (ix x5 800 = true) (gd (ix x3 800 = true) (bd (fm_collide F σ (ms_inner σ x5.toNatClampNeg) (ms_inner σ x3.toNatClampNeg)) (fun r181 => if r181 = 0 then (fm_lays__L191 F k29 k135 σ x1 x2 x3 x4 x5) else (fm_lays__L192 F k29 k135 σ x1 x2 x3 x4 x5 (1 : Int32))))))))))
def fm_lays__L135 (F : Nat) (k29 : MS → Int32 → Int32 → Option (Int32 × MS)) (n : Nat) (σ : MS) (x1 : Int32) (x2 : Int32) (x3 : Int32) (x4 : Int32) (x5 : Int32) : Option (Int32 × MS) := lpN (fun (k : MS × Int32 × Int32 × Int32 × Int32 × Int32 → Option (Int32 × MS)) a => fm_lays__L135_c F k29 (fun σ x1 x2 x3 x4 x5 => k (σ, x1, x2, x3, x4, x5)) a.1 a.2.1 a.2.2.1 a.2.2.2.1 a.2.2.2.2.1 a.2.2.2.2.2) n (σ, x1, x2, x3, x4, x5)
def fm_lays__L124 (F : Nat) (k29 : MS → Int32 → Int32 → Option (Int32 × MS)) (σ : MS) (x1 : Int32) (x3 : Int32) (s0 : Int32) : Option (Int32 × MS) :=
  if s0 = 0 then (fm_lays__L258 F k29 σ x1 s0) else (fm_lays__L135 F k29 F σ x1 s0 x3 (0 : Int32) (0 : Int32))
def fm_lays__L106 (F : Nat) (k29 : MS → Int32 → Int32 → Option (Int32 × MS)) (k40 : MS → Int32 → Int32 → Int32 → Option (Int32 × MS)) (σ : MS) (x1 : Int32) (x3 : Int32) (x4 : Int32) : Option (Int32 × MS) :=
  lt (x4 + (1 : Int32)) (fun x4_106 => k40 σ x1 x3 x4_106)
def fm_lays__L103 (F : Nat) (k29 : MS → Int32 → Int32 → Option (Int32 × MS)) (k40 : MS → Int32 → Int32 → Int32 → Option (Int32 × MS)) (σ : MS) (x1 : Int32) (x4 : Int32) : Option (Int32 × MS) :=
  fm_lays__L106 F k29 k40 σ x1 x4 x4
def fm_lays__L40_c (F : Nat) (k29 : MS → Int32 → Int32 → Option (Int32 × MS)) (k40 : MS → Int32 → Int32 → Int32 → Option (Int32 × MS)) (σ : MS) (x1 : Int32) (x3 : Int32) (x4 : Int32) : Option (Int32 × MS) :=
  if (ms_inners σ) ≤ x4 then (if x3 = (-1000 : Int32) then (fm_lays__L124 F k29 σ x1 x3 (0 : Int32)) else (fm_lays__L124 F k29 σ x1 x3 (1 : Int32))) else (gd (ix x4 800 = true) (if (ms_isIn σ x4.toNatClampNeg) = 0 then (fm_lays__L106 F k29 k40 σ x1 x3 x4) else (gd (ix x4 800 = true) (if (ms_laneOf σ x4.toNatClampNeg) = (-1000 : Int32) then (if x3 = (-1000 : Int32) then (fm_lays__L103 F k29 k40 σ x1 x4) else (gd (ix x4 800 = true) (bd (fm_pullOf F σ (ms_inner σ x4.toNatClampNeg)) (fun r87 => gd (ix x3 800 = true) (bd (fm_pullOf F σ (ms_inner σ x3.toNatClampNeg)) (fun r97 => if r97 ≤ r87 then (fm_lays__L106 F k29 k40 σ x1 x3 x4) else (fm_lays__L103 F k29 k40 σ x1 x4))))))) else (fm_lays__L106 F k29 k40 σ x1 x3 x4)))))
def fm_lays__L40 (F : Nat) (k29 : MS → Int32 → Int32 → Option (Int32 × MS)) (n : Nat) (σ : MS) (x1 : Int32) (x3 : Int32) (x4 : Int32) : Option (Int32 × MS) := lpN (fun (k : MS × Int32 × Int32 × Int32 → Option (Int32 × MS)) a => fm_lays__L40_c F k29 (fun σ x1 x3 x4 => k (σ, x1, x3, x4)) a.1 a.2.1 a.2.2.1 a.2.2.2) n (σ, x1, x3, x4)
def fm_lays__L29_c (F : Nat) (k29 : MS → Int32 → Int32 → Option (Int32 × MS)) (σ : MS) (x1 : Int32) (x2 : Int32) : Option (Int32 × MS) :=
  if x2 = 0 then (some (x1, σ)) else (fm_lays__L40 F k29 F σ x1 (-1000 : Int32) (0 : Int32))
def fm_lays__L29 (F : Nat) (n : Nat) (σ : MS) (x1 : Int32) (x2 : Int32) : Option (Int32 × MS) := lpN (fun (k : MS × Int32 × Int32 → Option (Int32 × MS)) a => fm_lays__L29_c F (fun σ x1 x2 => k (σ, x1, x2)) a.1 a.2.1 a.2.2) n (σ, x1, x2)
def fm_lays__L4_c (F : Nat) (k4 : MS → Int32 → Int32 → Option (Int32 × MS)) (σ : MS) (x1 : Int32) (x2 : Int32) : Option (Int32 × MS) :=
  if (ms_inners σ) ≤ x2 then (fm_lays__L29 F F σ x1 (1 : Int32)) else (gd (ix x2 800 = true) (lt (st_laneOf σ x2 (-1000 : Int32)) (fun σ20 => lt (x2 + (1 : Int32)) (fun x2_21 => k4 σ20 x1 x2_21))))
def fm_lays__L4 (F : Nat) (n : Nat) (σ : MS) (x1 : Int32) (x2 : Int32) : Option (Int32 × MS) := lpN (fun (k : MS × Int32 × Int32 → Option (Int32 × MS)) a => fm_lays__L4_c F (fun σ x1 x2 => k (σ, x1, x2)) a.1 a.2.1 a.2.2) n (σ, x1, x2)
def fm_lays_ (F : Nat) (σ : MS) : Option (Int32 × MS) :=
  fm_lays__L4 F F σ (0 : Int32) (0 : Int32)
set_option maxHeartbeats 4000000 in
set_option maxRecDepth 100000 in
theorem km_lays_ (l : Launch) (D : va_G) (cA : Nat → ClassId) (ad : Nat → Nat) (σ0 : MS) (F : Nat)  (r : Int32) (σr : MS) (hf : fm_lays_ F σ0  = some (r, σr)) : KW l D (tyG cA) yX10_lays_ cX10_lays_ 7 (some .int) (rmk 6 137) (wM cA ad σ0) [.ref (ad 0)] (some (.int r)) (wM cA ad σr) := by
  refine KW.of (by decide) (Nat.le_of_ble_eq_true rfl) ?_
  intro p e s m below meth c A hAe hA C hr hlk hK hP hD hS ls hl
  have hl : lv_has ls 7 [(0, .ref (ad 0))] := hl
  have hB29 : ∀ (n29 : Nat) (H : Heap) (locs : List Loc) (σ : MS) (ls : Array Slot) (x1 : Int32) (x2 : Int32), va_P D vwCl (wM cA ad σ) H → va_D A (wM cA ad σ) → va_S A s.heap H locs → lv_has ls 7 [(0, .ref (ad 0)), (1, .int x1), (2, .int x2)] → fm_lays__L29 F n29 σ x1 x2 = some (r, σr) → WQ p l e 6 137 s m [.ref (ad 0)] below meth c (some (.int r)) D (tyG cA) (wM cA ad σ0) (wM cA ad σr) A H locs (F0 m 29 ls []) := by
    intro n29
    induction n29 with
    | zero =>
      intro H locs σ ls x1 x2 hP hD hS hl hf
      cases (show (none : Option _) = _ from hf)
    | succ n29 ih29 =>
      have hB258 : ∀ (H : Heap) (locs : List Loc) (σ : MS) (ls : Array Slot) (x1 : Int32) (x2 : Int32), va_P D vwCl (wM cA ad σ) H → va_D A (wM cA ad σ) → va_S A s.heap H locs → lv_has ls 7 [(0, .ref (ad 0)), (1, .int x1), (2, .int x2)] → fm_lays__L258 F (fm_lays__L29 F n29) σ x1 x2 = some (r, σr) → WQ p l e 6 137 s m [.ref (ad 0)] below meth c (some (.int r)) D (tyG cA) (wM cA ad σ0) (wM cA ad σr) A H locs (F0 m 258 ls []) := by
        intro H locs σ ls x1 x2 hP hD hS hl hf
        unfold fm_lays__L258 at hf
        refine lv_goto (tgt := 29) C.1 C.2.1 dX10_lays__258 (by decide) ?_
        exact ih29 _ _ _ ls _ _ hP hD hS (lv_sub hl [0, 1, 2] rfl) hf
      have hB257 : ∀ (H : Heap) (locs : List Loc) (σ : MS) (ls : Array Slot) (x2 : Int32) (s0 : Int32), va_P D vwCl (wM cA ad σ) H → va_D A (wM cA ad σ) → va_S A s.heap H locs → lv_has ls 7 [(0, .ref (ad 0)), (2, .int x2)] → fm_lays__L257 F (fm_lays__L29 F n29) σ x2 s0 = some (r, σr) → WQ p l e 6 137 s m [.ref (ad 0)] below meth c (some (.int r)) D (tyG cA) (wM cA ad σ0) (wM cA ad σr) A H locs (F0 m 257 ls [.int s0]) := by
        intro H locs σ ls x2 s0 hP hD hS hl hf
        unfold fm_lays__L257 at hf
        refine lv_istore_n (lv' := [(1, .int s0), (0, .ref (ad 0)), (2, .int x2)]) C.1 C.2.1 dX10_lays__257 rfl hl (by decide) rfl (fun ls hl => ?_)
        exact hB258 _ _ _ ls _ _ hP hD hS (lv_sub hl [1, 0, 2] rfl) hf
      have hB135 : ∀ (n135 : Nat) (H : Heap) (locs : List Loc) (σ : MS) (ls : Array Slot) (x1 : Int32) (x2 : Int32) (x3 : Int32) (x4 : Int32) (x5 : Int32), va_P D vwCl (wM cA ad σ) H → va_D A (wM cA ad σ) → va_S A s.heap H locs → lv_has ls 7 [(0, .ref (ad 0)), (1, .int x1), (2, .int x2), (3, .int x3), (4, .int x4), (5, .int x5)] → fm_lays__L135 F (fm_lays__L29 F n29) n135 σ x1 x2 x3 x4 x5 = some (r, σr) → WQ p l e 6 137 s m [.ref (ad 0)] below meth c (some (.int r)) D (tyG cA) (wM cA ad σ0) (wM cA ad σr) A H locs (F0 m 135 ls []) := by
        intro n135
        induction n135 with
        | zero =>
          intro H locs σ ls x1 x2 x3 x4 x5 hP hD hS hl hf
          cases (show (none : Option _) = _ from hf)
        | succ n135 ih135 =>
          have hB225 : ∀ (H : Heap) (locs : List Loc) (σ : MS) (ls : Array Slot) (x1 : Int32) (x2 : Int32) (x3 : Int32) (x5 : Int32) (s0 : Int32), va_P D vwCl (wM cA ad σ) H → va_D A (wM cA ad σ) → va_S A s.heap H locs → lv_has ls 7 [(0, .ref (ad 0)), (1, .int x1), (2, .int x2), (3, .int x3), (5, .int x5)] → fm_lays__L225 F (fm_lays__L29 F n29) (fm_lays__L135 F (fm_lays__L29 F n29) n135) σ x1 x2 x3 x5 s0 = some (r, σr) → WQ p l e 6 137 s m [.ref (ad 0)] below meth c (some (.int r)) D (tyG cA) (wM cA ad σ0) (wM cA ad σr) A H locs (F0 m 225 ls [.int s0]) := by
            intro H locs σ ls x1 x2 x3 x5 s0 hP hD hS hl hf
            unfold fm_lays__L225 at hf
            refine lv_istore (lv' := [(4, .int s0), (0, .ref (ad 0)), (1, .int x1), (2, .int x2), (3, .int x3), (5, .int x5)]) C.1 C.2.1 dX10_lays__225 hl (by decide) rfl (fun ls hl => ?_)
            obtain ⟨x5_227, ex5_227, hf⟩ := lt_some hf
            refine lv_iinc (v := x5_227) (lv' := [(5, .int x5_227), (4, .int s0), (0, .ref (ad 0)), (1, .int x1), (2, .int x2), (3, .int x3)]) C.1 C.2.1 dX10_lays__227 hl (k := 5) rfl (by rw [ex5_227]; rfl) (by decide) rfl (fun ls hl => ?_)
            refine lv_goto (tgt := 135) C.1 C.2.1 dX10_lays__230 (by decide) ?_
            exact ih135 _ _ _ ls _ _ _ _ _ hP hD hS (lv_sub hl [2, 3, 4, 5, 1, 0] rfl) hf
          have hB223 : ∀ (H : Heap) (locs : List Loc) (σ : MS) (ls : Array Slot) (x1 : Int32) (x2 : Int32) (x3 : Int32) (x4 : Int32) (x5 : Int32), va_P D vwCl (wM cA ad σ) H → va_D A (wM cA ad σ) → va_S A s.heap H locs → lv_has ls 7 [(0, .ref (ad 0)), (1, .int x1), (2, .int x2), (3, .int x3), (4, .int x4), (5, .int x5)] → fm_lays__L223 F (fm_lays__L29 F n29) (fm_lays__L135 F (fm_lays__L29 F n29) n135) σ x1 x2 x3 x4 x5 = some (r, σr) → WQ p l e 6 137 s m [.ref (ad 0)] below meth c (some (.int r)) D (tyG cA) (wM cA ad σ0) (wM cA ad σr) A H locs (F0 m 223 ls []) := by
            intro H locs σ ls x1 x2 x3 x4 x5 hP hD hS hl hf
            unfold fm_lays__L223 at hf
            refine lv_iload C.1 C.2.1 dX10_lays__223 (lv_at hl 4 rfl) ?_
            exact hB225 _ _ _ ls _ _ _ _ _ hP hD hS (lv_sub hl [0, 1, 2, 3, 5] rfl) hf
          have hB192 : ∀ (H : Heap) (locs : List Loc) (σ : MS) (ls : Array Slot) (x1 : Int32) (x2 : Int32) (x3 : Int32) (x4 : Int32) (x5 : Int32) (s0 : Int32), va_P D vwCl (wM cA ad σ) H → va_D A (wM cA ad σ) → va_S A s.heap H locs → lv_has ls 7 [(0, .ref (ad 0)), (1, .int x1), (2, .int x2), (3, .int x3), (4, .int x4), (5, .int x5)] → fm_lays__L192 F (fm_lays__L29 F n29) (fm_lays__L135 F (fm_lays__L29 F n29) n135) σ x1 x2 x3 x4 x5 s0 = some (r, σr) → WQ p l e 6 137 s m [.ref (ad 0)] below meth c (some (.int r)) D (tyG cA) (wM cA ad σ0) (wM cA ad σr) A H locs (F0 m 192 ls [.int s0]) := by
            intro H locs σ ls x1 x2 x3 x4 x5 s0 hP hD hS hl hf
            unfold fm_lays__L192 at hf
            refine lv_istore (lv' := [(6, .int s0), (0, .ref (ad 0)), (1, .int x1), (2, .int x2), (3, .int x3), (4, .int x4), (5, .int x5)]) C.1 C.2.1 dX10_lays__192 hl (by decide) rfl (fun ls hl => ?_)
            refine lv_iload C.1 C.2.1 dX10_lays__194 (lv_at hl 0 rfl) ?_
            refine lv_if_eq (tgt := 223) C.1 C.2.1 dX10_lays__196 (by decide) (fun c196 => ?_) (fun c196 => ?_)
            · have hf := br_p c196 hf
              exact hB223 _ _ _ ls _ _ _ _ _ hP hD hS (lv_sub hl [1, 2, 3, 4, 5, 6] rfl) hf
            · have hf := br_n c196 hf
              refine lv_aload_n C.1 C.2.1 dX10_lays__199 rfl (lv_at hl 1 rfl) ?_
              refine gm_laneOf C hK hP dX10_lays__200 ?_
              refine lv_iload C.1 C.2.1 dX10_lays__203 (lv_at hl 6 rfl) ?_
              obtain ⟨hi205, hf⟩ := gd_some hf
              refine lm_laneOf C hK hP hi205 dX10_lays__205 ?_
              refine lv_iload C.1 C.2.1 dX10_lays__206 (lv_at hl 5 rfl) ?_
              refine lv_icmp_lt (tgt := 223) C.1 C.2.1 dX10_lays__208 (by decide) (fun c208 => ?_) (fun c208 => ?_)
              · have hf := br_p c208 hf
                exact hB223 _ _ _ ls _ _ _ _ _ hP hD hS (lv_sub hl [1, 2, 3, 4, 5, 6] rfl) hf
              · have hf := br_n c208 hf
                refine lv_aload_n C.1 C.2.1 dX10_lays__211 rfl (lv_at hl 1 rfl) ?_
                refine gm_laneOf C hK hP dX10_lays__212 ?_
                refine lv_iload C.1 C.2.1 dX10_lays__215 (lv_at hl 6 rfl) ?_
                obtain ⟨hi217, hf⟩ := gd_some hf
                refine lm_laneOf C hK hP hi217 dX10_lays__217 ?_
                refine lv_iconst (v := (1 : Int32)) C.1 C.2.1 dX10_lays__218 (by decide) ?_
                refine lv_iadd C.1 C.2.1 dX10_lays__219 ?_
                refine lv_goto (tgt := 225) C.1 C.2.1 dX10_lays__220 (by decide) ?_
                exact hB225 _ _ _ ls _ _ _ _ _ hP hD hS (lv_sub hl [1, 2, 3, 4, 6] rfl) hf
          have hB191 : ∀ (H : Heap) (locs : List Loc) (σ : MS) (ls : Array Slot) (x1 : Int32) (x2 : Int32) (x3 : Int32) (x4 : Int32) (x5 : Int32), va_P D vwCl (wM cA ad σ) H → va_D A (wM cA ad σ) → va_S A s.heap H locs → lv_has ls 7 [(0, .ref (ad 0)), (1, .int x1), (2, .int x2), (3, .int x3), (4, .int x4), (5, .int x5)] → fm_lays__L191 F (fm_lays__L29 F n29) (fm_lays__L135 F (fm_lays__L29 F n29) n135) σ x1 x2 x3 x4 x5 = some (r, σr) → WQ p l e 6 137 s m [.ref (ad 0)] below meth c (some (.int r)) D (tyG cA) (wM cA ad σ0) (wM cA ad σr) A H locs (F0 m 191 ls []) := by
            intro H locs σ ls x1 x2 x3 x4 x5 hP hD hS hl hf
            unfold fm_lays__L191 at hf
            refine lv_iconst (v := (0 : Int32)) C.1 C.2.1 dX10_lays__191 (by decide) ?_
            exact hB192 _ _ _ ls _ _ _ _ _ _ hP hD hS (lv_sub hl [0, 1, 2, 3, 4, 5] rfl) hf
          intro H locs σ ls x1 x2 x3 x4 x5 hP hD hS hl hf
          have hf : fm_lays__L135_c F (fm_lays__L29 F n29) (fm_lays__L135 F (fm_lays__L29 F n29) n135) σ x1 x2 x3 x4 x5 = some (r, σr) := hf
          unfold fm_lays__L135_c at hf
          refine lv_iload C.1 C.2.1 dX10_lays__135 (lv_at hl 5 rfl) ?_
          refine lv_aload_n C.1 C.2.1 dX10_lays__137 rfl (lv_at hl 0 rfl) ?_
          refine gm_inners C hK hP dX10_lays__138 ?_
          refine lv_icmp_ge (tgt := 233) C.1 C.2.1 dX10_lays__141 (by decide) (fun c141 => ?_) (fun c141 => ?_)
          · have hf := br_p c141 hf
            refine lv_aload_n C.1 C.2.1 dX10_lays__233 rfl (lv_at hl 0 rfl) ?_
            refine gm_laneOf C hK hP dX10_lays__234 ?_
            refine lv_iload_n C.1 C.2.1 dX10_lays__237 rfl (lv_at hl 3 rfl) ?_
            refine lv_iload C.1 C.2.1 dX10_lays__238 (lv_at hl 4 rfl) ?_
            obtain ⟨hi240, hf⟩ := gd_some hf
            replace hf := lt_e hf
            refine sm_laneOf C hK hP hD hS hi240 dX10_lays__240 (fun H locs hP hD hS => ?_)
            refine lv_iload C.1 C.2.1 dX10_lays__241 (lv_at hl 4 rfl) ?_
            refine lv_iconst (v := (1 : Int32)) C.1 C.2.1 dX10_lays__243 (by decide) ?_
            refine lv_iadd C.1 C.2.1 dX10_lays__244 ?_
            refine lv_iload_n C.1 C.2.1 dX10_lays__245 rfl (lv_at hl 1 rfl) ?_
            refine lv_icmp_le (tgt := 256) C.1 C.2.1 dX10_lays__246 (by decide) (fun c246 => ?_) (fun c246 => ?_)
            · have hf := br_p c246 hf
              refine lv_iload_n C.1 C.2.1 dX10_lays__256 rfl (lv_at hl 1 rfl) ?_
              exact hB257 _ _ _ ls _ _ hP hD hS (lv_sub hl [0, 2] rfl) hf
            · have hf := br_n c246 hf
              refine lv_iload C.1 C.2.1 dX10_lays__249 (lv_at hl 4 rfl) ?_
              refine lv_iconst (v := (1 : Int32)) C.1 C.2.1 dX10_lays__251 (by decide) ?_
              refine lv_iadd C.1 C.2.1 dX10_lays__252 ?_
              refine lv_goto (tgt := 257) C.1 C.2.1 dX10_lays__253 (by decide) ?_
              exact hB257 _ _ _ ls _ _ hP hD hS (lv_sub hl [0, 2] rfl) hf
          · have hf := br_n c141 hf
            refine lv_aload_n C.1 C.2.1 dX10_lays__144 rfl (lv_at hl 0 rfl) ?_
            refine gm_isIn C hK hP dX10_lays__145 ?_
            refine lv_iload C.1 C.2.1 dX10_lays__148 (lv_at hl 5 rfl) ?_
            obtain ⟨hi150, hf⟩ := gd_some hf
            refine lm_isIn C hK hP hi150 dX10_lays__150 ?_
            refine lv_if_eq (tgt := 191) C.1 C.2.1 dX10_lays__151 (by decide) (fun c151 => ?_) (fun c151 => ?_)
            · have hf := br_p c151 hf
              exact hB191 _ _ _ ls _ _ _ _ _ hP hD hS (lv_sub hl [0, 1, 2, 3, 4, 5] rfl) hf
            · have hf := br_n c151 hf
              refine lv_aload_n C.1 C.2.1 dX10_lays__154 rfl (lv_at hl 0 rfl) ?_
              refine gm_laneOf C hK hP dX10_lays__155 ?_
              refine lv_iload C.1 C.2.1 dX10_lays__158 (lv_at hl 5 rfl) ?_
              obtain ⟨hi160, hf⟩ := gd_some hf
              refine lm_laneOf C hK hP hi160 dX10_lays__160 ?_
              refine lv_sipush (v := (-1000 : Int32)) C.1 C.2.1 dX10_lays__161 (by decide) ?_
              refine lv_icmp_eq (tgt := 191) C.1 C.2.1 dX10_lays__164 (by decide) (fun c164 => ?_) (fun c164 => ?_)
              · have hf := br_p c164 hf
                exact hB191 _ _ _ ls _ _ _ _ _ hP hD hS (lv_sub hl [0, 1, 2, 3, 4, 5] rfl) hf
              · have hf := br_n c164 hf
                refine lv_aload_n C.1 C.2.1 dX10_lays__167 rfl (lv_at hl 0 rfl) ?_
                refine lv_aload_n C.1 C.2.1 dX10_lays__168 rfl (lv_at hl 0 rfl) ?_
                refine gm_inner C hK hP dX10_lays__169 ?_
                refine lv_iload C.1 C.2.1 dX10_lays__172 (lv_at hl 5 rfl) ?_
                obtain ⟨hi174, hf⟩ := gd_some hf
                refine lm_inner C hK hP hi174 dX10_lays__174 ?_
                refine lv_aload_n C.1 C.2.1 dX10_lays__175 rfl (lv_at hl 0 rfl) ?_
                refine gm_inner C hK hP dX10_lays__176 ?_
                refine lv_iload_n C.1 C.2.1 dX10_lays__179 rfl (lv_at hl 3 rfl) ?_
                obtain ⟨hi180, hf⟩ := gd_some hf
                refine lm_inner C hK hP hi180 dX10_lays__180 ?_
                obtain ⟨r181, hc181, hf⟩ := bd_some hf
                refine callRV (As := [_, _]) C hK hP wv_X10_229 hl (km_collide l D cA ad _ F _ _ r181 hc181) (rcM hK hP) rfl rfl rfl (Nat.le_of_ble_eq_true rfl) ⟨Nat.le_refl _, Nat.le_refl _⟩ dX10_lays__181 ?_
                refine lv_if_eq (tgt := 191) C.1 C.2.1 dX10_lays__184 (by decide) (fun c184 => ?_) (fun c184 => ?_)
                · have hf := br_p c184 hf
                  exact hB191 _ _ _ ls _ _ _ _ _ hP hD hS (lv_sub hl [0, 1, 2, 3, 4, 5] rfl) hf
                · have hf := br_n c184 hf
                  refine lv_iconst (v := (1 : Int32)) C.1 C.2.1 dX10_lays__187 (by decide) ?_
                  refine lv_goto (tgt := 192) C.1 C.2.1 dX10_lays__188 (by decide) ?_
                  exact hB192 _ _ _ ls _ _ _ _ _ _ hP hD hS (lv_sub hl [0, 1, 2, 3, 4, 5] rfl) hf
      have hB124 : ∀ (H : Heap) (locs : List Loc) (σ : MS) (ls : Array Slot) (x1 : Int32) (x3 : Int32) (s0 : Int32), va_P D vwCl (wM cA ad σ) H → va_D A (wM cA ad σ) → va_S A s.heap H locs → lv_has ls 7 [(0, .ref (ad 0)), (1, .int x1), (3, .int x3)] → fm_lays__L124 F (fm_lays__L29 F n29) σ x1 x3 s0 = some (r, σr) → WQ p l e 6 137 s m [.ref (ad 0)] below meth c (some (.int r)) D (tyG cA) (wM cA ad σ0) (wM cA ad σr) A H locs (F0 m 124 ls [.int s0]) := by
        intro H locs σ ls x1 x3 s0 hP hD hS hl hf
        unfold fm_lays__L124 at hf
        refine lv_istore_n (lv' := [(2, .int s0), (0, .ref (ad 0)), (1, .int x1), (3, .int x3)]) C.1 C.2.1 dX10_lays__124 rfl hl (by decide) rfl (fun ls hl => ?_)
        refine lv_iload_n C.1 C.2.1 dX10_lays__125 rfl (lv_at hl 0 rfl) ?_
        refine lv_if_eq (tgt := 258) C.1 C.2.1 dX10_lays__126 (by decide) (fun c126 => ?_) (fun c126 => ?_)
        · have hf := br_p c126 hf
          exact hB258 _ _ _ ls _ _ hP hD hS (lv_sub hl [1, 2, 0] rfl) hf
        · have hf := br_n c126 hf
          refine lv_iconst (v := (0 : Int32)) C.1 C.2.1 dX10_lays__129 (by decide) ?_
          refine lv_istore (lv' := [(4, .int (0 : Int32)), (2, .int s0), (0, .ref (ad 0)), (1, .int x1), (3, .int x3)]) C.1 C.2.1 dX10_lays__130 hl (by decide) rfl (fun ls hl => ?_)
          refine lv_iconst (v := (0 : Int32)) C.1 C.2.1 dX10_lays__132 (by decide) ?_
          refine lv_istore (lv' := [(5, .int (0 : Int32)), (4, .int (0 : Int32)), (2, .int s0), (0, .ref (ad 0)), (1, .int x1), (3, .int x3)]) C.1 C.2.1 dX10_lays__133 hl (by decide) rfl (fun ls hl => ?_)
          exact hB135 F _ _ _ ls _ _ _ _ _ hP hD hS (lv_sub hl [3, 4, 2, 5, 1, 0] rfl) hf
      have hB40 : ∀ (n40 : Nat) (H : Heap) (locs : List Loc) (σ : MS) (ls : Array Slot) (x1 : Int32) (x3 : Int32) (x4 : Int32), va_P D vwCl (wM cA ad σ) H → va_D A (wM cA ad σ) → va_S A s.heap H locs → lv_has ls 7 [(0, .ref (ad 0)), (1, .int x1), (3, .int x3), (4, .int x4)] → fm_lays__L40 F (fm_lays__L29 F n29) n40 σ x1 x3 x4 = some (r, σr) → WQ p l e 6 137 s m [.ref (ad 0)] below meth c (some (.int r)) D (tyG cA) (wM cA ad σ0) (wM cA ad σr) A H locs (F0 m 40 ls []) := by
        intro n40
        induction n40 with
        | zero =>
          intro H locs σ ls x1 x3 x4 hP hD hS hl hf
          cases (show (none : Option _) = _ from hf)
        | succ n40 ih40 =>
          have hB106 : ∀ (H : Heap) (locs : List Loc) (σ : MS) (ls : Array Slot) (x1 : Int32) (x3 : Int32) (x4 : Int32), va_P D vwCl (wM cA ad σ) H → va_D A (wM cA ad σ) → va_S A s.heap H locs → lv_has ls 7 [(0, .ref (ad 0)), (1, .int x1), (3, .int x3), (4, .int x4)] → fm_lays__L106 F (fm_lays__L29 F n29) (fm_lays__L40 F (fm_lays__L29 F n29) n40) σ x1 x3 x4 = some (r, σr) → WQ p l e 6 137 s m [.ref (ad 0)] below meth c (some (.int r)) D (tyG cA) (wM cA ad σ0) (wM cA ad σr) A H locs (F0 m 106 ls []) := by
            intro H locs σ ls x1 x3 x4 hP hD hS hl hf
            unfold fm_lays__L106 at hf
            obtain ⟨x4_106, ex4_106, hf⟩ := lt_some hf
            refine lv_iinc (v := x4_106) (lv' := [(4, .int x4_106), (0, .ref (ad 0)), (1, .int x1), (3, .int x3)]) C.1 C.2.1 dX10_lays__106 hl (k := 3) rfl (by rw [ex4_106]; rfl) (by decide) rfl (fun ls hl => ?_)
            refine lv_goto (tgt := 40) C.1 C.2.1 dX10_lays__109 (by decide) ?_
            exact ih40 _ _ _ ls _ _ _ hP hD hS (lv_sub hl [1, 2, 3, 0] rfl) hf
          have hB103 : ∀ (H : Heap) (locs : List Loc) (σ : MS) (ls : Array Slot) (x1 : Int32) (x4 : Int32), va_P D vwCl (wM cA ad σ) H → va_D A (wM cA ad σ) → va_S A s.heap H locs → lv_has ls 7 [(0, .ref (ad 0)), (1, .int x1), (4, .int x4)] → fm_lays__L103 F (fm_lays__L29 F n29) (fm_lays__L40 F (fm_lays__L29 F n29) n40) σ x1 x4 = some (r, σr) → WQ p l e 6 137 s m [.ref (ad 0)] below meth c (some (.int r)) D (tyG cA) (wM cA ad σ0) (wM cA ad σr) A H locs (F0 m 103 ls []) := by
            intro H locs σ ls x1 x4 hP hD hS hl hf
            unfold fm_lays__L103 at hf
            refine lv_iload C.1 C.2.1 dX10_lays__103 (lv_at hl 2 rfl) ?_
            refine lv_istore_n (lv' := [(3, .int x4), (0, .ref (ad 0)), (1, .int x1), (4, .int x4)]) C.1 C.2.1 dX10_lays__105 rfl hl (by decide) rfl (fun ls hl => ?_)
            exact hB106 _ _ _ ls _ _ _ hP hD hS (lv_sub hl [1, 2, 0, 3] rfl) hf
          intro H locs σ ls x1 x3 x4 hP hD hS hl hf
          have hf : fm_lays__L40_c F (fm_lays__L29 F n29) (fm_lays__L40 F (fm_lays__L29 F n29) n40) σ x1 x3 x4 = some (r, σr) := hf
          unfold fm_lays__L40_c at hf
          refine lv_iload C.1 C.2.1 dX10_lays__40 (lv_at hl 3 rfl) ?_
          refine lv_aload_n C.1 C.2.1 dX10_lays__42 rfl (lv_at hl 0 rfl) ?_
          refine gm_inners C hK hP dX10_lays__43 ?_
          refine lv_icmp_ge (tgt := 112) C.1 C.2.1 dX10_lays__46 (by decide) (fun c46 => ?_) (fun c46 => ?_)
          · have hf := br_p c46 hf
            refine lv_iload_n C.1 C.2.1 dX10_lays__112 rfl (lv_at hl 2 rfl) ?_
            refine lv_sipush (v := (-1000 : Int32)) C.1 C.2.1 dX10_lays__113 (by decide) ?_
            refine lv_icmp_eq (tgt := 123) C.1 C.2.1 dX10_lays__116 (by decide) (fun c116 => ?_) (fun c116 => ?_)
            · have hf := br_p c116 hf
              refine lv_iconst (v := (0 : Int32)) C.1 C.2.1 dX10_lays__123 (by decide) ?_
              exact hB124 _ _ _ ls _ _ _ hP hD hS (lv_sub hl [0, 1, 2] rfl) hf
            · have hf := br_n c116 hf
              refine lv_iconst (v := (1 : Int32)) C.1 C.2.1 dX10_lays__119 (by decide) ?_
              refine lv_goto (tgt := 124) C.1 C.2.1 dX10_lays__120 (by decide) ?_
              exact hB124 _ _ _ ls _ _ _ hP hD hS (lv_sub hl [0, 1, 2] rfl) hf
          · have hf := br_n c46 hf
            refine lv_aload_n C.1 C.2.1 dX10_lays__49 rfl (lv_at hl 0 rfl) ?_
            refine gm_isIn C hK hP dX10_lays__50 ?_
            refine lv_iload C.1 C.2.1 dX10_lays__53 (lv_at hl 3 rfl) ?_
            obtain ⟨hi55, hf⟩ := gd_some hf
            refine lm_isIn C hK hP hi55 dX10_lays__55 ?_
            refine lv_if_eq (tgt := 106) C.1 C.2.1 dX10_lays__56 (by decide) (fun c56 => ?_) (fun c56 => ?_)
            · have hf := br_p c56 hf
              exact hB106 _ _ _ ls _ _ _ hP hD hS (lv_sub hl [0, 1, 2, 3] rfl) hf
            · have hf := br_n c56 hf
              refine lv_aload_n C.1 C.2.1 dX10_lays__59 rfl (lv_at hl 0 rfl) ?_
              refine gm_laneOf C hK hP dX10_lays__60 ?_
              refine lv_iload C.1 C.2.1 dX10_lays__63 (lv_at hl 3 rfl) ?_
              obtain ⟨hi65, hf⟩ := gd_some hf
              refine lm_laneOf C hK hP hi65 dX10_lays__65 ?_
              refine lv_sipush (v := (-1000 : Int32)) C.1 C.2.1 dX10_lays__66 (by decide) ?_
              refine lv_icmp_ne (tgt := 106) C.1 C.2.1 dX10_lays__69 (by decide) (fun c69 => ?_) (fun c69 => ?_)
              · have hf := br_n c69 hf
                exact hB106 _ _ _ ls _ _ _ hP hD hS (lv_sub hl [0, 1, 2, 3] rfl) hf
              · have hf := br_p c69 hf
                refine lv_iload_n C.1 C.2.1 dX10_lays__72 rfl (lv_at hl 2 rfl) ?_
                refine lv_sipush (v := (-1000 : Int32)) C.1 C.2.1 dX10_lays__73 (by decide) ?_
                refine lv_icmp_eq (tgt := 103) C.1 C.2.1 dX10_lays__76 (by decide) (fun c76 => ?_) (fun c76 => ?_)
                · have hf := br_p c76 hf
                  exact hB103 _ _ _ ls _ _ hP hD hS (lv_sub hl [0, 1, 3] rfl) hf
                · have hf := br_n c76 hf
                  refine lv_aload_n C.1 C.2.1 dX10_lays__79 rfl (lv_at hl 0 rfl) ?_
                  refine lv_aload_n C.1 C.2.1 dX10_lays__80 rfl (lv_at hl 0 rfl) ?_
                  refine gm_inner C hK hP dX10_lays__81 ?_
                  refine lv_iload C.1 C.2.1 dX10_lays__84 (lv_at hl 3 rfl) ?_
                  obtain ⟨hi86, hf⟩ := gd_some hf
                  refine lm_inner C hK hP hi86 dX10_lays__86 ?_
                  obtain ⟨r87, hc87, hf⟩ := bd_some hf
                  refine callRV (As := [_]) C hK hP wv_X10_235 hl (km_pullOf l D cA ad _ F _ r87 hc87) (rcM hK hP) rfl rfl rfl (Nat.le_of_ble_eq_true rfl) ⟨Nat.le_refl _, Nat.le_refl _⟩ dX10_lays__87 ?_
                  refine lv_aload_n C.1 C.2.1 dX10_lays__90 rfl (lv_at hl 0 rfl) ?_
                  refine lv_aload_n C.1 C.2.1 dX10_lays__91 rfl (lv_at hl 0 rfl) ?_
                  refine gm_inner C hK hP dX10_lays__92 ?_
                  refine lv_iload_n C.1 C.2.1 dX10_lays__95 rfl (lv_at hl 2 rfl) ?_
                  obtain ⟨hi96, hf⟩ := gd_some hf
                  refine lm_inner C hK hP hi96 dX10_lays__96 ?_
                  obtain ⟨r97, hc97, hf⟩ := bd_some hf
                  refine callRV (As := [_]) C hK hP wv_X10_235 hl (km_pullOf l D cA ad _ F _ r97 hc97) (rcM hK hP) rfl rfl rfl (Nat.le_of_ble_eq_true rfl) ⟨Nat.le_refl _, Nat.le_refl _⟩ dX10_lays__97 ?_
                  refine lv_icmp_ge (tgt := 106) C.1 C.2.1 dX10_lays__100 (by decide) (fun c100 => ?_) (fun c100 => ?_)
                  · have hf := br_p c100 hf
                    exact hB106 _ _ _ ls _ _ _ hP hD hS (lv_sub hl [0, 1, 2, 3] rfl) hf
                  · have hf := br_n c100 hf
                    exact hB103 _ _ _ ls _ _ hP hD hS (lv_sub hl [0, 1, 3] rfl) hf
      intro H locs σ ls x1 x2 hP hD hS hl hf
      have hf : fm_lays__L29_c F (fm_lays__L29 F n29) σ x1 x2 = some (r, σr) := hf
      unfold fm_lays__L29_c at hf
      refine lv_iload_n C.1 C.2.1 dX10_lays__29 rfl (lv_at hl 2 rfl) ?_
      refine lv_if_eq (tgt := 261) C.1 C.2.1 dX10_lays__30 (by decide) (fun c30 => ?_) (fun c30 => ?_)
      · have hf := br_p c30 hf
        refine lv_iload_n C.1 C.2.1 dX10_lays__261 rfl (lv_at hl 1 rfl) ?_
        obtain ⟨rfl, rfl⟩ := Prod.mk.inj (Option.some.inj hf)
        exact KW.iret C hr hlk hK hAe hP hD hS rfl dX10_lays__262
      · have hf := br_n c30 hf
        refine lv_sipush (v := (-1000 : Int32)) C.1 C.2.1 dX10_lays__33 (by decide) ?_
        refine lv_istore_n (lv' := [(3, .int (-1000 : Int32)), (0, .ref (ad 0)), (1, .int x1), (2, .int x2)]) C.1 C.2.1 dX10_lays__36 rfl hl (by decide) rfl (fun ls hl => ?_)
        refine lv_iconst (v := (0 : Int32)) C.1 C.2.1 dX10_lays__37 (by decide) ?_
        refine lv_istore (lv' := [(4, .int (0 : Int32)), (3, .int (-1000 : Int32)), (0, .ref (ad 0)), (1, .int x1), (2, .int x2)]) C.1 C.2.1 dX10_lays__38 hl (by decide) rfl (fun ls hl => ?_)
        exact hB40 F _ _ _ ls _ _ _ hP hD hS (lv_sub hl [2, 3, 1, 0] rfl) hf
  have hB4 : ∀ (n4 : Nat) (H : Heap) (locs : List Loc) (σ : MS) (ls : Array Slot) (x1 : Int32) (x2 : Int32), va_P D vwCl (wM cA ad σ) H → va_D A (wM cA ad σ) → va_S A s.heap H locs → lv_has ls 7 [(0, .ref (ad 0)), (1, .int x1), (2, .int x2)] → fm_lays__L4 F n4 σ x1 x2 = some (r, σr) → WQ p l e 6 137 s m [.ref (ad 0)] below meth c (some (.int r)) D (tyG cA) (wM cA ad σ0) (wM cA ad σr) A H locs (F0 m 4 ls []) := by
    intro n4
    induction n4 with
    | zero =>
      intro H locs σ ls x1 x2 hP hD hS hl hf
      cases (show (none : Option _) = _ from hf)
    | succ n4 ih4 =>
      intro H locs σ ls x1 x2 hP hD hS hl hf
      have hf : fm_lays__L4_c F (fm_lays__L4 F n4) σ x1 x2 = some (r, σr) := hf
      unfold fm_lays__L4_c at hf
      refine lv_iload_n C.1 C.2.1 dX10_lays__4 rfl (lv_at hl 2 rfl) ?_
      refine lv_aload_n C.1 C.2.1 dX10_lays__5 rfl (lv_at hl 0 rfl) ?_
      refine gm_inners C hK hP dX10_lays__6 ?_
      refine lv_icmp_ge (tgt := 27) C.1 C.2.1 dX10_lays__9 (by decide) (fun c9 => ?_) (fun c9 => ?_)
      · have hf := br_p c9 hf
        refine lv_iconst (v := (1 : Int32)) C.1 C.2.1 dX10_lays__27 (by decide) ?_
        refine lv_istore_n (lv' := [(2, .int (1 : Int32)), (0, .ref (ad 0)), (1, .int x1)]) C.1 C.2.1 dX10_lays__28 rfl hl (by decide) rfl (fun ls hl => ?_)
        exact hB29 F _ _ _ ls _ _ hP hD hS (lv_sub hl [1, 2, 0] rfl) hf
      · have hf := br_n c9 hf
        refine lv_aload_n C.1 C.2.1 dX10_lays__12 rfl (lv_at hl 0 rfl) ?_
        refine gm_laneOf C hK hP dX10_lays__13 ?_
        refine lv_iload_n C.1 C.2.1 dX10_lays__16 rfl (lv_at hl 2 rfl) ?_
        refine lv_sipush (v := (-1000 : Int32)) C.1 C.2.1 dX10_lays__17 (by decide) ?_
        obtain ⟨hi20, hf⟩ := gd_some hf
        replace hf := lt_e hf
        refine sm_laneOf C hK hP hD hS hi20 dX10_lays__20 (fun H locs hP hD hS => ?_)
        obtain ⟨x2_21, ex2_21, hf⟩ := lt_some hf
        refine lv_iinc (v := x2_21) (lv' := [(2, .int x2_21), (0, .ref (ad 0)), (1, .int x1)]) C.1 C.2.1 dX10_lays__21 hl (k := 2) rfl (by rw [ex2_21]; rfl) (by decide) rfl (fun ls hl => ?_)
        refine lv_goto (tgt := 4) C.1 C.2.1 dX10_lays__24 (by decide) ?_
        exact ih4 _ _ _ ls _ _ hP hD hS (lv_sub hl [1, 2, 0] rfl) hf
  unfold fm_lays_ at hf
  refine lv_iconst (v := (0 : Int32)) C.1 C.2.1 dX10_lays__0 (by decide) ?_
  refine lv_istore_n (lv' := [(1, .int (0 : Int32)), (0, .ref (ad 0))]) C.1 C.2.1 dX10_lays__1 rfl hl (by decide) rfl (fun ls hl => ?_)
  refine lv_iconst (v := (0 : Int32)) C.1 C.2.1 dX10_lays__2 (by decide) ?_
  refine lv_istore_n (lv' := [(2, .int (0 : Int32)), (1, .int (0 : Int32)), (0, .ref (ad 0))]) C.1 C.2.1 dX10_lays__3 rfl hl (by decide) rfl (fun ls hl => ?_)
  exact hB4 F _ _ _ ls _ _ hP hD hS (lv_sub hl [2, 1, 0] rfl) hf
def fm_bundles_L178 (F : Nat) (k96 : MS → Int32 → Option (Int32 × MS)) (k104 : MS → Int32 → Int32 → Option (Int32 × MS)) (σ : MS) (x2 : Int32) (x3 : Int32) : Option (Int32 × MS) :=
  lt (x3 + (1 : Int32)) (fun x3_178 => k104 σ x2 x3_178)
def fm_bundles_L172 (F : Nat) (k96 : MS → Int32 → Option (Int32 × MS)) (k104 : MS → Int32 → Int32 → Option (Int32 × MS)) (k115 : MS → Int32 → Int32 → Int32 → Option (Int32 × MS)) (σ : MS) (x2 : Int32) (x3 : Int32) (x4 : Int32) : Option (Int32 × MS) :=
  lt (x4 + (1 : Int32)) (fun x4_172 => k115 σ x2 x3 x4_172)
def fm_bundles_L115_c (F : Nat) (k96 : MS → Int32 → Option (Int32 × MS)) (k104 : MS → Int32 → Int32 → Option (Int32 × MS)) (k115 : MS → Int32 → Int32 → Int32 → Option (Int32 × MS)) (σ : MS) (x2 : Int32) (x3 : Int32) (x4 : Int32) : Option (Int32 × MS) :=
  if (ms_inners σ) ≤ x4 then (fm_bundles_L178 F k96 k104 σ x2 x3) else (gd (ix x3 800 = true) (if (ms_isIn σ x3.toNatClampNeg) = 0 then (gd (ix x4 800 = true) (if (ms_isIn σ x4.toNatClampNeg) = 0 then (fm_bundles_L172 F k96 k104 k115 σ x2 x3 x4) else (gd (ix x3 800 = true) (gd (ix x4 800 = true) (bd (fm_collide F σ (ms_inner σ x3.toNatClampNeg) (ms_inner σ x4.toNatClampNeg)) (fun r157 => if r157 = 0 then (fm_bundles_L172 F k96 k104 k115 σ x2 x3 x4) else (gd (ix x3 800 = true) (lt (st_isIn σ x3 (1 : Int32)) (fun σ169 => fm_bundles_L172 F k96 k104 k115 σ169 (1 : Int32) x3 x4))))))))) else (fm_bundles_L178 F k96 k104 σ x2 x3)))
def fm_bundles_L115 (F : Nat) (k96 : MS → Int32 → Option (Int32 × MS)) (k104 : MS → Int32 → Int32 → Option (Int32 × MS)) (n : Nat) (σ : MS) (x2 : Int32) (x3 : Int32) (x4 : Int32) : Option (Int32 × MS) := lpN (fun (k : MS × Int32 × Int32 × Int32 → Option (Int32 × MS)) a => fm_bundles_L115_c F k96 k104 (fun σ x2 x3 x4 => k (σ, x2, x3, x4)) a.1 a.2.1 a.2.2.1 a.2.2.2) n (σ, x2, x3, x4)
def fm_bundles_L104_c (F : Nat) (k96 : MS → Int32 → Option (Int32 × MS)) (k104 : MS → Int32 → Int32 → Option (Int32 × MS)) (σ : MS) (x2 : Int32) (x3 : Int32) : Option (Int32 × MS) :=
  if (ms_inners σ) ≤ x3 then (k96 σ x2) else (fm_bundles_L115 F k96 k104 F σ x2 x3 (0 : Int32))
def fm_bundles_L104 (F : Nat) (k96 : MS → Int32 → Option (Int32 × MS)) (n : Nat) (σ : MS) (x2 : Int32) (x3 : Int32) : Option (Int32 × MS) := lpN (fun (k : MS × Int32 × Int32 → Option (Int32 × MS)) a => fm_bundles_L104_c F k96 (fun σ x2 x3 => k (σ, x2, x3)) a.1 a.2.1 a.2.2) n (σ, x2, x3)
def fm_bundles_L96_c (F : Nat) (k96 : MS → Int32 → Option (Int32 × MS)) (σ : MS) (x2 : Int32) : Option (Int32 × MS) :=
  if x2 = 0 then (bd2 (fm_lays_ F σ) (fun r188 σ188 => some (r188, σ188))) else (fm_bundles_L104 F k96 F σ (0 : Int32) (0 : Int32))
def fm_bundles_L96 (F : Nat) (n : Nat) (σ : MS) (x2 : Int32) : Option (Int32 × MS) := lpN (fun (k : MS × Int32 → Option (Int32 × MS)) a => fm_bundles_L96_c F (fun σ x2 => k (σ, x2)) a.1 a.2) n (σ, x2)
def fm_bundles_L71 (F : Nat) (k7 : MS → Int32 → Int32 → Option (Int32 × MS)) (k19 : MS → Int32 → Int32 → Int32 → Option (Int32 × MS)) (σ : MS) (x1 : Int32) (x2 : Int32) (x3 : Int32) (s0 : Int32) (s1 : Int32) : Option (Int32 × MS) :=
  gd (ix s1 800 = true) (gd (s0 = 0 ∨ s0 = 1) (lt (st_isIn σ s1 s0) (fun σ71 => lt (ms_inners_s σ71 ((ms_inners σ71) + (1 : Int32))) (fun σ79 => lt (x3 + (1 : Int32)) (fun x3_82 => k19 σ79 x1 x2 x3_82)))))
def fm_bundles_L19_c (F : Nat) (k7 : MS → Int32 → Int32 → Option (Int32 × MS)) (k19 : MS → Int32 → Int32 → Int32 → Option (Int32 × MS)) (σ : MS) (x1 : Int32) (x2 : Int32) (x3 : Int32) : Option (Int32 × MS) :=
  bd (fm_segments F σ x2) (fun r22 => if (r22 - (1 : Int32)) ≤ x3 then (lt (x2 + (1 : Int32)) (fun x2_88 => k7 σ x1 x2_88)) else (gd (ix (ms_inners σ) 800 = true) (lt (st_inner σ (ms_inners σ) (((100 : Int32) * x2) + x3)) (fun σ44 => gd (ix (ms_inners σ44) 800 = true) (if (ms_inner σ44 (ms_inners σ44).toNatClampNeg) = x1 then (fm_bundles_L71 F k7 k19 σ44 x1 x2 x3 (1 : Int32) (ms_inners σ44)) else (fm_bundles_L71 F k7 k19 σ44 x1 x2 x3 (0 : Int32) (ms_inners σ44)))))))
def fm_bundles_L19 (F : Nat) (k7 : MS → Int32 → Int32 → Option (Int32 × MS)) (n : Nat) (σ : MS) (x1 : Int32) (x2 : Int32) (x3 : Int32) : Option (Int32 × MS) := lpN (fun (k : MS × Int32 × Int32 × Int32 → Option (Int32 × MS)) a => fm_bundles_L19_c F k7 (fun σ x1 x2 x3 => k (σ, x1, x2, x3)) a.1 a.2.1 a.2.2.1 a.2.2.2) n (σ, x1, x2, x3)
def fm_bundles_L7_c (F : Nat) (k7 : MS → Int32 → Int32 → Option (Int32 × MS)) (σ : MS) (x1 : Int32) (x2 : Int32) : Option (Int32 × MS) :=
  gd (ix (1 : Int32) 8625 = true) (if (ms_row σ (1 : Int32).toNatClampNeg) ≤ x2 then (fm_bundles_L96 F F σ (1 : Int32)) else (fm_bundles_L19 F k7 F σ x1 x2 (1 : Int32)))
def fm_bundles_L7 (F : Nat) (n : Nat) (σ : MS) (x1 : Int32) (x2 : Int32) : Option (Int32 × MS) := lpN (fun (k : MS × Int32 × Int32 → Option (Int32 × MS)) a => fm_bundles_L7_c F (fun σ x1 x2 => k (σ, x1, x2)) a.1 a.2.1 a.2.2) n (σ, x1, x2)
def fm_bundles (F : Nat) (σ : MS) (x1 : Int32) : Option (Int32 × MS) :=
  lt (ms_inners_s σ (0 : Int32)) (fun σ2 => fm_bundles_L7 F F σ2 x1 (0 : Int32))
set_option maxHeartbeats 4000000 in
set_option maxRecDepth 100000 in
theorem km_bundles (l : Launch) (D : va_G) (cA : Nat → ClassId) (ad : Nat → Nat) (σ0 : MS) (F : Nat) (a1 : Int32) (r : Int32) (σr : MS) (hf : fm_bundles F σ0 a1 = some (r, σr)) : KW l D (tyG cA) yX10_bundles cX10_bundles 5 (some .int) (rmk 7 163) (wM cA ad σ0) [.ref (ad 0), .int a1] (some (.int r)) (wM cA ad σr) := by
  refine KW.of (by decide) (Nat.le_of_ble_eq_true rfl) ?_
  intro p e s m below meth c A hAe hA C hr hlk hK hP hD hS ls hl
  have hl : lv_has ls 5 [(0, .ref (ad 0)), (1, .int a1)] := hl
  have hB96 : ∀ (n96 : Nat) (H : Heap) (locs : List Loc) (σ : MS) (ls : Array Slot) (x2 : Int32), va_P D vwCl (wM cA ad σ) H → va_D A (wM cA ad σ) → va_S A s.heap H locs → lv_has ls 5 [(0, .ref (ad 0)), (2, .int x2)] → fm_bundles_L96 F n96 σ x2 = some (r, σr) → WQ p l e 7 163 s m [.ref (ad 0), .int a1] below meth c (some (.int r)) D (tyG cA) (wM cA ad σ0) (wM cA ad σr) A H locs (F0 m 96 ls []) := by
    intro n96
    induction n96 with
    | zero =>
      intro H locs σ ls x2 hP hD hS hl hf
      cases (show (none : Option _) = _ from hf)
    | succ n96 ih96 =>
      have hB104 : ∀ (n104 : Nat) (H : Heap) (locs : List Loc) (σ : MS) (ls : Array Slot) (x2 : Int32) (x3 : Int32), va_P D vwCl (wM cA ad σ) H → va_D A (wM cA ad σ) → va_S A s.heap H locs → lv_has ls 5 [(0, .ref (ad 0)), (2, .int x2), (3, .int x3)] → fm_bundles_L104 F (fm_bundles_L96 F n96) n104 σ x2 x3 = some (r, σr) → WQ p l e 7 163 s m [.ref (ad 0), .int a1] below meth c (some (.int r)) D (tyG cA) (wM cA ad σ0) (wM cA ad σr) A H locs (F0 m 104 ls []) := by
        intro n104
        induction n104 with
        | zero =>
          intro H locs σ ls x2 x3 hP hD hS hl hf
          cases (show (none : Option _) = _ from hf)
        | succ n104 ih104 =>
          have hB178 : ∀ (H : Heap) (locs : List Loc) (σ : MS) (ls : Array Slot) (x2 : Int32) (x3 : Int32), va_P D vwCl (wM cA ad σ) H → va_D A (wM cA ad σ) → va_S A s.heap H locs → lv_has ls 5 [(0, .ref (ad 0)), (2, .int x2), (3, .int x3)] → fm_bundles_L178 F (fm_bundles_L96 F n96) (fm_bundles_L104 F (fm_bundles_L96 F n96) n104) σ x2 x3 = some (r, σr) → WQ p l e 7 163 s m [.ref (ad 0), .int a1] below meth c (some (.int r)) D (tyG cA) (wM cA ad σ0) (wM cA ad σr) A H locs (F0 m 178 ls []) := by
            intro H locs σ ls x2 x3 hP hD hS hl hf
            unfold fm_bundles_L178 at hf
            obtain ⟨x3_178, ex3_178, hf⟩ := lt_some hf
            refine lv_iinc (v := x3_178) (lv' := [(3, .int x3_178), (0, .ref (ad 0)), (2, .int x2)]) C.1 C.2.1 dX10_bundles_178 hl (k := 2) rfl (by rw [ex3_178]; rfl) (by decide) rfl (fun ls hl => ?_)
            refine lv_goto (tgt := 104) C.1 C.2.1 dX10_bundles_181 (by decide) ?_
            exact ih104 _ _ _ ls _ _ hP hD hS (lv_sub hl [1, 2, 0] rfl) hf
          have hB115 : ∀ (n115 : Nat) (H : Heap) (locs : List Loc) (σ : MS) (ls : Array Slot) (x2 : Int32) (x3 : Int32) (x4 : Int32), va_P D vwCl (wM cA ad σ) H → va_D A (wM cA ad σ) → va_S A s.heap H locs → lv_has ls 5 [(0, .ref (ad 0)), (2, .int x2), (3, .int x3), (4, .int x4)] → fm_bundles_L115 F (fm_bundles_L96 F n96) (fm_bundles_L104 F (fm_bundles_L96 F n96) n104) n115 σ x2 x3 x4 = some (r, σr) → WQ p l e 7 163 s m [.ref (ad 0), .int a1] below meth c (some (.int r)) D (tyG cA) (wM cA ad σ0) (wM cA ad σr) A H locs (F0 m 115 ls []) := by
            intro n115
            induction n115 with
            | zero =>
              intro H locs σ ls x2 x3 x4 hP hD hS hl hf
              cases (show (none : Option _) = _ from hf)
            | succ n115 ih115 =>
              have hB172 : ∀ (H : Heap) (locs : List Loc) (σ : MS) (ls : Array Slot) (x2 : Int32) (x3 : Int32) (x4 : Int32), va_P D vwCl (wM cA ad σ) H → va_D A (wM cA ad σ) → va_S A s.heap H locs → lv_has ls 5 [(0, .ref (ad 0)), (2, .int x2), (3, .int x3), (4, .int x4)] → fm_bundles_L172 F (fm_bundles_L96 F n96) (fm_bundles_L104 F (fm_bundles_L96 F n96) n104) (fm_bundles_L115 F (fm_bundles_L96 F n96) (fm_bundles_L104 F (fm_bundles_L96 F n96) n104) n115) σ x2 x3 x4 = some (r, σr) → WQ p l e 7 163 s m [.ref (ad 0), .int a1] below meth c (some (.int r)) D (tyG cA) (wM cA ad σ0) (wM cA ad σr) A H locs (F0 m 172 ls []) := by
                intro H locs σ ls x2 x3 x4 hP hD hS hl hf
                unfold fm_bundles_L172 at hf
                obtain ⟨x4_172, ex4_172, hf⟩ := lt_some hf
                refine lv_iinc (v := x4_172) (lv' := [(4, .int x4_172), (0, .ref (ad 0)), (2, .int x2), (3, .int x3)]) C.1 C.2.1 dX10_bundles_172 hl (k := 3) rfl (by rw [ex4_172]; rfl) (by decide) rfl (fun ls hl => ?_)
                refine lv_goto (tgt := 115) C.1 C.2.1 dX10_bundles_175 (by decide) ?_
                exact ih115 _ _ _ ls _ _ _ hP hD hS (lv_sub hl [1, 2, 3, 0] rfl) hf
              intro H locs σ ls x2 x3 x4 hP hD hS hl hf
              have hf : fm_bundles_L115_c F (fm_bundles_L96 F n96) (fm_bundles_L104 F (fm_bundles_L96 F n96) n104) (fm_bundles_L115 F (fm_bundles_L96 F n96) (fm_bundles_L104 F (fm_bundles_L96 F n96) n104) n115) σ x2 x3 x4 = some (r, σr) := hf
              unfold fm_bundles_L115_c at hf
              refine lv_iload C.1 C.2.1 dX10_bundles_115 (lv_at hl 3 rfl) ?_
              refine lv_aload_n C.1 C.2.1 dX10_bundles_117 rfl (lv_at hl 0 rfl) ?_
              refine gm_inners C hK hP dX10_bundles_118 ?_
              refine lv_icmp_ge (tgt := 178) C.1 C.2.1 dX10_bundles_121 (by decide) (fun c121 => ?_) (fun c121 => ?_)
              · have hf := br_p c121 hf
                exact hB178 _ _ _ ls _ _ hP hD hS (lv_sub hl [0, 1, 2] rfl) hf
              · have hf := br_n c121 hf
                refine lv_aload_n C.1 C.2.1 dX10_bundles_124 rfl (lv_at hl 0 rfl) ?_
                refine gm_isIn C hK hP dX10_bundles_125 ?_
                refine lv_iload_n C.1 C.2.1 dX10_bundles_128 rfl (lv_at hl 2 rfl) ?_
                obtain ⟨hi129, hf⟩ := gd_some hf
                refine lm_isIn C hK hP hi129 dX10_bundles_129 ?_
                refine lv_if_ne (tgt := 178) C.1 C.2.1 dX10_bundles_130 (by decide) (fun c130 => ?_) (fun c130 => ?_)
                · have hf := br_n c130 hf
                  exact hB178 _ _ _ ls _ _ hP hD hS (lv_sub hl [0, 1, 2] rfl) hf
                · have hf := br_p c130 hf
                  refine lv_aload_n C.1 C.2.1 dX10_bundles_133 rfl (lv_at hl 0 rfl) ?_
                  refine gm_isIn C hK hP dX10_bundles_134 ?_
                  refine lv_iload C.1 C.2.1 dX10_bundles_137 (lv_at hl 3 rfl) ?_
                  obtain ⟨hi139, hf⟩ := gd_some hf
                  refine lm_isIn C hK hP hi139 dX10_bundles_139 ?_
                  refine lv_if_eq (tgt := 172) C.1 C.2.1 dX10_bundles_140 (by decide) (fun c140 => ?_) (fun c140 => ?_)
                  · have hf := br_p c140 hf
                    exact hB172 _ _ _ ls _ _ _ hP hD hS (lv_sub hl [0, 1, 2, 3] rfl) hf
                  · have hf := br_n c140 hf
                    refine lv_aload_n C.1 C.2.1 dX10_bundles_143 rfl (lv_at hl 0 rfl) ?_
                    refine lv_aload_n C.1 C.2.1 dX10_bundles_144 rfl (lv_at hl 0 rfl) ?_
                    refine gm_inner C hK hP dX10_bundles_145 ?_
                    refine lv_iload_n C.1 C.2.1 dX10_bundles_148 rfl (lv_at hl 2 rfl) ?_
                    obtain ⟨hi149, hf⟩ := gd_some hf
                    refine lm_inner C hK hP hi149 dX10_bundles_149 ?_
                    refine lv_aload_n C.1 C.2.1 dX10_bundles_150 rfl (lv_at hl 0 rfl) ?_
                    refine gm_inner C hK hP dX10_bundles_151 ?_
                    refine lv_iload C.1 C.2.1 dX10_bundles_154 (lv_at hl 3 rfl) ?_
                    obtain ⟨hi156, hf⟩ := gd_some hf
                    refine lm_inner C hK hP hi156 dX10_bundles_156 ?_
                    obtain ⟨r157, hc157, hf⟩ := bd_some hf
                    refine callRV (As := [_, _]) C hK hP wv_X10_229 hl (km_collide l D cA ad _ F _ _ r157 hc157) (rcM hK hP) rfl rfl rfl (Nat.le_of_ble_eq_true rfl) ⟨Nat.le_refl _, Nat.le_refl _⟩ dX10_bundles_157 ?_
                    refine lv_if_eq (tgt := 172) C.1 C.2.1 dX10_bundles_160 (by decide) (fun c160 => ?_) (fun c160 => ?_)
                    · have hf := br_p c160 hf
                      exact hB172 _ _ _ ls _ _ _ hP hD hS (lv_sub hl [0, 1, 2, 3] rfl) hf
                    · have hf := br_n c160 hf
                      refine lv_aload_n C.1 C.2.1 dX10_bundles_163 rfl (lv_at hl 0 rfl) ?_
                      refine gm_isIn C hK hP dX10_bundles_164 ?_
                      refine lv_iload_n C.1 C.2.1 dX10_bundles_167 rfl (lv_at hl 2 rfl) ?_
                      refine lv_iconst (v := (1 : Int32)) C.1 C.2.1 dX10_bundles_168 (by decide) ?_
                      obtain ⟨hi169, hf⟩ := gd_some hf
                      replace hf := lt_e hf
                      refine sm_isIn C hK hP hD hS hi169 (by decide) dX10_bundles_169 (fun H locs hP hD hS => ?_)
                      refine lv_iconst (v := (1 : Int32)) C.1 C.2.1 dX10_bundles_170 (by decide) ?_
                      refine lv_istore_n (lv' := [(2, .int (1 : Int32)), (0, .ref (ad 0)), (3, .int x3), (4, .int x4)]) C.1 C.2.1 dX10_bundles_171 rfl hl (by decide) rfl (fun ls hl => ?_)
                      exact hB172 _ _ _ ls _ _ _ hP hD hS (lv_sub hl [1, 0, 2, 3] rfl) hf
          intro H locs σ ls x2 x3 hP hD hS hl hf
          have hf : fm_bundles_L104_c F (fm_bundles_L96 F n96) (fm_bundles_L104 F (fm_bundles_L96 F n96) n104) σ x2 x3 = some (r, σr) := hf
          unfold fm_bundles_L104_c at hf
          refine lv_iload_n C.1 C.2.1 dX10_bundles_104 rfl (lv_at hl 2 rfl) ?_
          refine lv_aload_n C.1 C.2.1 dX10_bundles_105 rfl (lv_at hl 0 rfl) ?_
          refine gm_inners C hK hP dX10_bundles_106 ?_
          refine lv_icmp_ge (tgt := 184) C.1 C.2.1 dX10_bundles_109 (by decide) (fun c109 => ?_) (fun c109 => ?_)
          · have hf := br_p c109 hf
            refine lv_goto (tgt := 96) C.1 C.2.1 dX10_bundles_184 (by decide) ?_
            exact ih96 _ _ _ ls _ hP hD hS (lv_sub hl [0, 1] rfl) hf
          · have hf := br_n c109 hf
            refine lv_iconst (v := (0 : Int32)) C.1 C.2.1 dX10_bundles_112 (by decide) ?_
            refine lv_istore (lv' := [(4, .int (0 : Int32)), (0, .ref (ad 0)), (2, .int x2), (3, .int x3)]) C.1 C.2.1 dX10_bundles_113 hl (by decide) rfl (fun ls hl => ?_)
            exact hB115 F _ _ _ ls _ _ _ hP hD hS (lv_sub hl [1, 2, 3, 0] rfl) hf
      intro H locs σ ls x2 hP hD hS hl hf
      have hf : fm_bundles_L96_c F (fm_bundles_L96 F n96) σ x2 = some (r, σr) := hf
      unfold fm_bundles_L96_c at hf
      refine lv_iload_n C.1 C.2.1 dX10_bundles_96 rfl (lv_at hl 1 rfl) ?_
      refine lv_if_eq (tgt := 187) C.1 C.2.1 dX10_bundles_97 (by decide) (fun c97 => ?_) (fun c97 => ?_)
      · have hf := br_p c97 hf
        refine lv_aload_n C.1 C.2.1 dX10_bundles_187 rfl (lv_at hl 0 rfl) ?_
        obtain ⟨r188, σ188, hc188, hf⟩ := bd2_some hf
        refine callWV (As := []) C hK hP hD hA hS wv_X10_232 hl (km_lays_ l D cA ad _ F r188 σ188 hc188) (rcM hK hP) rfl rfl rfl (Nat.le_of_ble_eq_true rfl) ⟨Nat.le_refl _, Nat.le_refl _⟩ dX10_bundles_188 (fun H locs hP hD hS => ?_)
        obtain ⟨rfl, rfl⟩ := Prod.mk.inj (Option.some.inj hf)
        exact KW.iret C hr hlk hK hAe hP hD hS rfl dX10_bundles_191
      · have hf := br_n c97 hf
        refine lv_iconst (v := (0 : Int32)) C.1 C.2.1 dX10_bundles_100 (by decide) ?_
        refine lv_istore_n (lv' := [(2, .int (0 : Int32)), (0, .ref (ad 0))]) C.1 C.2.1 dX10_bundles_101 rfl hl (by decide) rfl (fun ls hl => ?_)
        refine lv_iconst (v := (0 : Int32)) C.1 C.2.1 dX10_bundles_102 (by decide) ?_
        refine lv_istore_n (lv' := [(3, .int (0 : Int32)), (2, .int (0 : Int32)), (0, .ref (ad 0))]) C.1 C.2.1 dX10_bundles_103 rfl hl (by decide) rfl (fun ls hl => ?_)
        exact hB104 F _ _ _ ls _ _ hP hD hS (lv_sub hl [2, 1, 0] rfl) hf
  have hB7 : ∀ (n7 : Nat) (H : Heap) (locs : List Loc) (σ : MS) (ls : Array Slot) (x1 : Int32) (x2 : Int32), va_P D vwCl (wM cA ad σ) H → va_D A (wM cA ad σ) → va_S A s.heap H locs → lv_has ls 5 [(0, .ref (ad 0)), (1, .int x1), (2, .int x2)] → fm_bundles_L7 F n7 σ x1 x2 = some (r, σr) → WQ p l e 7 163 s m [.ref (ad 0), .int a1] below meth c (some (.int r)) D (tyG cA) (wM cA ad σ0) (wM cA ad σr) A H locs (F0 m 7 ls []) := by
    intro n7
    induction n7 with
    | zero =>
      intro H locs σ ls x1 x2 hP hD hS hl hf
      cases (show (none : Option _) = _ from hf)
    | succ n7 ih7 =>
      have hB19 : ∀ (n19 : Nat) (H : Heap) (locs : List Loc) (σ : MS) (ls : Array Slot) (x1 : Int32) (x2 : Int32) (x3 : Int32), va_P D vwCl (wM cA ad σ) H → va_D A (wM cA ad σ) → va_S A s.heap H locs → lv_has ls 5 [(0, .ref (ad 0)), (1, .int x1), (2, .int x2), (3, .int x3)] → fm_bundles_L19 F (fm_bundles_L7 F n7) n19 σ x1 x2 x3 = some (r, σr) → WQ p l e 7 163 s m [.ref (ad 0), .int a1] below meth c (some (.int r)) D (tyG cA) (wM cA ad σ0) (wM cA ad σr) A H locs (F0 m 19 ls []) := by
        intro n19
        induction n19 with
        | zero =>
          intro H locs σ ls x1 x2 x3 hP hD hS hl hf
          cases (show (none : Option _) = _ from hf)
        | succ n19 ih19 =>
          have hB71 : ∀ (H : Heap) (locs : List Loc) (σ : MS) (ls : Array Slot) (x1 : Int32) (x2 : Int32) (x3 : Int32) (s0 : Int32) (s1 : Int32), va_P D vwCl (wM cA ad σ) H → va_D A (wM cA ad σ) → va_S A s.heap H locs → lv_has ls 5 [(0, .ref (ad 0)), (1, .int x1), (2, .int x2), (3, .int x3)] → fm_bundles_L71 F (fm_bundles_L7 F n7) (fm_bundles_L19 F (fm_bundles_L7 F n7) n19) σ x1 x2 x3 s0 s1 = some (r, σr) → WQ p l e 7 163 s m [.ref (ad 0), .int a1] below meth c (some (.int r)) D (tyG cA) (wM cA ad σ0) (wM cA ad σr) A H locs (F0 m 71 ls [.int s0, .int s1, .ref (ad 12)]) := by
            intro H locs σ ls x1 x2 x3 s0 s1 hP hD hS hl hf
            unfold fm_bundles_L71 at hf
            obtain ⟨hi71, hf⟩ := gd_some hf
            obtain ⟨hz71, hf⟩ := gd_some hf
            replace hf := lt_e hf
            refine sm_isIn C hK hP hD hS hi71 hz71 dX10_bundles_71 (fun H locs hP hD hS => ?_)
            refine lv_aload_n C.1 C.2.1 dX10_bundles_72 rfl (lv_at hl 0 rfl) ?_
            refine lv_dup C.1 C.2.1 dX10_bundles_73 rfl ?_
            refine gm_inners C hK hP dX10_bundles_74 ?_
            refine lv_iconst (v := (1 : Int32)) C.1 C.2.1 dX10_bundles_77 (by decide) ?_
            refine lv_iadd C.1 C.2.1 dX10_bundles_78 ?_
            replace hf := lt_e hf
            refine pm_inners C hK hP hD hS dX10_bundles_79 (fun H locs hP hD hS => ?_)
            obtain ⟨x3_82, ex3_82, hf⟩ := lt_some hf
            refine lv_iinc (v := x3_82) (lv' := [(3, .int x3_82), (0, .ref (ad 0)), (1, .int x1), (2, .int x2)]) C.1 C.2.1 dX10_bundles_82 hl (k := 3) rfl (by rw [ex3_82]; rfl) (by decide) rfl (fun ls hl => ?_)
            refine lv_goto (tgt := 19) C.1 C.2.1 dX10_bundles_85 (by decide) ?_
            exact ih19 _ _ _ ls _ _ _ hP hD hS (lv_sub hl [1, 2, 3, 0] rfl) hf
          intro H locs σ ls x1 x2 x3 hP hD hS hl hf
          have hf : fm_bundles_L19_c F (fm_bundles_L7 F n7) (fm_bundles_L19 F (fm_bundles_L7 F n7) n19) σ x1 x2 x3 = some (r, σr) := hf
          unfold fm_bundles_L19_c at hf
          refine lv_iload_n C.1 C.2.1 dX10_bundles_19 rfl (lv_at hl 3 rfl) ?_
          refine lv_aload_n C.1 C.2.1 dX10_bundles_20 rfl (lv_at hl 0 rfl) ?_
          refine lv_iload_n C.1 C.2.1 dX10_bundles_21 rfl (lv_at hl 2 rfl) ?_
          obtain ⟨r22, hc22, hf⟩ := bd_some hf
          refine callRV (As := [_]) C hK hP wv_X10_213 hl (km_segments l D cA ad _ F _ r22 hc22) (rcM hK hP) rfl rfl rfl (Nat.le_of_ble_eq_true rfl) ⟨Nat.le_refl _, Nat.le_refl _⟩ dX10_bundles_22 ?_
          refine lv_iconst (v := (1 : Int32)) C.1 C.2.1 dX10_bundles_25 (by decide) ?_
          refine lv_isub C.1 C.2.1 dX10_bundles_26 ?_
          refine lv_icmp_ge (tgt := 88) C.1 C.2.1 dX10_bundles_27 (by decide) (fun c27 => ?_) (fun c27 => ?_)
          · have hf := br_p c27 hf
            obtain ⟨x2_88, ex2_88, hf⟩ := lt_some hf
            refine lv_iinc (v := x2_88) (lv' := [(2, .int x2_88), (0, .ref (ad 0)), (1, .int x1), (3, .int x3)]) C.1 C.2.1 dX10_bundles_88 hl (k := 2) rfl (by rw [ex2_88]; rfl) (by decide) rfl (fun ls hl => ?_)
            refine lv_goto (tgt := 7) C.1 C.2.1 dX10_bundles_91 (by decide) ?_
            exact ih7 _ _ _ ls _ _ hP hD hS (lv_sub hl [1, 2, 0] rfl) hf
          · have hf := br_n c27 hf
            refine lv_aload_n C.1 C.2.1 dX10_bundles_30 rfl (lv_at hl 0 rfl) ?_
            refine gm_inner C hK hP dX10_bundles_31 ?_
            refine lv_aload_n C.1 C.2.1 dX10_bundles_34 rfl (lv_at hl 0 rfl) ?_
            refine gm_inners C hK hP dX10_bundles_35 ?_
            refine lv_bipush (v := (100 : Int32)) C.1 C.2.1 dX10_bundles_38 (by decide) ?_
            refine lv_iload_n C.1 C.2.1 dX10_bundles_40 rfl (lv_at hl 2 rfl) ?_
            refine lv_imul C.1 C.2.1 dX10_bundles_41 ?_
            refine lv_iload_n C.1 C.2.1 dX10_bundles_42 rfl (lv_at hl 3 rfl) ?_
            refine lv_iadd C.1 C.2.1 dX10_bundles_43 ?_
            obtain ⟨hi44, hf⟩ := gd_some hf
            replace hf := lt_e hf
            refine sm_inner C hK hP hD hS hi44 dX10_bundles_44 (fun H locs hP hD hS => ?_)
            refine lv_aload_n C.1 C.2.1 dX10_bundles_45 rfl (lv_at hl 0 rfl) ?_
            refine gm_isIn C hK hP dX10_bundles_46 ?_
            refine lv_aload_n C.1 C.2.1 dX10_bundles_49 rfl (lv_at hl 0 rfl) ?_
            refine gm_inners C hK hP dX10_bundles_50 ?_
            refine lv_aload_n C.1 C.2.1 dX10_bundles_53 rfl (lv_at hl 0 rfl) ?_
            refine gm_inner C hK hP dX10_bundles_54 ?_
            refine lv_aload_n C.1 C.2.1 dX10_bundles_57 rfl (lv_at hl 0 rfl) ?_
            refine gm_inners C hK hP dX10_bundles_58 ?_
            obtain ⟨hi61, hf⟩ := gd_some hf
            refine lm_inner C hK hP hi61 dX10_bundles_61 ?_
            refine lv_iload_n C.1 C.2.1 dX10_bundles_62 rfl (lv_at hl 1 rfl) ?_
            refine lv_icmp_ne (tgt := 70) C.1 C.2.1 dX10_bundles_63 (by decide) (fun c63 => ?_) (fun c63 => ?_)
            · have hf := br_n c63 hf
              refine lv_iconst (v := (0 : Int32)) C.1 C.2.1 dX10_bundles_70 (by decide) ?_
              exact hB71 _ _ _ ls _ _ _ _ _ hP hD hS (lv_sub hl [0, 1, 2, 3] rfl) hf
            · have hf := br_p c63 hf
              refine lv_iconst (v := (1 : Int32)) C.1 C.2.1 dX10_bundles_66 (by decide) ?_
              refine lv_goto (tgt := 71) C.1 C.2.1 dX10_bundles_67 (by decide) ?_
              exact hB71 _ _ _ ls _ _ _ _ _ hP hD hS (lv_sub hl [0, 1, 2, 3] rfl) hf
      intro H locs σ ls x1 x2 hP hD hS hl hf
      have hf : fm_bundles_L7_c F (fm_bundles_L7 F n7) σ x1 x2 = some (r, σr) := hf
      unfold fm_bundles_L7_c at hf
      refine lv_iload_n C.1 C.2.1 dX10_bundles_7 rfl (lv_at hl 2 rfl) ?_
      refine lv_aload_n C.1 C.2.1 dX10_bundles_8 rfl (lv_at hl 0 rfl) ?_
      refine gm_row C hK hP dX10_bundles_9 ?_
      refine lv_iconst (v := (1 : Int32)) C.1 C.2.1 dX10_bundles_12 (by decide) ?_
      obtain ⟨hi13, hf⟩ := gd_some hf
      refine lm_row C hK hP hi13 dX10_bundles_13 ?_
      refine lv_icmp_ge (tgt := 94) C.1 C.2.1 dX10_bundles_14 (by decide) (fun c14 => ?_) (fun c14 => ?_)
      · have hf := br_p c14 hf
        refine lv_iconst (v := (1 : Int32)) C.1 C.2.1 dX10_bundles_94 (by decide) ?_
        refine lv_istore_n (lv' := [(2, .int (1 : Int32)), (0, .ref (ad 0)), (1, .int x1)]) C.1 C.2.1 dX10_bundles_95 rfl hl (by decide) rfl (fun ls hl => ?_)
        exact hB96 F _ _ _ ls _ hP hD hS (lv_sub hl [1, 0] rfl) hf
      · have hf := br_n c14 hf
        refine lv_iconst (v := (1 : Int32)) C.1 C.2.1 dX10_bundles_17 (by decide) ?_
        refine lv_istore_n (lv' := [(3, .int (1 : Int32)), (0, .ref (ad 0)), (1, .int x1), (2, .int x2)]) C.1 C.2.1 dX10_bundles_18 rfl hl (by decide) rfl (fun ls hl => ?_)
        exact hB19 F _ _ _ ls _ _ _ hP hD hS (lv_sub hl [1, 2, 3, 0] rfl) hf
  unfold fm_bundles at hf
  refine lv_aload_n C.1 C.2.1 dX10_bundles_0 rfl (lv_at hl 0 rfl) ?_
  refine lv_iconst (v := (0 : Int32)) C.1 C.2.1 dX10_bundles_1 (by decide) ?_
  replace hf := lt_e hf
  refine pm_inners C hK hP hD hS dX10_bundles_2 (fun H locs hP hD hS => ?_)
  refine lv_iconst (v := (0 : Int32)) C.1 C.2.1 dX10_bundles_5 (by decide) ?_
  refine lv_istore_n (lv' := [(2, .int (0 : Int32)), (0, .ref (ad 0)), (1, .int a1)]) C.1 C.2.1 dX10_bundles_6 rfl hl (by decide) rfl (fun ls hl => ?_)
  exact hB7 F _ _ _ ls _ _ hP hD hS (lv_sub hl [1, 2, 0] rfl) hf
def fm_lane_L179 (F : Nat) (σ : MS) (s0 : Int32) : Option (Int32 × MS) :=
  some (s0, σ)
def fm_lane_L127 (F : Nat) (σ : MS) (x3 : Int32) (x4 : Int32) (x5 : Int32) (x6 : Int32) (s0 : Int32) : Option (Int32 × MS) :=
  if x3 = 0 then (bd (fm_pullOf F σ x4) (fun r136 => fm_lane_L179 F σ r136)) else (if x3 = (1 : Int32) then (fm_lane_L179 F σ x6) else (if x3 = (2 : Int32) then (fm_lane_L179 F σ x5) else (fm_lane_L179 F σ (((20 : Int32) * s0) + ((((2 : Int32) * x6) - (x5 - (1 : Int32))) * (4 : Int32))))))
def fm_lane_L95 (F : Nat) (k62 : MS → Int32 → Int32 → Int32 → Int32 → Int32 → Int32 → Int32 → Option (Int32 × MS)) (σ : MS) (x1 : Int32) (x2 : Int32) (x3 : Int32) (x4 : Int32) (x5 : Int32) (x7 : Int32) (s0 : Int32) : Option (Int32 × MS) :=
  lt (x7 + (1 : Int32)) (fun x7_97 => k62 σ x1 x2 x3 x4 x5 s0 x7_97)
def fm_lane_L62_c (F : Nat) (k62 : MS → Int32 → Int32 → Int32 → Int32 → Int32 → Int32 → Int32 → Option (Int32 × MS)) (σ : MS) (x1 : Int32) (x2 : Int32) (x3 : Int32) (x4 : Int32) (x5 : Int32) (x6 : Int32) (x7 : Int32) : Option (Int32 × MS) :=
  if (ms_inners σ) ≤ x7 then (bd (fm_isFlat F σ x1 x2) (fun r106 => if r106 = 0 then (bd (fm_cornerX F σ x1 x2) (fun r124 => fm_lane_L127 F σ x3 x4 x5 x6 r124)) else (bd (fm_cornerY F σ x1 x2) (fun r115 => fm_lane_L127 F σ x3 x4 x5 x6 r115)))) else (gd (ix x7 800 = true) (if (ms_inner σ x7.toNatClampNeg) = x4 then (gd (ix x7 800 = true) (fm_lane_L95 F k62 σ x1 x2 x3 x4 x5 x7 (ms_laneOf σ x7.toNatClampNeg))) else (fm_lane_L95 F k62 σ x1 x2 x3 x4 x5 x7 x6)))
def fm_lane_L62 (F : Nat) (n : Nat) (σ : MS) (x1 : Int32) (x2 : Int32) (x3 : Int32) (x4 : Int32) (x5 : Int32) (x6 : Int32) (x7 : Int32) : Option (Int32 × MS) := lpN (fun (k : MS × Int32 × Int32 × Int32 × Int32 × Int32 × Int32 × Int32 → Option (Int32 × MS)) a => fm_lane_L62_c F (fun σ x1 x2 x3 x4 x5 x6 x7 => k (σ, x1, x2, x3, x4, x5, x6, x7)) a.1 a.2.1 a.2.2.1 a.2.2.2.1 a.2.2.2.2.1 a.2.2.2.2.2.1 a.2.2.2.2.2.2.1 a.2.2.2.2.2.2.2) n (σ, x1, x2, x3, x4, x5, x6, x7)
def fm_lane_L23 (F : Nat) (σ : MS) : Option (Int32 × MS) :=
  some ((-1001 : Int32), σ)
def fm_lane (F : Nat) (σ : MS) (x1 : Int32) (x2 : Int32) (x3 : Int32) : Option (Int32 × MS) :=
  bd (fm_isLink F σ x1) (fun r2 => if r2 = 0 then (fm_lane_L23 F σ) else (bd (fm_segments F σ x1) (fun r12 => bd (fm_in F x2 (1 : Int32) (r12 - (2 : Int32))) (fun r17 => if r17 = 0 then (fm_lane_L23 F σ) else (bd (fm_in F x3 (0 : Int32) (3 : Int32)) (fun r30 => if r30 = 0 then (some ((-1002 : Int32), σ)) else (lt (((100 : Int32) * x1) + x2) (fun x4_46 => bd2 (fm_bundles F σ x4_46) (fun r51 σ51 => fm_lane_L62 F F σ51 x1 x2 x3 x4_46 r51 (0 : Int32) (0 : Int32))))))))))
set_option maxHeartbeats 4000000 in
set_option maxRecDepth 100000 in
theorem km_lane (l : Launch) (D : va_G) (cA : Nat → ClassId) (ad : Nat → Nat) (σ0 : MS) (F : Nat) (a1 : Int32) (a2 : Int32) (a3 : Int32) (r : Int32) (σr : MS) (hf : fm_lane F σ0 a1 a2 a3 = some (r, σr)) : KW l D (tyG cA) yX10_lane cX10_lane 8 (some .int) (rmk 8 187) (wM cA ad σ0) [.ref (ad 0), .int a1, .int a2, .int a3] (some (.int r)) (wM cA ad σr) := by
  refine KW.of (by decide) (Nat.le_of_ble_eq_true rfl) ?_
  intro p e s m below meth c A hAe hA C hr hlk hK hP hD hS ls hl
  have hl : lv_has ls 8 [(0, .ref (ad 0)), (1, .int a1), (2, .int a2), (3, .int a3)] := hl
  have hB179 : ∀ (H : Heap) (locs : List Loc) (σ : MS) (ls : Array Slot) (s0 : Int32), va_P D vwCl (wM cA ad σ) H → va_D A (wM cA ad σ) → va_S A s.heap H locs → lv_has ls 8 [(0, .ref (ad 0))] → fm_lane_L179 F σ s0 = some (r, σr) → WQ p l e 8 187 s m [.ref (ad 0), .int a1, .int a2, .int a3] below meth c (some (.int r)) D (tyG cA) (wM cA ad σ0) (wM cA ad σr) A H locs (F0 m 179 ls [.int s0]) := by
    intro H locs σ ls s0 hP hD hS hl hf
    unfold fm_lane_L179 at hf
    obtain ⟨rfl, rfl⟩ := Prod.mk.inj (Option.some.inj hf)
    exact KW.iret C hr hlk hK hAe hP hD hS rfl dX10_lane_179
  have hB127 : ∀ (H : Heap) (locs : List Loc) (σ : MS) (ls : Array Slot) (x3 : Int32) (x4 : Int32) (x5 : Int32) (x6 : Int32) (s0 : Int32), va_P D vwCl (wM cA ad σ) H → va_D A (wM cA ad σ) → va_S A s.heap H locs → lv_has ls 8 [(0, .ref (ad 0)), (3, .int x3), (4, .int x4), (5, .int x5), (6, .int x6)] → fm_lane_L127 F σ x3 x4 x5 x6 s0 = some (r, σr) → WQ p l e 8 187 s m [.ref (ad 0), .int a1, .int a2, .int a3] below meth c (some (.int r)) D (tyG cA) (wM cA ad σ0) (wM cA ad σr) A H locs (F0 m 127 ls [.int s0]) := by
    intro H locs σ ls x3 x4 x5 x6 s0 hP hD hS hl hf
    unfold fm_lane_L127 at hf
    refine lv_istore (lv' := [(7, .int s0), (0, .ref (ad 0)), (3, .int x3), (4, .int x4), (5, .int x5), (6, .int x6)]) C.1 C.2.1 dX10_lane_127 hl (by decide) rfl (fun ls hl => ?_)
    refine lv_iload_n C.1 C.2.1 dX10_lane_129 rfl (lv_at hl 2 rfl) ?_
    refine lv_if_ne (tgt := 142) C.1 C.2.1 dX10_lane_130 (by decide) (fun c130 => ?_) (fun c130 => ?_)
    · have hf := br_n c130 hf
      refine lv_iload_n C.1 C.2.1 dX10_lane_142 rfl (lv_at hl 2 rfl) ?_
      refine lv_iconst (v := (1 : Int32)) C.1 C.2.1 dX10_lane_143 (by decide) ?_
      refine lv_icmp_ne (tgt := 152) C.1 C.2.1 dX10_lane_144 (by decide) (fun c144 => ?_) (fun c144 => ?_)
      · have hf := br_n c144 hf
        refine lv_iload_n C.1 C.2.1 dX10_lane_152 rfl (lv_at hl 2 rfl) ?_
        refine lv_iconst (v := (2 : Int32)) C.1 C.2.1 dX10_lane_153 (by decide) ?_
        refine lv_icmp_ne (tgt := 162) C.1 C.2.1 dX10_lane_154 (by decide) (fun c154 => ?_) (fun c154 => ?_)
        · have hf := br_n c154 hf
          refine lv_bipush (v := (20 : Int32)) C.1 C.2.1 dX10_lane_162 (by decide) ?_
          refine lv_iload C.1 C.2.1 dX10_lane_164 (lv_at hl 0 rfl) ?_
          refine lv_imul C.1 C.2.1 dX10_lane_166 ?_
          refine lv_iconst (v := (2 : Int32)) C.1 C.2.1 dX10_lane_167 (by decide) ?_
          refine lv_iload C.1 C.2.1 dX10_lane_168 (lv_at hl 5 rfl) ?_
          refine lv_imul C.1 C.2.1 dX10_lane_170 ?_
          refine lv_iload C.1 C.2.1 dX10_lane_171 (lv_at hl 4 rfl) ?_
          refine lv_iconst (v := (1 : Int32)) C.1 C.2.1 dX10_lane_173 (by decide) ?_
          refine lv_isub C.1 C.2.1 dX10_lane_174 ?_
          refine lv_isub C.1 C.2.1 dX10_lane_175 ?_
          refine lv_iconst (v := (4 : Int32)) C.1 C.2.1 dX10_lane_176 (by decide) ?_
          refine lv_imul C.1 C.2.1 dX10_lane_177 ?_
          refine lv_iadd C.1 C.2.1 dX10_lane_178 ?_
          exact hB179 _ _ _ ls _ hP hD hS (lv_sub hl [1] rfl) hf
        · have hf := br_p c154 hf
          refine lv_iload C.1 C.2.1 dX10_lane_157 (lv_at hl 4 rfl) ?_
          refine lv_goto (tgt := 179) C.1 C.2.1 dX10_lane_159 (by decide) ?_
          exact hB179 _ _ _ ls _ hP hD hS (lv_sub hl [1] rfl) hf
      · have hf := br_p c144 hf
        refine lv_iload C.1 C.2.1 dX10_lane_147 (lv_at hl 5 rfl) ?_
        refine lv_goto (tgt := 179) C.1 C.2.1 dX10_lane_149 (by decide) ?_
        exact hB179 _ _ _ ls _ hP hD hS (lv_sub hl [1] rfl) hf
    · have hf := br_p c130 hf
      refine lv_aload_n C.1 C.2.1 dX10_lane_133 rfl (lv_at hl 1 rfl) ?_
      refine lv_iload C.1 C.2.1 dX10_lane_134 (lv_at hl 3 rfl) ?_
      obtain ⟨r136, hc136, hf⟩ := bd_some hf
      refine callRV (As := [_]) C hK hP wv_X10_235 hl (km_pullOf l D cA ad _ F _ r136 hc136) (rcM hK hP) rfl rfl rfl (Nat.le_of_ble_eq_true rfl) ⟨Nat.le_refl _, Nat.le_refl _⟩ dX10_lane_136 ?_
      refine lv_goto (tgt := 179) C.1 C.2.1 dX10_lane_139 (by decide) ?_
      exact hB179 _ _ _ ls _ hP hD hS (lv_sub hl [1] rfl) hf
  have hB62 : ∀ (n62 : Nat) (H : Heap) (locs : List Loc) (σ : MS) (ls : Array Slot) (x1 : Int32) (x2 : Int32) (x3 : Int32) (x4 : Int32) (x5 : Int32) (x6 : Int32) (x7 : Int32), va_P D vwCl (wM cA ad σ) H → va_D A (wM cA ad σ) → va_S A s.heap H locs → lv_has ls 8 [(0, .ref (ad 0)), (1, .int x1), (2, .int x2), (3, .int x3), (4, .int x4), (5, .int x5), (6, .int x6), (7, .int x7)] → fm_lane_L62 F n62 σ x1 x2 x3 x4 x5 x6 x7 = some (r, σr) → WQ p l e 8 187 s m [.ref (ad 0), .int a1, .int a2, .int a3] below meth c (some (.int r)) D (tyG cA) (wM cA ad σ0) (wM cA ad σr) A H locs (F0 m 62 ls []) := by
    intro n62
    induction n62 with
    | zero =>
      intro H locs σ ls x1 x2 x3 x4 x5 x6 x7 hP hD hS hl hf
      cases (show (none : Option _) = _ from hf)
    | succ n62 ih62 =>
      have hB95 : ∀ (H : Heap) (locs : List Loc) (σ : MS) (ls : Array Slot) (x1 : Int32) (x2 : Int32) (x3 : Int32) (x4 : Int32) (x5 : Int32) (x7 : Int32) (s0 : Int32), va_P D vwCl (wM cA ad σ) H → va_D A (wM cA ad σ) → va_S A s.heap H locs → lv_has ls 8 [(0, .ref (ad 0)), (1, .int x1), (2, .int x2), (3, .int x3), (4, .int x4), (5, .int x5), (7, .int x7)] → fm_lane_L95 F (fm_lane_L62 F n62) σ x1 x2 x3 x4 x5 x7 s0 = some (r, σr) → WQ p l e 8 187 s m [.ref (ad 0), .int a1, .int a2, .int a3] below meth c (some (.int r)) D (tyG cA) (wM cA ad σ0) (wM cA ad σr) A H locs (F0 m 95 ls [.int s0]) := by
        intro H locs σ ls x1 x2 x3 x4 x5 x7 s0 hP hD hS hl hf
        unfold fm_lane_L95 at hf
        refine lv_istore (lv' := [(6, .int s0), (0, .ref (ad 0)), (1, .int x1), (2, .int x2), (3, .int x3), (4, .int x4), (5, .int x5), (7, .int x7)]) C.1 C.2.1 dX10_lane_95 hl (by decide) rfl (fun ls hl => ?_)
        obtain ⟨x7_97, ex7_97, hf⟩ := lt_some hf
        refine lv_iinc (v := x7_97) (lv' := [(7, .int x7_97), (6, .int s0), (0, .ref (ad 0)), (1, .int x1), (2, .int x2), (3, .int x3), (4, .int x4), (5, .int x5)]) C.1 C.2.1 dX10_lane_97 hl (k := 7) rfl (by rw [ex7_97]; rfl) (by decide) rfl (fun ls hl => ?_)
        refine lv_goto (tgt := 62) C.1 C.2.1 dX10_lane_100 (by decide) ?_
        exact ih62 _ _ _ ls _ _ _ _ _ _ _ hP hD hS (lv_sub hl [2, 3, 4, 5, 6, 7, 1, 0] rfl) hf
      intro H locs σ ls x1 x2 x3 x4 x5 x6 x7 hP hD hS hl hf
      have hf : fm_lane_L62_c F (fm_lane_L62 F n62) σ x1 x2 x3 x4 x5 x6 x7 = some (r, σr) := hf
      unfold fm_lane_L62_c at hf
      refine lv_iload C.1 C.2.1 dX10_lane_62 (lv_at hl 7 rfl) ?_
      refine lv_aload_n C.1 C.2.1 dX10_lane_64 rfl (lv_at hl 0 rfl) ?_
      refine gm_inners C hK hP dX10_lane_65 ?_
      refine lv_icmp_ge (tgt := 103) C.1 C.2.1 dX10_lane_68 (by decide) (fun c68 => ?_) (fun c68 => ?_)
      · have hf := br_p c68 hf
        refine lv_aload_n C.1 C.2.1 dX10_lane_103 rfl (lv_at hl 0 rfl) ?_
        refine lv_iload_n C.1 C.2.1 dX10_lane_104 rfl (lv_at hl 1 rfl) ?_
        refine lv_iload_n C.1 C.2.1 dX10_lane_105 rfl (lv_at hl 2 rfl) ?_
        obtain ⟨r106, hc106, hf⟩ := bd_some hf
        refine callRV (As := [_, _]) C hK hP wv_X10_216 hl (km_isFlat l D cA ad _ F _ _ r106 hc106) (rcM hK hP) rfl rfl rfl (Nat.le_of_ble_eq_true rfl) ⟨Nat.le_refl _, Nat.le_refl _⟩ dX10_lane_106 ?_
        refine lv_if_eq (tgt := 121) C.1 C.2.1 dX10_lane_109 (by decide) (fun c109 => ?_) (fun c109 => ?_)
        · have hf := br_p c109 hf
          refine lv_aload_n C.1 C.2.1 dX10_lane_121 rfl (lv_at hl 0 rfl) ?_
          refine lv_iload_n C.1 C.2.1 dX10_lane_122 rfl (lv_at hl 1 rfl) ?_
          refine lv_iload_n C.1 C.2.1 dX10_lane_123 rfl (lv_at hl 2 rfl) ?_
          obtain ⟨r124, hc124, hf⟩ := bd_some hf
          refine callRV (As := [_, _]) C hK hP wv_X10_117 hl (km_cornerX l D cA ad _ F _ _ r124 hc124) (rcM hK hP) rfl rfl rfl (Nat.le_of_ble_eq_true rfl) ⟨Nat.le_refl _, Nat.le_refl _⟩ dX10_lane_124 ?_
          exact hB127 _ _ _ ls _ _ _ _ _ hP hD hS (lv_sub hl [0, 3, 4, 5, 6] rfl) hf
        · have hf := br_n c109 hf
          refine lv_aload_n C.1 C.2.1 dX10_lane_112 rfl (lv_at hl 0 rfl) ?_
          refine lv_iload_n C.1 C.2.1 dX10_lane_113 rfl (lv_at hl 1 rfl) ?_
          refine lv_iload_n C.1 C.2.1 dX10_lane_114 rfl (lv_at hl 2 rfl) ?_
          obtain ⟨r115, hc115, hf⟩ := bd_some hf
          refine callRV (As := [_, _]) C hK hP wv_X10_124 hl (km_cornerY l D cA ad _ F _ _ r115 hc115) (rcM hK hP) rfl rfl rfl (Nat.le_of_ble_eq_true rfl) ⟨Nat.le_refl _, Nat.le_refl _⟩ dX10_lane_115 ?_
          refine lv_goto (tgt := 127) C.1 C.2.1 dX10_lane_118 (by decide) ?_
          exact hB127 _ _ _ ls _ _ _ _ _ hP hD hS (lv_sub hl [0, 3, 4, 5, 6] rfl) hf
      · have hf := br_n c68 hf
        refine lv_aload_n C.1 C.2.1 dX10_lane_71 rfl (lv_at hl 0 rfl) ?_
        refine gm_inner C hK hP dX10_lane_72 ?_
        refine lv_iload C.1 C.2.1 dX10_lane_75 (lv_at hl 7 rfl) ?_
        obtain ⟨hi77, hf⟩ := gd_some hf
        refine lm_inner C hK hP hi77 dX10_lane_77 ?_
        refine lv_iload C.1 C.2.1 dX10_lane_78 (lv_at hl 4 rfl) ?_
        refine lv_icmp_ne (tgt := 93) C.1 C.2.1 dX10_lane_80 (by decide) (fun c80 => ?_) (fun c80 => ?_)
        · have hf := br_n c80 hf
          refine lv_iload C.1 C.2.1 dX10_lane_93 (lv_at hl 6 rfl) ?_
          exact hB95 _ _ _ ls _ _ _ _ _ _ _ hP hD hS (lv_sub hl [0, 1, 2, 3, 4, 5, 7] rfl) hf
        · have hf := br_p c80 hf
          refine lv_aload_n C.1 C.2.1 dX10_lane_83 rfl (lv_at hl 0 rfl) ?_
          refine gm_laneOf C hK hP dX10_lane_84 ?_
          refine lv_iload C.1 C.2.1 dX10_lane_87 (lv_at hl 7 rfl) ?_
          obtain ⟨hi89, hf⟩ := gd_some hf
          refine lm_laneOf C hK hP hi89 dX10_lane_89 ?_
          refine lv_goto (tgt := 95) C.1 C.2.1 dX10_lane_90 (by decide) ?_
          exact hB95 _ _ _ ls _ _ _ _ _ _ _ hP hD hS (lv_sub hl [0, 1, 2, 3, 4, 5, 7] rfl) hf
  have hB23 : ∀ (H : Heap) (locs : List Loc) (σ : MS) (ls : Array Slot), va_P D vwCl (wM cA ad σ) H → va_D A (wM cA ad σ) → va_S A s.heap H locs → lv_has ls 8 [(0, .ref (ad 0))] → fm_lane_L23 F σ = some (r, σr) → WQ p l e 8 187 s m [.ref (ad 0), .int a1, .int a2, .int a3] below meth c (some (.int r)) D (tyG cA) (wM cA ad σ0) (wM cA ad σr) A H locs (F0 m 23 ls []) := by
    intro H locs σ ls hP hD hS hl hf
    unfold fm_lane_L23 at hf
    refine lv_sipush (v := (-1001 : Int32)) C.1 C.2.1 dX10_lane_23 (by decide) ?_
    obtain ⟨rfl, rfl⟩ := Prod.mk.inj (Option.some.inj hf)
    exact KW.iret C hr hlk hK hAe hP hD hS rfl dX10_lane_26
  unfold fm_lane at hf
  refine lv_aload_n C.1 C.2.1 dX10_lane_0 rfl (lv_at hl 0 rfl) ?_
  refine lv_iload_n C.1 C.2.1 dX10_lane_1 rfl (lv_at hl 1 rfl) ?_
  obtain ⟨r2, hc2, hf⟩ := bd_some hf
  refine callRV (As := [_]) C hK hP wv_X10_111 hl (km_isLink l D cA ad _ F _ r2 hc2) (rcM hK hP) rfl rfl rfl (Nat.le_of_ble_eq_true rfl) ⟨Nat.le_refl _, Nat.le_refl _⟩ dX10_lane_2 ?_
  refine lv_if_eq (tgt := 23) C.1 C.2.1 dX10_lane_5 (by decide) (fun c5 => ?_) (fun c5 => ?_)
  · have hf := br_p c5 hf
    exact hB23 _ _ _ ls hP hD hS (lv_sub hl [0] rfl) hf
  · have hf := br_n c5 hf
    refine lv_iload_n C.1 C.2.1 dX10_lane_8 rfl (lv_at hl 2 rfl) ?_
    refine lv_iconst (v := (1 : Int32)) C.1 C.2.1 dX10_lane_9 (by decide) ?_
    refine lv_aload_n C.1 C.2.1 dX10_lane_10 rfl (lv_at hl 0 rfl) ?_
    refine lv_iload_n C.1 C.2.1 dX10_lane_11 rfl (lv_at hl 1 rfl) ?_
    obtain ⟨r12, hc12, hf⟩ := bd_some hf
    refine callRV (As := [_]) C hK hP wv_X10_213 hl (km_segments l D cA ad _ F _ r12 hc12) (rcM hK hP) rfl rfl rfl (Nat.le_of_ble_eq_true rfl) ⟨Nat.le_refl _, Nat.le_refl _⟩ dX10_lane_12 ?_
    refine lv_iconst (v := (2 : Int32)) C.1 C.2.1 dX10_lane_15 (by decide) ?_
    refine lv_isub C.1 C.2.1 dX10_lane_16 ?_
    obtain ⟨r17, hc17, hf⟩ := bd_some hf
    refine callRS (As := [_, _, _]) C hK hP wv_X10_68 hl (km_in l D cA _ F _ _ _ r17 hc17) rfl rfl rfl (Nat.le_of_ble_eq_true rfl) ⟨Nat.le_refl _, Nat.le_refl _⟩ dX10_lane_17 ?_
    refine lv_if_ne (tgt := 27) C.1 C.2.1 dX10_lane_20 (by decide) (fun c20 => ?_) (fun c20 => ?_)
    · have hf := br_n c20 hf
      refine lv_iload_n C.1 C.2.1 dX10_lane_27 rfl (lv_at hl 3 rfl) ?_
      refine lv_iconst (v := (0 : Int32)) C.1 C.2.1 dX10_lane_28 (by decide) ?_
      refine lv_iconst (v := (3 : Int32)) C.1 C.2.1 dX10_lane_29 (by decide) ?_
      obtain ⟨r30, hc30, hf⟩ := bd_some hf
      refine callRS (As := [_, _, _]) C hK hP wv_X10_68 hl (km_in l D cA _ F _ _ _ r30 hc30) rfl rfl rfl (Nat.le_of_ble_eq_true rfl) ⟨Nat.le_refl _, Nat.le_refl _⟩ dX10_lane_30 ?_
      refine lv_if_ne (tgt := 40) C.1 C.2.1 dX10_lane_33 (by decide) (fun c33 => ?_) (fun c33 => ?_)
      · have hf := br_n c33 hf
        refine lv_bipush (v := (100 : Int32)) C.1 C.2.1 dX10_lane_40 (by decide) ?_
        refine lv_iload_n C.1 C.2.1 dX10_lane_42 rfl (lv_at hl 1 rfl) ?_
        refine lv_imul C.1 C.2.1 dX10_lane_43 ?_
        refine lv_iload_n C.1 C.2.1 dX10_lane_44 rfl (lv_at hl 2 rfl) ?_
        refine lv_iadd C.1 C.2.1 dX10_lane_45 ?_
        obtain ⟨x4_46, ex4_46, hf⟩ := lt_some hf
        refine lv_tope ex4_46 ?_
        refine lv_istore (lv' := [(4, .int x4_46), (0, .ref (ad 0)), (1, .int a1), (2, .int a2), (3, .int a3)]) C.1 C.2.1 dX10_lane_46 hl (by decide) rfl (fun ls hl => ?_)
        refine lv_aload_n C.1 C.2.1 dX10_lane_48 rfl (lv_at hl 1 rfl) ?_
        refine lv_iload C.1 C.2.1 dX10_lane_49 (lv_at hl 0 rfl) ?_
        obtain ⟨r51, σ51, hc51, hf⟩ := bd2_some hf
        refine callWV (As := [_]) C hK hP hD hA hS wv_X10_238 hl (km_bundles l D cA ad _ F _ r51 σ51 hc51) (rcM hK hP) rfl rfl rfl (Nat.le_of_ble_eq_true rfl) ⟨Nat.le_refl _, Nat.le_refl _⟩ dX10_lane_51 (fun H locs hP hD hS => ?_)
        refine lv_istore (lv' := [(5, .int r51), (4, .int x4_46), (0, .ref (ad 0)), (1, .int a1), (2, .int a2), (3, .int a3)]) C.1 C.2.1 dX10_lane_54 hl (by decide) rfl (fun ls hl => ?_)
        refine lv_iconst (v := (0 : Int32)) C.1 C.2.1 dX10_lane_56 (by decide) ?_
        refine lv_istore (lv' := [(6, .int (0 : Int32)), (5, .int r51), (4, .int x4_46), (0, .ref (ad 0)), (1, .int a1), (2, .int a2), (3, .int a3)]) C.1 C.2.1 dX10_lane_57 hl (by decide) rfl (fun ls hl => ?_)
        refine lv_iconst (v := (0 : Int32)) C.1 C.2.1 dX10_lane_59 (by decide) ?_
        refine lv_istore (lv' := [(7, .int (0 : Int32)), (6, .int (0 : Int32)), (5, .int r51), (4, .int x4_46), (0, .ref (ad 0)), (1, .int a1), (2, .int a2), (3, .int a3)]) C.1 C.2.1 dX10_lane_60 hl (by decide) rfl (fun ls hl => ?_)
        exact hB62 F _ _ _ ls _ _ _ _ _ _ _ hP hD hS (lv_sub hl [4, 5, 6, 7, 3, 2, 1, 0] rfl) hf
      · have hf := br_p c33 hf
        refine lv_sipush (v := (-1002 : Int32)) C.1 C.2.1 dX10_lane_36 (by decide) ?_
        obtain ⟨rfl, rfl⟩ := Prod.mk.inj (Option.some.inj hf)
        exact KW.iret C hr hlk hK hAe hP hD hS rfl dX10_lane_39
    · have hf := br_p c20 hf
      exact hB23 _ _ _ ls hP hD hS (lv_sub hl [0] rfl) hf
def fm_writes (F : Nat) (σ : MS) (x1 : Int32) : Option (MS) :=
  gd (ix (ms_outMany σ) 400 = true) (lt (st_out σ (ms_outMany σ) x1) (fun σ9 => lt (ms_outMany_s σ9 ((ms_outMany σ9) + (1 : Int32))) (fun σ17 => some σ17)))
set_option maxHeartbeats 4000000 in
set_option maxRecDepth 100000 in
theorem km_writes (l : Launch) (D : va_G) (cA : Nat → ClassId) (ad : Nat → Nat) (σ0 : MS) (F : Nat) (a1 : Int32) (σr : MS) (hf : fm_writes F σ0 a1 = some σr) : KW l D (tyG cA) yX10_writes cX10_writes 2 none (rmk 0 0) (wM cA ad σ0) [.ref (ad 0), .int a1] none (wM cA ad σr) := by
  refine KW.of (by decide) (Nat.le_of_ble_eq_true rfl) ?_
  intro p e s m below meth c A hAe hA C hr hlk hK hP hD hS ls hl
  have hl : lv_has ls 2 [(0, .ref (ad 0)), (1, .int a1)] := hl
  unfold fm_writes at hf
  refine lv_aload_n C.1 C.2.1 dX10_writes_0 rfl (lv_at hl 0 rfl) ?_
  refine gm_out C hK hP dX10_writes_1 ?_
  refine lv_aload_n C.1 C.2.1 dX10_writes_4 rfl (lv_at hl 0 rfl) ?_
  refine gm_outMany C hK hP dX10_writes_5 ?_
  refine lv_iload_n C.1 C.2.1 dX10_writes_8 rfl (lv_at hl 1 rfl) ?_
  obtain ⟨hi9, hf⟩ := gd_some hf
  replace hf := lt_e hf
  refine sm_out C hK hP hD hS hi9 dX10_writes_9 (fun H locs hP hD hS => ?_)
  refine lv_aload_n C.1 C.2.1 dX10_writes_10 rfl (lv_at hl 0 rfl) ?_
  refine lv_dup C.1 C.2.1 dX10_writes_11 rfl ?_
  refine gm_outMany C hK hP dX10_writes_12 ?_
  refine lv_iconst (v := (1 : Int32)) C.1 C.2.1 dX10_writes_15 (by decide) ?_
  refine lv_iadd C.1 C.2.1 dX10_writes_16 ?_
  replace hf := lt_e hf
  refine pm_outMany C hK hP hD hS dX10_writes_17 (fun H locs hP hD hS => ?_)
  obtain rfl := Option.some.inj hf
  exact KW.vret C hr hlk hK hAe hP hD hS rfl dX10_writes_20
def fm_number_L17 (F : Nat) (σ : MS) (x1 : Int32) : Option (MS) :=
  bd (fm_writes F σ ((48 : Int32) + (x1 - x1 / (10 : Int32) * (10 : Int32)))) (fun σ25 => some σ25)
def fm_number (F : Nat) (σ : MS) (x1 : Int32) : Option (MS) :=
  if x1 ≤ (9 : Int32) then (fm_number_L17 F σ x1) else (bd (fm_writes F σ ((48 : Int32) + (x1 / (10 : Int32)))) (fun σ14 => fm_number_L17 F σ14 x1))
set_option maxHeartbeats 4000000 in
set_option maxRecDepth 100000 in
theorem km_number (l : Launch) (D : va_G) (cA : Nat → ClassId) (ad : Nat → Nat) (σ0 : MS) (F : Nat) (a1 : Int32) (σr : MS) (hf : fm_number F σ0 a1 = some σr) : KW l D (tyG cA) yX10_number cX10_number 2 none (rmk 1 21) (wM cA ad σ0) [.ref (ad 0), .int a1] none (wM cA ad σr) := by
  refine KW.of (by decide) (Nat.le_of_ble_eq_true rfl) ?_
  intro p e s m below meth c A hAe hA C hr hlk hK hP hD hS ls hl
  have hl : lv_has ls 2 [(0, .ref (ad 0)), (1, .int a1)] := hl
  have hB17 : ∀ (H : Heap) (locs : List Loc) (σ : MS) (ls : Array Slot) (x1 : Int32), va_P D vwCl (wM cA ad σ) H → va_D A (wM cA ad σ) → va_S A s.heap H locs → lv_has ls 2 [(0, .ref (ad 0)), (1, .int x1)] → fm_number_L17 F σ x1 = some σr → WQ p l e 1 21 s m [.ref (ad 0), .int a1] below meth c none D (tyG cA) (wM cA ad σ0) (wM cA ad σr) A H locs (F0 m 17 ls []) := by
    intro H locs σ ls x1 hP hD hS hl hf
    unfold fm_number_L17 at hf
    refine lv_aload_n C.1 C.2.1 dX10_number_17 rfl (lv_at hl 0 rfl) ?_
    refine lv_bipush (v := (48 : Int32)) C.1 C.2.1 dX10_number_18 (by decide) ?_
    refine lv_iload_n C.1 C.2.1 dX10_number_20 rfl (lv_at hl 1 rfl) ?_
    refine lv_bipush (v := (10 : Int32)) C.1 C.2.1 dX10_number_21 (by decide) ?_
    refine lv_irem C.1 C.2.1 dX10_number_23 (by decide) ?_
    refine lv_iadd C.1 C.2.1 dX10_number_24 ?_
    obtain ⟨σ25, hc25, hf⟩ := bd_some hf
    refine callWV (As := [_]) C hK hP hD hA hS wv_X10_244 hl (km_writes l D cA ad _ F _ σ25 hc25) (rcM hK hP) rfl rfl rfl (Nat.le_of_ble_eq_true rfl) ⟨Nat.le_refl _, Nat.le_refl _⟩ dX10_number_25 (fun H locs hP hD hS => ?_)
    obtain rfl := Option.some.inj hf
    exact KW.vret C hr hlk hK hAe hP hD hS rfl dX10_number_28
  unfold fm_number at hf
  refine lv_iload_n C.1 C.2.1 dX10_number_0 rfl (lv_at hl 1 rfl) ?_
  refine lv_bipush (v := (9 : Int32)) C.1 C.2.1 dX10_number_1 (by decide) ?_
  refine lv_icmp_le (tgt := 17) C.1 C.2.1 dX10_number_3 (by decide) (fun c3 => ?_) (fun c3 => ?_)
  · have hf := br_p c3 hf
    exact hB17 _ _ _ ls _ hP hD hS (lv_sub hl [0, 1] rfl) hf
  · have hf := br_n c3 hf
    refine lv_aload_n C.1 C.2.1 dX10_number_6 rfl (lv_at hl 0 rfl) ?_
    refine lv_bipush (v := (48 : Int32)) C.1 C.2.1 dX10_number_7 (by decide) ?_
    refine lv_iload_n C.1 C.2.1 dX10_number_9 rfl (lv_at hl 1 rfl) ?_
    refine lv_bipush (v := (10 : Int32)) C.1 C.2.1 dX10_number_10 (by decide) ?_
    refine lv_idiv C.1 C.2.1 dX10_number_12 (by decide) ?_
    refine lv_iadd C.1 C.2.1 dX10_number_13 ?_
    obtain ⟨σ14, hc14, hf⟩ := bd_some hf
    refine callWV (As := [_]) C hK hP hD hA hS wv_X10_244 hl (km_writes l D cA ad _ F _ σ14 hc14) (rcM hK hP) rfl rfl rfl (Nat.le_of_ble_eq_true rfl) ⟨Nat.le_refl _, Nat.le_refl _⟩ dX10_number_14 (fun H locs hP hD hS => ?_)
    exact hB17 _ _ _ ls _ hP hD hS (lv_sub hl [0, 1] rfl) hf
def fm_write_L118 (F : Nat) (k63 : MS → Int32 → Int32 → Option (Int32 × MS)) (σ : MS) (x1 : Int32) (x2 : Int32) (s0 : Int32) : Option (Int32 × MS) :=
  bd (fm_number F σ s0) (fun σ118 => lt (x2 + (1 : Int32)) (fun x2_121 => k63 σ118 x1 x2_121))
def fm_write_L91 (F : Nat) (k63 : MS → Int32 → Int32 → Option (Int32 × MS)) (σ : MS) (x1 : Int32) (x2 : Int32) (x3 : Int32) (s0 : Int32) : Option (Int32 × MS) :=
  bd (fm_writes F σ s0) (fun σ91 => if x3 = 0 then (bd (fm_cornerY F σ91 x1 (x2 + (1 : Int32))) (fun r115 => fm_write_L118 F k63 σ91 x1 x2 r115)) else (bd (fm_cornerX F σ91 x1 (x2 + (1 : Int32))) (fun r104 => fm_write_L118 F k63 σ91 x1 x2 r104)))
def fm_write_L63_c (F : Nat) (k63 : MS → Int32 → Int32 → Option (Int32 × MS)) (σ : MS) (x1 : Int32) (x2 : Int32) : Option (Int32 × MS) :=
  bd (fm_segments F σ x1) (fun r66 => if r66 ≤ x2 then (some ((ms_outMany σ), σ)) else (bd (fm_isFlat F σ x1 x2) (fun r75 => if r75 = 0 then (fm_write_L91 F k63 σ x1 x2 r75 (86 : Int32)) else (fm_write_L91 F k63 σ x1 x2 r75 (72 : Int32)))))
def fm_write_L63 (F : Nat) (n : Nat) (σ : MS) (x1 : Int32) (x2 : Int32) : Option (Int32 × MS) := lpN (fun (k : MS × Int32 × Int32 → Option (Int32 × MS)) a => fm_write_L63_c F (fun σ x1 x2 => k (σ, x1, x2)) a.1 a.2.1 a.2.2) n (σ, x1, x2)
def fm_write (F : Nat) (σ : MS) (x1 : Int32) : Option (Int32 × MS) :=
  bd (fm_isLink F σ x1) (fun r2 => if r2 = 0 then (some ((-1001 : Int32), σ)) else (bd (fm_hasRoute F σ x1) (fun r14 => if r14 = 0 then (some ((-1003 : Int32), σ)) else (lt (ms_outMany_s σ (0 : Int32)) (fun σ26 => bd (fm_writes F σ26 (77 : Int32)) (fun σ32 => bd (fm_cornerX F σ32 x1 (0 : Int32)) (fun r39 => bd (fm_number F σ32 r39) (fun σ42 => bd (fm_writes F σ42 (44 : Int32)) (fun σ48 => bd (fm_cornerY F σ48 x1 (0 : Int32)) (fun r55 => bd (fm_number F σ48 r55) (fun σ58 => fm_write_L63 F F σ58 x1 (0 : Int32))))))))))))
set_option maxHeartbeats 4000000 in
set_option maxRecDepth 100000 in
theorem km_write (l : Launch) (D : va_G) (cA : Nat → ClassId) (ad : Nat → Nat) (σ0 : MS) (F : Nat) (a1 : Int32) (r : Int32) (σr : MS) (hf : fm_write F σ0 a1 = some (r, σr)) : KW l D (tyG cA) yX10_write cX10_write 4 (some .int) (rmk 3 66) (wM cA ad σ0) [.ref (ad 0), .int a1] (some (.int r)) (wM cA ad σr) := by
  refine KW.of (by decide) (Nat.le_of_ble_eq_true rfl) ?_
  intro p e s m below meth c A hAe hA C hr hlk hK hP hD hS ls hl
  have hl : lv_has ls 4 [(0, .ref (ad 0)), (1, .int a1)] := hl
  have hB63 : ∀ (n63 : Nat) (H : Heap) (locs : List Loc) (σ : MS) (ls : Array Slot) (x1 : Int32) (x2 : Int32), va_P D vwCl (wM cA ad σ) H → va_D A (wM cA ad σ) → va_S A s.heap H locs → lv_has ls 4 [(0, .ref (ad 0)), (1, .int x1), (2, .int x2)] → fm_write_L63 F n63 σ x1 x2 = some (r, σr) → WQ p l e 3 66 s m [.ref (ad 0), .int a1] below meth c (some (.int r)) D (tyG cA) (wM cA ad σ0) (wM cA ad σr) A H locs (F0 m 63 ls []) := by
    intro n63
    induction n63 with
    | zero =>
      intro H locs σ ls x1 x2 hP hD hS hl hf
      cases (show (none : Option _) = _ from hf)
    | succ n63 ih63 =>
      have hB118 : ∀ (H : Heap) (locs : List Loc) (σ : MS) (ls : Array Slot) (x1 : Int32) (x2 : Int32) (s0 : Int32), va_P D vwCl (wM cA ad σ) H → va_D A (wM cA ad σ) → va_S A s.heap H locs → lv_has ls 4 [(0, .ref (ad 0)), (1, .int x1), (2, .int x2)] → fm_write_L118 F (fm_write_L63 F n63) σ x1 x2 s0 = some (r, σr) → WQ p l e 3 66 s m [.ref (ad 0), .int a1] below meth c (some (.int r)) D (tyG cA) (wM cA ad σ0) (wM cA ad σr) A H locs (F0 m 118 ls [.int s0, .ref (ad 0)]) := by
        intro H locs σ ls x1 x2 s0 hP hD hS hl hf
        unfold fm_write_L118 at hf
        obtain ⟨σ118, hc118, hf⟩ := bd_some hf
        refine callWV (As := [_]) C hK hP hD hA hS wv_X10_247 hl (km_number l D cA ad _ F _ σ118 hc118) (rcM hK hP) rfl rfl rfl (Nat.le_of_ble_eq_true rfl) ⟨Nat.le_refl _, Nat.le_refl _⟩ dX10_write_118 (fun H locs hP hD hS => ?_)
        obtain ⟨x2_121, ex2_121, hf⟩ := lt_some hf
        refine lv_iinc (v := x2_121) (lv' := [(2, .int x2_121), (0, .ref (ad 0)), (1, .int x1)]) C.1 C.2.1 dX10_write_121 hl (k := 2) rfl (by rw [ex2_121]; rfl) (by decide) rfl (fun ls hl => ?_)
        refine lv_goto (tgt := 63) C.1 C.2.1 dX10_write_124 (by decide) ?_
        exact ih63 _ _ _ ls _ _ hP hD hS (lv_sub hl [1, 2, 0] rfl) hf
      have hB91 : ∀ (H : Heap) (locs : List Loc) (σ : MS) (ls : Array Slot) (x1 : Int32) (x2 : Int32) (x3 : Int32) (s0 : Int32), va_P D vwCl (wM cA ad σ) H → va_D A (wM cA ad σ) → va_S A s.heap H locs → lv_has ls 4 [(0, .ref (ad 0)), (1, .int x1), (2, .int x2), (3, .int x3)] → fm_write_L91 F (fm_write_L63 F n63) σ x1 x2 x3 s0 = some (r, σr) → WQ p l e 3 66 s m [.ref (ad 0), .int a1] below meth c (some (.int r)) D (tyG cA) (wM cA ad σ0) (wM cA ad σr) A H locs (F0 m 91 ls [.int s0, .ref (ad 0)]) := by
        intro H locs σ ls x1 x2 x3 s0 hP hD hS hl hf
        unfold fm_write_L91 at hf
        obtain ⟨σ91, hc91, hf⟩ := bd_some hf
        refine callWV (As := [_]) C hK hP hD hA hS wv_X10_244 hl (km_writes l D cA ad _ F _ σ91 hc91) (rcM hK hP) rfl rfl rfl (Nat.le_of_ble_eq_true rfl) ⟨Nat.le_refl _, Nat.le_refl _⟩ dX10_write_91 (fun H locs hP hD hS => ?_)
        refine lv_aload_n C.1 C.2.1 dX10_write_94 rfl (lv_at hl 0 rfl) ?_
        refine lv_iload_n C.1 C.2.1 dX10_write_95 rfl (lv_at hl 3 rfl) ?_
        refine lv_if_eq (tgt := 110) C.1 C.2.1 dX10_write_96 (by decide) (fun c96 => ?_) (fun c96 => ?_)
        · have hf := br_p c96 hf
          refine lv_aload_n C.1 C.2.1 dX10_write_110 rfl (lv_at hl 0 rfl) ?_
          refine lv_iload_n C.1 C.2.1 dX10_write_111 rfl (lv_at hl 1 rfl) ?_
          refine lv_iload_n C.1 C.2.1 dX10_write_112 rfl (lv_at hl 2 rfl) ?_
          refine lv_iconst (v := (1 : Int32)) C.1 C.2.1 dX10_write_113 (by decide) ?_
          refine lv_iadd C.1 C.2.1 dX10_write_114 ?_
          obtain ⟨r115, hc115, hf⟩ := bd_some hf
          refine callRV (As := [_, _]) C hK hP wv_X10_124 hl (km_cornerY l D cA ad _ F _ _ r115 hc115) (rcM hK hP) rfl rfl rfl (Nat.le_of_ble_eq_true rfl) ⟨Nat.le_refl _, Nat.le_refl _⟩ dX10_write_115 ?_
          exact hB118 _ _ _ ls _ _ _ hP hD hS (lv_sub hl [0, 1, 2] rfl) hf
        · have hf := br_n c96 hf
          refine lv_aload_n C.1 C.2.1 dX10_write_99 rfl (lv_at hl 0 rfl) ?_
          refine lv_iload_n C.1 C.2.1 dX10_write_100 rfl (lv_at hl 1 rfl) ?_
          refine lv_iload_n C.1 C.2.1 dX10_write_101 rfl (lv_at hl 2 rfl) ?_
          refine lv_iconst (v := (1 : Int32)) C.1 C.2.1 dX10_write_102 (by decide) ?_
          refine lv_iadd C.1 C.2.1 dX10_write_103 ?_
          obtain ⟨r104, hc104, hf⟩ := bd_some hf
          refine callRV (As := [_, _]) C hK hP wv_X10_117 hl (km_cornerX l D cA ad _ F _ _ r104 hc104) (rcM hK hP) rfl rfl rfl (Nat.le_of_ble_eq_true rfl) ⟨Nat.le_refl _, Nat.le_refl _⟩ dX10_write_104 ?_
          refine lv_goto (tgt := 118) C.1 C.2.1 dX10_write_107 (by decide) ?_
          exact hB118 _ _ _ ls _ _ _ hP hD hS (lv_sub hl [0, 1, 2] rfl) hf
      intro H locs σ ls x1 x2 hP hD hS hl hf
      have hf : fm_write_L63_c F (fm_write_L63 F n63) σ x1 x2 = some (r, σr) := hf
      unfold fm_write_L63_c at hf
      refine lv_iload_n C.1 C.2.1 dX10_write_63 rfl (lv_at hl 2 rfl) ?_
      refine lv_aload_n C.1 C.2.1 dX10_write_64 rfl (lv_at hl 0 rfl) ?_
      refine lv_iload_n C.1 C.2.1 dX10_write_65 rfl (lv_at hl 1 rfl) ?_
      obtain ⟨r66, hc66, hf⟩ := bd_some hf
      refine callRV (As := [_]) C hK hP wv_X10_213 hl (km_segments l D cA ad _ F _ r66 hc66) (rcM hK hP) rfl rfl rfl (Nat.le_of_ble_eq_true rfl) ⟨Nat.le_refl _, Nat.le_refl _⟩ dX10_write_66 ?_
      refine lv_icmp_ge (tgt := 127) C.1 C.2.1 dX10_write_69 (by decide) (fun c69 => ?_) (fun c69 => ?_)
      · have hf := br_p c69 hf
        refine lv_aload_n C.1 C.2.1 dX10_write_127 rfl (lv_at hl 0 rfl) ?_
        refine gm_outMany C hK hP dX10_write_128 ?_
        obtain ⟨rfl, rfl⟩ := Prod.mk.inj (Option.some.inj hf)
        exact KW.iret C hr hlk hK hAe hP hD hS rfl dX10_write_131
      · have hf := br_n c69 hf
        refine lv_aload_n C.1 C.2.1 dX10_write_72 rfl (lv_at hl 0 rfl) ?_
        refine lv_iload_n C.1 C.2.1 dX10_write_73 rfl (lv_at hl 1 rfl) ?_
        refine lv_iload_n C.1 C.2.1 dX10_write_74 rfl (lv_at hl 2 rfl) ?_
        obtain ⟨r75, hc75, hf⟩ := bd_some hf
        refine callRV (As := [_, _]) C hK hP wv_X10_216 hl (km_isFlat l D cA ad _ F _ _ r75 hc75) (rcM hK hP) rfl rfl rfl (Nat.le_of_ble_eq_true rfl) ⟨Nat.le_refl _, Nat.le_refl _⟩ dX10_write_75 ?_
        refine lv_istore_n (lv' := [(3, .int r75), (0, .ref (ad 0)), (1, .int x1), (2, .int x2)]) C.1 C.2.1 dX10_write_78 rfl hl (by decide) rfl (fun ls hl => ?_)
        refine lv_aload_n C.1 C.2.1 dX10_write_79 rfl (lv_at hl 1 rfl) ?_
        refine lv_iload_n C.1 C.2.1 dX10_write_80 rfl (lv_at hl 0 rfl) ?_
        refine lv_if_eq (tgt := 89) C.1 C.2.1 dX10_write_81 (by decide) (fun c81 => ?_) (fun c81 => ?_)
        · have hf := br_p c81 hf
          refine lv_bipush (v := (86 : Int32)) C.1 C.2.1 dX10_write_89 (by decide) ?_
          exact hB91 _ _ _ ls _ _ _ _ hP hD hS (lv_sub hl [1, 2, 3, 0] rfl) hf
        · have hf := br_n c81 hf
          refine lv_bipush (v := (72 : Int32)) C.1 C.2.1 dX10_write_84 (by decide) ?_
          refine lv_goto (tgt := 91) C.1 C.2.1 dX10_write_86 (by decide) ?_
          exact hB91 _ _ _ ls _ _ _ _ hP hD hS (lv_sub hl [1, 2, 3, 0] rfl) hf
  unfold fm_write at hf
  refine lv_aload_n C.1 C.2.1 dX10_write_0 rfl (lv_at hl 0 rfl) ?_
  refine lv_iload_n C.1 C.2.1 dX10_write_1 rfl (lv_at hl 1 rfl) ?_
  obtain ⟨r2, hc2, hf⟩ := bd_some hf
  refine callRV (As := [_]) C hK hP wv_X10_111 hl (km_isLink l D cA ad _ F _ r2 hc2) (rcM hK hP) rfl rfl rfl (Nat.le_of_ble_eq_true rfl) ⟨Nat.le_refl _, Nat.le_refl _⟩ dX10_write_2 ?_
  refine lv_if_ne (tgt := 12) C.1 C.2.1 dX10_write_5 (by decide) (fun c5 => ?_) (fun c5 => ?_)
  · have hf := br_n c5 hf
    refine lv_aload_n C.1 C.2.1 dX10_write_12 rfl (lv_at hl 0 rfl) ?_
    refine lv_iload_n C.1 C.2.1 dX10_write_13 rfl (lv_at hl 1 rfl) ?_
    obtain ⟨r14, hc14, hf⟩ := bd_some hf
    refine callRV (As := [_]) C hK hP wv_X10_114 hl (km_hasRoute l D cA ad _ F _ r14 hc14) (rcM hK hP) rfl rfl rfl (Nat.le_of_ble_eq_true rfl) ⟨Nat.le_refl _, Nat.le_refl _⟩ dX10_write_14 ?_
    refine lv_if_ne (tgt := 24) C.1 C.2.1 dX10_write_17 (by decide) (fun c17 => ?_) (fun c17 => ?_)
    · have hf := br_n c17 hf
      refine lv_aload_n C.1 C.2.1 dX10_write_24 rfl (lv_at hl 0 rfl) ?_
      refine lv_iconst (v := (0 : Int32)) C.1 C.2.1 dX10_write_25 (by decide) ?_
      replace hf := lt_e hf
      refine pm_outMany C hK hP hD hS dX10_write_26 (fun H locs hP hD hS => ?_)
      refine lv_aload_n C.1 C.2.1 dX10_write_29 rfl (lv_at hl 0 rfl) ?_
      refine lv_bipush (v := (77 : Int32)) C.1 C.2.1 dX10_write_30 (by decide) ?_
      obtain ⟨σ32, hc32, hf⟩ := bd_some hf
      refine callWV (As := [_]) C hK hP hD hA hS wv_X10_244 hl (km_writes l D cA ad _ F _ σ32 hc32) (rcM hK hP) rfl rfl rfl (Nat.le_of_ble_eq_true rfl) ⟨Nat.le_refl _, Nat.le_refl _⟩ dX10_write_32 (fun H locs hP hD hS => ?_)
      refine lv_aload_n C.1 C.2.1 dX10_write_35 rfl (lv_at hl 0 rfl) ?_
      refine lv_aload_n C.1 C.2.1 dX10_write_36 rfl (lv_at hl 0 rfl) ?_
      refine lv_iload_n C.1 C.2.1 dX10_write_37 rfl (lv_at hl 1 rfl) ?_
      refine lv_iconst (v := (0 : Int32)) C.1 C.2.1 dX10_write_38 (by decide) ?_
      obtain ⟨r39, hc39, hf⟩ := bd_some hf
      refine callRV (As := [_, _]) C hK hP wv_X10_117 hl (km_cornerX l D cA ad _ F _ _ r39 hc39) (rcM hK hP) rfl rfl rfl (Nat.le_of_ble_eq_true rfl) ⟨Nat.le_refl _, Nat.le_refl _⟩ dX10_write_39 ?_
      obtain ⟨σ42, hc42, hf⟩ := bd_some hf
      refine callWV (As := [_]) C hK hP hD hA hS wv_X10_247 hl (km_number l D cA ad _ F _ σ42 hc42) (rcM hK hP) rfl rfl rfl (Nat.le_of_ble_eq_true rfl) ⟨Nat.le_refl _, Nat.le_refl _⟩ dX10_write_42 (fun H locs hP hD hS => ?_)
      refine lv_aload_n C.1 C.2.1 dX10_write_45 rfl (lv_at hl 0 rfl) ?_
      refine lv_bipush (v := (44 : Int32)) C.1 C.2.1 dX10_write_46 (by decide) ?_
      obtain ⟨σ48, hc48, hf⟩ := bd_some hf
      refine callWV (As := [_]) C hK hP hD hA hS wv_X10_244 hl (km_writes l D cA ad _ F _ σ48 hc48) (rcM hK hP) rfl rfl rfl (Nat.le_of_ble_eq_true rfl) ⟨Nat.le_refl _, Nat.le_refl _⟩ dX10_write_48 (fun H locs hP hD hS => ?_)
      refine lv_aload_n C.1 C.2.1 dX10_write_51 rfl (lv_at hl 0 rfl) ?_
      refine lv_aload_n C.1 C.2.1 dX10_write_52 rfl (lv_at hl 0 rfl) ?_
      refine lv_iload_n C.1 C.2.1 dX10_write_53 rfl (lv_at hl 1 rfl) ?_
      refine lv_iconst (v := (0 : Int32)) C.1 C.2.1 dX10_write_54 (by decide) ?_
      obtain ⟨r55, hc55, hf⟩ := bd_some hf
      refine callRV (As := [_, _]) C hK hP wv_X10_124 hl (km_cornerY l D cA ad _ F _ _ r55 hc55) (rcM hK hP) rfl rfl rfl (Nat.le_of_ble_eq_true rfl) ⟨Nat.le_refl _, Nat.le_refl _⟩ dX10_write_55 ?_
      obtain ⟨σ58, hc58, hf⟩ := bd_some hf
      refine callWV (As := [_]) C hK hP hD hA hS wv_X10_247 hl (km_number l D cA ad _ F _ σ58 hc58) (rcM hK hP) rfl rfl rfl (Nat.le_of_ble_eq_true rfl) ⟨Nat.le_refl _, Nat.le_refl _⟩ dX10_write_58 (fun H locs hP hD hS => ?_)
      refine lv_iconst (v := (0 : Int32)) C.1 C.2.1 dX10_write_61 (by decide) ?_
      refine lv_istore_n (lv' := [(2, .int (0 : Int32)), (0, .ref (ad 0)), (1, .int a1)]) C.1 C.2.1 dX10_write_62 rfl hl (by decide) rfl (fun ls hl => ?_)
      exact hB63 F _ _ _ ls _ _ hP hD hS (lv_sub hl [1, 2, 0] rfl) hf
    · have hf := br_p c17 hf
      refine lv_sipush (v := (-1003 : Int32)) C.1 C.2.1 dX10_write_20 (by decide) ?_
      obtain ⟨rfl, rfl⟩ := Prod.mk.inj (Option.some.inj hf)
      exact KW.iret C hr hlk hK hAe hP hD hS rfl dX10_write_23
  · have hf := br_p c5 hf
    refine lv_sipush (v := (-1001 : Int32)) C.1 C.2.1 dX10_write_8 (by decide) ?_
    obtain ⟨rfl, rfl⟩ := Prod.mk.inj (Option.some.inj hf)
    exact KW.iret C hr hlk hK hAe hP hD hS rfl dX10_write_11
def fm_written_L26 (F : Nat) (σ : MS) (s0 : Int32) : Option (Int32) :=
  some s0
def fm_written (F : Nat) (σ : MS) (x1 : Int32) : Option (Int32) :=
  bd (fm_in F x1 (0 : Int32) ((ms_outMany σ) - (1 : Int32))) (fun r8 => if r8 = 0 then (fm_written_L26 F σ (-1001 : Int32)) else (gd (ix x1 400 = true) (fm_written_L26 F σ (ms_out σ x1.toNatClampNeg))))
set_option maxHeartbeats 4000000 in
set_option maxRecDepth 100000 in
theorem km_written (l : Launch) (D : va_G) (cA : Nat → ClassId) (ad : Nat → Nat) (σ : MS) (F : Nat) (a1 : Int32) (r : Int32) (hf : fm_written F σ a1 = some r) : KR l D (tyG cA) yX10_written cX10_written 2 (some .int) (rmk 1 22) (wM cA ad σ) [.ref (ad 0), .int a1] r := by
  refine KR.of (by decide) (Nat.le_of_ble_eq_true rfl) ?_
  intro p e s m below meth c C hr hlk hK hP ls hl
  have hl : lv_has ls 2 [(0, .ref (ad 0)), (1, .int a1)] := hl
  have hB26 : ∀ (ls : Array Slot) (s0 : Int32), lv_has ls 2 [(0, .ref (ad 0))] → fm_written_L26 F σ s0 = some r → WR p l e 1 22 s m [.ref (ad 0), .int a1] below meth c r (F0 m 26 ls [.int s0]) := by
    intro ls s0 hl hf
    unfold fm_written_L26 at hf
    exact KR.iret C hr hlk (Option.some.inj hf) dX10_written_26
  unfold fm_written at hf
  refine lv_iload_n C.1 C.2.1 dX10_written_0 rfl (lv_at hl 1 rfl) ?_
  refine lv_iconst (v := (0 : Int32)) C.1 C.2.1 dX10_written_1 (by decide) ?_
  refine lv_aload_n C.1 C.2.1 dX10_written_2 rfl (lv_at hl 0 rfl) ?_
  refine gm_outMany C hK hP dX10_written_3 ?_
  refine lv_iconst (v := (1 : Int32)) C.1 C.2.1 dX10_written_6 (by decide) ?_
  refine lv_isub C.1 C.2.1 dX10_written_7 ?_
  obtain ⟨r8, hc8, hf⟩ := bd_some hf
  refine callRS (As := [_, _, _]) C hK hP wv_X10_68 hl (km_in l D cA _ F _ _ _ r8 hc8) rfl rfl rfl (Nat.le_of_ble_eq_true rfl) ⟨Nat.le_refl _, Nat.le_refl _⟩ dX10_written_8 ?_
  refine lv_if_eq (tgt := 23) C.1 C.2.1 dX10_written_11 (by decide) (fun c11 => ?_) (fun c11 => ?_)
  · have hf := br_p c11 hf
    refine lv_sipush (v := (-1001 : Int32)) C.1 C.2.1 dX10_written_23 (by decide) ?_
    exact hB26 ls _ (lv_sub hl [0] rfl) hf
  · have hf := br_n c11 hf
    refine lv_aload_n C.1 C.2.1 dX10_written_14 rfl (lv_at hl 0 rfl) ?_
    refine gm_out C hK hP dX10_written_15 ?_
    refine lv_iload_n C.1 C.2.1 dX10_written_18 rfl (lv_at hl 1 rfl) ?_
    obtain ⟨hi19, hf⟩ := gd_some hf
    refine lm_out C hK hP hi19 dX10_written_19 ?_
    refine lv_goto (tgt := 26) C.1 C.2.1 dX10_written_20 (by decide) ?_
    exact hB26 ls _ (lv_sub hl [0] rfl) hf
def fm_type (F : Nat) (σ : MS) (x1 : Int32) : Option (Int32 × MS) :=
  bd (fm_in F x1 (0 : Int32) (255 : Int32)) (fun r5 => if r5 = 0 then (some ((-1002 : Int32), σ)) else (if (ms_length σ) = (120 : Int32) then (some ((-1004 : Int32), σ)) else (gd (ix (ms_length σ) 120 = true) (lt (st_text σ (ms_length σ) x1) (fun σ37 => lt (ms_length_s σ37 ((ms_length σ37) + (1 : Int32))) (fun σ45 => some ((ms_length σ45), σ45)))))))
set_option maxHeartbeats 4000000 in
set_option maxRecDepth 100000 in
theorem km_type (l : Launch) (D : va_G) (cA : Nat → ClassId) (ad : Nat → Nat) (σ0 : MS) (F : Nat) (a1 : Int32) (r : Int32) (σr : MS) (hf : fm_type F σ0 a1 = some (r, σr)) : KW l D (tyG cA) yX10_type cX10_type 2 (some .int) (rmk 1 22) (wM cA ad σ0) [.ref (ad 0), .int a1] (some (.int r)) (wM cA ad σr) := by
  refine KW.of (by decide) (Nat.le_of_ble_eq_true rfl) ?_
  intro p e s m below meth c A hAe hA C hr hlk hK hP hD hS ls hl
  have hl : lv_has ls 2 [(0, .ref (ad 0)), (1, .int a1)] := hl
  unfold fm_type at hf
  refine lv_iload_n C.1 C.2.1 dX10_type_0 rfl (lv_at hl 1 rfl) ?_
  refine lv_iconst (v := (0 : Int32)) C.1 C.2.1 dX10_type_1 (by decide) ?_
  refine lv_sipush (v := (255 : Int32)) C.1 C.2.1 dX10_type_2 (by decide) ?_
  obtain ⟨r5, hc5, hf⟩ := bd_some hf
  refine callRS (As := [_, _, _]) C hK hP wv_X10_68 hl (km_in l D cA _ F _ _ _ r5 hc5) rfl rfl rfl (Nat.le_of_ble_eq_true rfl) ⟨Nat.le_refl _, Nat.le_refl _⟩ dX10_type_5 ?_
  refine lv_if_ne (tgt := 15) C.1 C.2.1 dX10_type_8 (by decide) (fun c8 => ?_) (fun c8 => ?_)
  · have hf := br_n c8 hf
    refine lv_aload_n C.1 C.2.1 dX10_type_15 rfl (lv_at hl 0 rfl) ?_
    refine gm_length C hK hP dX10_type_16 ?_
    refine lv_bipush (v := (120 : Int32)) C.1 C.2.1 dX10_type_19 (by decide) ?_
    refine lv_icmp_ne (tgt := 28) C.1 C.2.1 dX10_type_21 (by decide) (fun c21 => ?_) (fun c21 => ?_)
    · have hf := br_n c21 hf
      refine lv_aload_n C.1 C.2.1 dX10_type_28 rfl (lv_at hl 0 rfl) ?_
      refine gm_text C hK hP dX10_type_29 ?_
      refine lv_aload_n C.1 C.2.1 dX10_type_32 rfl (lv_at hl 0 rfl) ?_
      refine gm_length C hK hP dX10_type_33 ?_
      refine lv_iload_n C.1 C.2.1 dX10_type_36 rfl (lv_at hl 1 rfl) ?_
      obtain ⟨hi37, hf⟩ := gd_some hf
      replace hf := lt_e hf
      refine sm_text C hK hP hD hS hi37 dX10_type_37 (fun H locs hP hD hS => ?_)
      refine lv_aload_n C.1 C.2.1 dX10_type_38 rfl (lv_at hl 0 rfl) ?_
      refine lv_dup C.1 C.2.1 dX10_type_39 rfl ?_
      refine gm_length C hK hP dX10_type_40 ?_
      refine lv_iconst (v := (1 : Int32)) C.1 C.2.1 dX10_type_43 (by decide) ?_
      refine lv_iadd C.1 C.2.1 dX10_type_44 ?_
      replace hf := lt_e hf
      refine pm_length C hK hP hD hS dX10_type_45 (fun H locs hP hD hS => ?_)
      refine lv_aload_n C.1 C.2.1 dX10_type_48 rfl (lv_at hl 0 rfl) ?_
      refine gm_length C hK hP dX10_type_49 ?_
      obtain ⟨rfl, rfl⟩ := Prod.mk.inj (Option.some.inj hf)
      exact KW.iret C hr hlk hK hAe hP hD hS rfl dX10_type_52
    · have hf := br_p c21 hf
      refine lv_sipush (v := (-1004 : Int32)) C.1 C.2.1 dX10_type_24 (by decide) ?_
      obtain ⟨rfl, rfl⟩ := Prod.mk.inj (Option.some.inj hf)
      exact KW.iret C hr hlk hK hAe hP hD hS rfl dX10_type_27
  · have hf := br_p c8 hf
    refine lv_sipush (v := (-1002 : Int32)) C.1 C.2.1 dX10_type_11 (by decide) ?_
    obtain ⟨rfl, rfl⟩ := Prod.mk.inj (Option.some.inj hf)
    exact KW.iret C hr hlk hK hAe hP hD hS rfl dX10_type_14
def fm_clearText (F : Nat) (σ : MS) : Option (Int32 × MS) :=
  lt (ms_length σ) (fun x1_4 => lt (ms_length_s σ (0 : Int32)) (fun σ7 => some (x1_4, σ7)))
set_option maxHeartbeats 4000000 in
set_option maxRecDepth 100000 in
theorem km_clearText (l : Launch) (D : va_G) (cA : Nat → ClassId) (ad : Nat → Nat) (σ0 : MS) (F : Nat)  (r : Int32) (σr : MS) (hf : fm_clearText F σ0  = some (r, σr)) : KW l D (tyG cA) yX10_clearText cX10_clearText 2 (some .int) (rmk 0 0) (wM cA ad σ0) [.ref (ad 0)] (some (.int r)) (wM cA ad σr) := by
  refine KW.of (by decide) (Nat.le_of_ble_eq_true rfl) ?_
  intro p e s m below meth c A hAe hA C hr hlk hK hP hD hS ls hl
  have hl : lv_has ls 2 [(0, .ref (ad 0))] := hl
  unfold fm_clearText at hf
  refine lv_aload_n C.1 C.2.1 dX10_clearText_0 rfl (lv_at hl 0 rfl) ?_
  refine gm_length C hK hP dX10_clearText_1 ?_
  obtain ⟨x1_4, ex1_4, hf⟩ := lt_some hf
  refine lv_tope ex1_4 ?_
  refine lv_istore_n (lv' := [(1, .int x1_4), (0, .ref (ad 0))]) C.1 C.2.1 dX10_clearText_4 rfl hl (by decide) rfl (fun ls hl => ?_)
  refine lv_aload_n C.1 C.2.1 dX10_clearText_5 rfl (lv_at hl 1 rfl) ?_
  refine lv_iconst (v := (0 : Int32)) C.1 C.2.1 dX10_clearText_6 (by decide) ?_
  replace hf := lt_e hf
  refine pm_length C hK hP hD hS dX10_clearText_7 (fun H locs hP hD hS => ?_)
  refine lv_iload_n C.1 C.2.1 dX10_clearText_10 rfl (lv_at hl 0 rfl) ?_
  obtain ⟨rfl, rfl⟩ := Prod.mk.inj (Option.some.inj hf)
  exact KW.iret C hr hlk hK hAe hP hD hS rfl dX10_clearText_11
def fm_here_L64 (F : Nat) (σ : MS) (s0 : Int32) : Option (Int32 × MS) :=
  some (s0, σ)
def fm_here_L38 (F : Nat) (σ : MS) : Option (Int32 × MS) :=
  if (ms_length σ) ≤ (ms_at σ) then (fm_here_L64 F σ (-1000 : Int32)) else (gd (ix (ms_at σ) 120 = true) (fm_here_L64 F σ (ms_text σ (ms_at σ).toNatClampNeg)))
def fm_here_L0_c (F : Nat) (k0 : MS → Option (Int32 × MS)) (σ : MS) : Option (Int32 × MS) :=
  if (ms_length σ) ≤ (ms_at σ) then (fm_here_L38 F σ) else (gd (ix (ms_at σ) 120 = true) (if (ms_text σ (ms_at σ).toNatClampNeg) = (32 : Int32) then (lt (ms_at_s σ ((ms_at σ) + (1 : Int32))) (fun σ32 => k0 σ32)) else (fm_here_L38 F σ)))
def fm_here_L0 (F : Nat) (n : Nat) (σ : MS) : Option (Int32 × MS) := lpN (fun (k : MS → Option (Int32 × MS)) a => fm_here_L0_c F (fun σ => k (σ)) a) n (σ)
def fm_here (F : Nat) (σ : MS) : Option (Int32 × MS) :=
  fm_here_L0 F F σ
set_option maxHeartbeats 4000000 in
set_option maxRecDepth 100000 in
theorem km_here (l : Launch) (D : va_G) (cA : Nat → ClassId) (ad : Nat → Nat) (σ0 : MS) (F : Nat)  (r : Int32) (σr : MS) (hf : fm_here F σ0  = some (r, σr)) : KW l D (tyG cA) yX10_here cX10_here 1 (some .int) (rmk 0 0) (wM cA ad σ0) [.ref (ad 0)] (some (.int r)) (wM cA ad σr) := by
  refine KW.of (by decide) (Nat.le_of_ble_eq_true rfl) ?_
  intro p e s m below meth c A hAe hA C hr hlk hK hP hD hS ls hl
  have hl : lv_has ls 1 [(0, .ref (ad 0))] := hl
  have hB64 : ∀ (H : Heap) (locs : List Loc) (σ : MS) (ls : Array Slot) (s0 : Int32), va_P D vwCl (wM cA ad σ) H → va_D A (wM cA ad σ) → va_S A s.heap H locs → lv_has ls 1 [(0, .ref (ad 0))] → fm_here_L64 F σ s0 = some (r, σr) → WQ p l e 0 0 s m [.ref (ad 0)] below meth c (some (.int r)) D (tyG cA) (wM cA ad σ0) (wM cA ad σr) A H locs (F0 m 64 ls [.int s0]) := by
    intro H locs σ ls s0 hP hD hS hl hf
    unfold fm_here_L64 at hf
    obtain ⟨rfl, rfl⟩ := Prod.mk.inj (Option.some.inj hf)
    exact KW.iret C hr hlk hK hAe hP hD hS rfl dX10_here_64
  have hB38 : ∀ (H : Heap) (locs : List Loc) (σ : MS) (ls : Array Slot), va_P D vwCl (wM cA ad σ) H → va_D A (wM cA ad σ) → va_S A s.heap H locs → lv_has ls 1 [(0, .ref (ad 0))] → fm_here_L38 F σ = some (r, σr) → WQ p l e 0 0 s m [.ref (ad 0)] below meth c (some (.int r)) D (tyG cA) (wM cA ad σ0) (wM cA ad σr) A H locs (F0 m 38 ls []) := by
    intro H locs σ ls hP hD hS hl hf
    unfold fm_here_L38 at hf
    refine lv_aload_n C.1 C.2.1 dX10_here_38 rfl (lv_at hl 0 rfl) ?_
    refine gm_at C hK hP dX10_here_39 ?_
    refine lv_aload_n C.1 C.2.1 dX10_here_42 rfl (lv_at hl 0 rfl) ?_
    refine gm_length C hK hP dX10_here_43 ?_
    refine lv_icmp_ge (tgt := 61) C.1 C.2.1 dX10_here_46 (by decide) (fun c46 => ?_) (fun c46 => ?_)
    · have hf := br_p c46 hf
      refine lv_sipush (v := (-1000 : Int32)) C.1 C.2.1 dX10_here_61 (by decide) ?_
      exact hB64 _ _ _ ls _ hP hD hS (lv_sub hl [0] rfl) hf
    · have hf := br_n c46 hf
      refine lv_aload_n C.1 C.2.1 dX10_here_49 rfl (lv_at hl 0 rfl) ?_
      refine gm_text C hK hP dX10_here_50 ?_
      refine lv_aload_n C.1 C.2.1 dX10_here_53 rfl (lv_at hl 0 rfl) ?_
      refine gm_at C hK hP dX10_here_54 ?_
      obtain ⟨hi57, hf⟩ := gd_some hf
      refine lm_text C hK hP hi57 dX10_here_57 ?_
      refine lv_goto (tgt := 64) C.1 C.2.1 dX10_here_58 (by decide) ?_
      exact hB64 _ _ _ ls _ hP hD hS (lv_sub hl [0] rfl) hf
  have hB0 : ∀ (n0 : Nat) (H : Heap) (locs : List Loc) (σ : MS) (ls : Array Slot), va_P D vwCl (wM cA ad σ) H → va_D A (wM cA ad σ) → va_S A s.heap H locs → lv_has ls 1 [(0, .ref (ad 0))] → fm_here_L0 F n0 σ = some (r, σr) → WQ p l e 0 0 s m [.ref (ad 0)] below meth c (some (.int r)) D (tyG cA) (wM cA ad σ0) (wM cA ad σr) A H locs (F0 m 0 ls []) := by
    intro n0
    induction n0 with
    | zero =>
      intro H locs σ ls hP hD hS hl hf
      cases (show (none : Option _) = _ from hf)
    | succ n0 ih0 =>
      intro H locs σ ls hP hD hS hl hf
      have hf : fm_here_L0_c F (fm_here_L0 F n0) σ = some (r, σr) := hf
      unfold fm_here_L0_c at hf
      refine lv_aload_n C.1 C.2.1 dX10_here_0 rfl (lv_at hl 0 rfl) ?_
      refine gm_at C hK hP dX10_here_1 ?_
      refine lv_aload_n C.1 C.2.1 dX10_here_4 rfl (lv_at hl 0 rfl) ?_
      refine gm_length C hK hP dX10_here_5 ?_
      refine lv_icmp_ge (tgt := 38) C.1 C.2.1 dX10_here_8 (by decide) (fun c8 => ?_) (fun c8 => ?_)
      · have hf := br_p c8 hf
        exact hB38 _ _ _ ls hP hD hS (lv_sub hl [0] rfl) hf
      · have hf := br_n c8 hf
        refine lv_aload_n C.1 C.2.1 dX10_here_11 rfl (lv_at hl 0 rfl) ?_
        refine gm_text C hK hP dX10_here_12 ?_
        refine lv_aload_n C.1 C.2.1 dX10_here_15 rfl (lv_at hl 0 rfl) ?_
        refine gm_at C hK hP dX10_here_16 ?_
        obtain ⟨hi19, hf⟩ := gd_some hf
        refine lm_text C hK hP hi19 dX10_here_19 ?_
        refine lv_bipush (v := (32 : Int32)) C.1 C.2.1 dX10_here_20 (by decide) ?_
        refine lv_icmp_ne (tgt := 38) C.1 C.2.1 dX10_here_22 (by decide) (fun c22 => ?_) (fun c22 => ?_)
        · have hf := br_n c22 hf
          exact hB38 _ _ _ ls hP hD hS (lv_sub hl [0] rfl) hf
        · have hf := br_p c22 hf
          refine lv_aload_n C.1 C.2.1 dX10_here_25 rfl (lv_at hl 0 rfl) ?_
          refine lv_dup C.1 C.2.1 dX10_here_26 rfl ?_
          refine gm_at C hK hP dX10_here_27 ?_
          refine lv_iconst (v := (1 : Int32)) C.1 C.2.1 dX10_here_30 (by decide) ?_
          refine lv_iadd C.1 C.2.1 dX10_here_31 ?_
          replace hf := lt_e hf
          refine pm_at C hK hP hD hS dX10_here_32 (fun H locs hP hD hS => ?_)
          refine lv_goto (tgt := 0) C.1 C.2.1 dX10_here_35 (by decide) ?_
          exact ih0 _ _ _ ls hP hD hS (lv_sub hl [0] rfl) hf
  unfold fm_here at hf
  exact hB0 F _ _ _ ls hP hD hS (lv_sub hl [0] rfl) hf
def fm_readsNumber_L145 (F : Nat) (σ : MS) (x2 : Int32) (s0 : Int32) : Option (Int32 × MS) :=
  lt (ms_at_s σ s0) (fun σ145 => some (x2, σ145))
def fm_readsNumber_L126 (F : Nat) (σ : MS) (x1 : Int32) (x2 : Int32) (s0 : Int32) : Option (Int32 × MS) :=
  gd (s0 = 0 ∨ s0 = 1) (lt (ms_fine_s σ s0) (fun σ126 => if (ms_fine σ126) = 0 then (fm_readsNumber_L145 F σ126 x2 (ms_at σ126)) else (fm_readsNumber_L145 F σ126 x2 x1)))
def fm_readsNumber_L125 (F : Nat) (σ : MS) (x1 : Int32) (x2 : Int32) : Option (Int32 × MS) :=
  fm_readsNumber_L126 F σ x1 x2 (0 : Int32)
def fm_readsNumber_L103 (F : Nat) (σ : MS) (x1 : Int32) (x2 : Int32) : Option (Int32 × MS) :=
  if (ms_fine σ) = 0 then (fm_readsNumber_L125 F σ x1 x2) else (if (3 : Int32) < (x1 - (ms_at σ)) then (fm_readsNumber_L125 F σ x1 x2) else (fm_readsNumber_L126 F σ x1 x2 (1 : Int32)))
def fm_readsNumber_L96 (F : Nat) (k37 : MS → Int32 → Int32 → Option (Int32 × MS)) (σ : MS) (x1 : Int32) (s0 : Int32) : Option (Int32 × MS) :=
  lt (x1 + (1 : Int32)) (fun x1_97 => k37 σ x1_97 s0)
def fm_readsNumber_L37_c (F : Nat) (k37 : MS → Int32 → Int32 → Option (Int32 × MS)) (σ : MS) (x1 : Int32) (x2 : Int32) : Option (Int32 × MS) :=
  if (ms_fine σ) = 0 then (fm_readsNumber_L103 F σ x1 x2) else (if (ms_length σ) ≤ x1 then (fm_readsNumber_L103 F σ x1 x2) else (gd (ix x1 120 = true) (bd (fm_in F (ms_text σ x1.toNatClampNeg) (48 : Int32) (57 : Int32)) (fun r62 => if r62 = 0 then (fm_readsNumber_L103 F σ x1 x2) else (if (3 : Int32) ≤ (x1 - (ms_at σ)) then (fm_readsNumber_L96 F k37 σ x1 x2) else (gd (ix x1 120 = true) (fm_readsNumber_L96 F k37 σ x1 ((((10 : Int32) * x2) + (ms_text σ x1.toNatClampNeg)) - (48 : Int32)))))))))
def fm_readsNumber_L37 (F : Nat) (n : Nat) (σ : MS) (x1 : Int32) (x2 : Int32) : Option (Int32 × MS) := lpN (fun (k : MS × Int32 × Int32 → Option (Int32 × MS)) a => fm_readsNumber_L37_c F (fun σ x1 x2 => k (σ, x1, x2)) a.1 a.2.1 a.2.2) n (σ, x1, x2)
def fm_readsNumber_L27 (F : Nat) (σ : MS) (s0 : Int32) : Option (Int32 × MS) :=
  gd (s0 = 0 ∨ s0 = 1) (lt (ms_fine_s σ s0) (fun σ27 => lt (ms_at σ27) (fun x1_34 => fm_readsNumber_L37 F F σ27 x1_34 (0 : Int32))))
def fm_readsNumber_L26 (F : Nat) (σ : MS) : Option (Int32 × MS) :=
  fm_readsNumber_L27 F σ (0 : Int32)
def fm_readsNumber (F : Nat) (σ : MS) : Option (Int32 × MS) :=
  if (ms_fine σ) = 0 then (fm_readsNumber_L26 F σ) else (bd2 (fm_here F σ) (fun r9 σ9 => bd (fm_in F r9 (48 : Int32) (57 : Int32)) (fun r16 => if r16 = 0 then (fm_readsNumber_L26 F σ9) else (fm_readsNumber_L27 F σ9 (1 : Int32)))))
set_option maxHeartbeats 4000000 in
set_option maxRecDepth 100000 in
theorem km_readsNumber (l : Launch) (D : va_G) (cA : Nat → ClassId) (ad : Nat → Nat) (σ0 : MS) (F : Nat)  (r : Int32) (σr : MS) (hf : fm_readsNumber F σ0  = some (r, σr)) : KW l D (tyG cA) yX10_readsNumber cX10_readsNumber 3 (some .int) (rmk 1 22) (wM cA ad σ0) [.ref (ad 0)] (some (.int r)) (wM cA ad σr) := by
  refine KW.of (by decide) (Nat.le_of_ble_eq_true rfl) ?_
  intro p e s m below meth c A hAe hA C hr hlk hK hP hD hS ls hl
  have hl : lv_has ls 3 [(0, .ref (ad 0))] := hl
  have hB145 : ∀ (H : Heap) (locs : List Loc) (σ : MS) (ls : Array Slot) (x2 : Int32) (s0 : Int32), va_P D vwCl (wM cA ad σ) H → va_D A (wM cA ad σ) → va_S A s.heap H locs → lv_has ls 3 [(0, .ref (ad 0)), (2, .int x2)] → fm_readsNumber_L145 F σ x2 s0 = some (r, σr) → WQ p l e 1 22 s m [.ref (ad 0)] below meth c (some (.int r)) D (tyG cA) (wM cA ad σ0) (wM cA ad σr) A H locs (F0 m 145 ls [.int s0, .ref (ad 0)]) := by
    intro H locs σ ls x2 s0 hP hD hS hl hf
    unfold fm_readsNumber_L145 at hf
    replace hf := lt_e hf
    refine pm_at C hK hP hD hS dX10_readsNumber_145 (fun H locs hP hD hS => ?_)
    refine lv_iload_n C.1 C.2.1 dX10_readsNumber_148 rfl (lv_at hl 1 rfl) ?_
    obtain ⟨rfl, rfl⟩ := Prod.mk.inj (Option.some.inj hf)
    exact KW.iret C hr hlk hK hAe hP hD hS rfl dX10_readsNumber_149
  have hB126 : ∀ (H : Heap) (locs : List Loc) (σ : MS) (ls : Array Slot) (x1 : Int32) (x2 : Int32) (s0 : Int32), va_P D vwCl (wM cA ad σ) H → va_D A (wM cA ad σ) → va_S A s.heap H locs → lv_has ls 3 [(0, .ref (ad 0)), (1, .int x1), (2, .int x2)] → fm_readsNumber_L126 F σ x1 x2 s0 = some (r, σr) → WQ p l e 1 22 s m [.ref (ad 0)] below meth c (some (.int r)) D (tyG cA) (wM cA ad σ0) (wM cA ad σr) A H locs (F0 m 126 ls [.int s0, .ref (ad 0)]) := by
    intro H locs σ ls x1 x2 s0 hP hD hS hl hf
    unfold fm_readsNumber_L126 at hf
    obtain ⟨hz126, hf⟩ := gd_some hf
    replace hf := lt_e hf
    refine pm_fine C hK hP hD hS hz126 dX10_readsNumber_126 (fun H locs hP hD hS => ?_)
    refine lv_aload_n C.1 C.2.1 dX10_readsNumber_129 rfl (lv_at hl 0 rfl) ?_
    refine lv_aload_n C.1 C.2.1 dX10_readsNumber_130 rfl (lv_at hl 0 rfl) ?_
    refine gm_fine C hK hP dX10_readsNumber_131 ?_
    refine lv_if_eq (tgt := 141) C.1 C.2.1 dX10_readsNumber_134 (by decide) (fun c134 => ?_) (fun c134 => ?_)
    · have hf := br_p c134 hf
      refine lv_aload_n C.1 C.2.1 dX10_readsNumber_141 rfl (lv_at hl 0 rfl) ?_
      refine gm_at C hK hP dX10_readsNumber_142 ?_
      exact hB145 _ _ _ ls _ _ hP hD hS (lv_sub hl [0, 2] rfl) hf
    · have hf := br_n c134 hf
      refine lv_iload_n C.1 C.2.1 dX10_readsNumber_137 rfl (lv_at hl 1 rfl) ?_
      refine lv_goto (tgt := 145) C.1 C.2.1 dX10_readsNumber_138 (by decide) ?_
      exact hB145 _ _ _ ls _ _ hP hD hS (lv_sub hl [0, 2] rfl) hf
  have hB125 : ∀ (H : Heap) (locs : List Loc) (σ : MS) (ls : Array Slot) (x1 : Int32) (x2 : Int32), va_P D vwCl (wM cA ad σ) H → va_D A (wM cA ad σ) → va_S A s.heap H locs → lv_has ls 3 [(0, .ref (ad 0)), (1, .int x1), (2, .int x2)] → fm_readsNumber_L125 F σ x1 x2 = some (r, σr) → WQ p l e 1 22 s m [.ref (ad 0)] below meth c (some (.int r)) D (tyG cA) (wM cA ad σ0) (wM cA ad σr) A H locs (F0 m 125 ls [.ref (ad 0)]) := by
    intro H locs σ ls x1 x2 hP hD hS hl hf
    unfold fm_readsNumber_L125 at hf
    refine lv_iconst (v := (0 : Int32)) C.1 C.2.1 dX10_readsNumber_125 (by decide) ?_
    exact hB126 _ _ _ ls _ _ _ hP hD hS (lv_sub hl [0, 1, 2] rfl) hf
  have hB103 : ∀ (H : Heap) (locs : List Loc) (σ : MS) (ls : Array Slot) (x1 : Int32) (x2 : Int32), va_P D vwCl (wM cA ad σ) H → va_D A (wM cA ad σ) → va_S A s.heap H locs → lv_has ls 3 [(0, .ref (ad 0)), (1, .int x1), (2, .int x2)] → fm_readsNumber_L103 F σ x1 x2 = some (r, σr) → WQ p l e 1 22 s m [.ref (ad 0)] below meth c (some (.int r)) D (tyG cA) (wM cA ad σ0) (wM cA ad σr) A H locs (F0 m 103 ls []) := by
    intro H locs σ ls x1 x2 hP hD hS hl hf
    unfold fm_readsNumber_L103 at hf
    refine lv_aload_n C.1 C.2.1 dX10_readsNumber_103 rfl (lv_at hl 0 rfl) ?_
    refine lv_aload_n C.1 C.2.1 dX10_readsNumber_104 rfl (lv_at hl 0 rfl) ?_
    refine gm_fine C hK hP dX10_readsNumber_105 ?_
    refine lv_if_eq (tgt := 125) C.1 C.2.1 dX10_readsNumber_108 (by decide) (fun c108 => ?_) (fun c108 => ?_)
    · have hf := br_p c108 hf
      exact hB125 _ _ _ ls _ _ hP hD hS (lv_sub hl [0, 1, 2] rfl) hf
    · have hf := br_n c108 hf
      refine lv_iload_n C.1 C.2.1 dX10_readsNumber_111 rfl (lv_at hl 1 rfl) ?_
      refine lv_aload_n C.1 C.2.1 dX10_readsNumber_112 rfl (lv_at hl 0 rfl) ?_
      refine gm_at C hK hP dX10_readsNumber_113 ?_
      refine lv_isub C.1 C.2.1 dX10_readsNumber_116 ?_
      refine lv_iconst (v := (3 : Int32)) C.1 C.2.1 dX10_readsNumber_117 (by decide) ?_
      refine lv_icmp_gt (tgt := 125) C.1 C.2.1 dX10_readsNumber_118 (by decide) (fun c118 => ?_) (fun c118 => ?_)
      · have hf := br_p c118 hf
        exact hB125 _ _ _ ls _ _ hP hD hS (lv_sub hl [0, 1, 2] rfl) hf
      · have hf := br_n c118 hf
        refine lv_iconst (v := (1 : Int32)) C.1 C.2.1 dX10_readsNumber_121 (by decide) ?_
        refine lv_goto (tgt := 126) C.1 C.2.1 dX10_readsNumber_122 (by decide) ?_
        exact hB126 _ _ _ ls _ _ _ hP hD hS (lv_sub hl [0, 1, 2] rfl) hf
  have hB37 : ∀ (n37 : Nat) (H : Heap) (locs : List Loc) (σ : MS) (ls : Array Slot) (x1 : Int32) (x2 : Int32), va_P D vwCl (wM cA ad σ) H → va_D A (wM cA ad σ) → va_S A s.heap H locs → lv_has ls 3 [(0, .ref (ad 0)), (1, .int x1), (2, .int x2)] → fm_readsNumber_L37 F n37 σ x1 x2 = some (r, σr) → WQ p l e 1 22 s m [.ref (ad 0)] below meth c (some (.int r)) D (tyG cA) (wM cA ad σ0) (wM cA ad σr) A H locs (F0 m 37 ls []) := by
    intro n37
    induction n37 with
    | zero =>
      intro H locs σ ls x1 x2 hP hD hS hl hf
      cases (show (none : Option _) = _ from hf)
    | succ n37 ih37 =>
      have hB96 : ∀ (H : Heap) (locs : List Loc) (σ : MS) (ls : Array Slot) (x1 : Int32) (s0 : Int32), va_P D vwCl (wM cA ad σ) H → va_D A (wM cA ad σ) → va_S A s.heap H locs → lv_has ls 3 [(0, .ref (ad 0)), (1, .int x1)] → fm_readsNumber_L96 F (fm_readsNumber_L37 F n37) σ x1 s0 = some (r, σr) → WQ p l e 1 22 s m [.ref (ad 0)] below meth c (some (.int r)) D (tyG cA) (wM cA ad σ0) (wM cA ad σr) A H locs (F0 m 96 ls [.int s0]) := by
        intro H locs σ ls x1 s0 hP hD hS hl hf
        unfold fm_readsNumber_L96 at hf
        refine lv_istore_n (lv' := [(2, .int s0), (0, .ref (ad 0)), (1, .int x1)]) C.1 C.2.1 dX10_readsNumber_96 rfl hl (by decide) rfl (fun ls hl => ?_)
        obtain ⟨x1_97, ex1_97, hf⟩ := lt_some hf
        refine lv_iinc (v := x1_97) (lv' := [(1, .int x1_97), (2, .int s0), (0, .ref (ad 0))]) C.1 C.2.1 dX10_readsNumber_97 hl (k := 2) rfl (by rw [ex1_97]; rfl) (by decide) rfl (fun ls hl => ?_)
        refine lv_goto (tgt := 37) C.1 C.2.1 dX10_readsNumber_100 (by decide) ?_
        exact ih37 _ _ _ ls _ _ hP hD hS (lv_sub hl [2, 0, 1] rfl) hf
      intro H locs σ ls x1 x2 hP hD hS hl hf
      have hf : fm_readsNumber_L37_c F (fm_readsNumber_L37 F n37) σ x1 x2 = some (r, σr) := hf
      unfold fm_readsNumber_L37_c at hf
      refine lv_aload_n C.1 C.2.1 dX10_readsNumber_37 rfl (lv_at hl 0 rfl) ?_
      refine gm_fine C hK hP dX10_readsNumber_38 ?_
      refine lv_if_eq (tgt := 103) C.1 C.2.1 dX10_readsNumber_41 (by decide) (fun c41 => ?_) (fun c41 => ?_)
      · have hf := br_p c41 hf
        exact hB103 _ _ _ ls _ _ hP hD hS (lv_sub hl [0, 1, 2] rfl) hf
      · have hf := br_n c41 hf
        refine lv_iload_n C.1 C.2.1 dX10_readsNumber_44 rfl (lv_at hl 1 rfl) ?_
        refine lv_aload_n C.1 C.2.1 dX10_readsNumber_45 rfl (lv_at hl 0 rfl) ?_
        refine gm_length C hK hP dX10_readsNumber_46 ?_
        refine lv_icmp_ge (tgt := 103) C.1 C.2.1 dX10_readsNumber_49 (by decide) (fun c49 => ?_) (fun c49 => ?_)
        · have hf := br_p c49 hf
          exact hB103 _ _ _ ls _ _ hP hD hS (lv_sub hl [0, 1, 2] rfl) hf
        · have hf := br_n c49 hf
          refine lv_aload_n C.1 C.2.1 dX10_readsNumber_52 rfl (lv_at hl 0 rfl) ?_
          refine gm_text C hK hP dX10_readsNumber_53 ?_
          refine lv_iload_n C.1 C.2.1 dX10_readsNumber_56 rfl (lv_at hl 1 rfl) ?_
          obtain ⟨hi57, hf⟩ := gd_some hf
          refine lm_text C hK hP hi57 dX10_readsNumber_57 ?_
          refine lv_bipush (v := (48 : Int32)) C.1 C.2.1 dX10_readsNumber_58 (by decide) ?_
          refine lv_bipush (v := (57 : Int32)) C.1 C.2.1 dX10_readsNumber_60 (by decide) ?_
          obtain ⟨r62, hc62, hf⟩ := bd_some hf
          refine callRS (As := [_, _, _]) C hK hP wv_X10_68 hl (km_in l D cA _ F _ _ _ r62 hc62) rfl rfl rfl (Nat.le_of_ble_eq_true rfl) ⟨Nat.le_refl _, Nat.le_refl _⟩ dX10_readsNumber_62 ?_
          refine lv_if_eq (tgt := 103) C.1 C.2.1 dX10_readsNumber_65 (by decide) (fun c65 => ?_) (fun c65 => ?_)
          · have hf := br_p c65 hf
            exact hB103 _ _ _ ls _ _ hP hD hS (lv_sub hl [0, 1, 2] rfl) hf
          · have hf := br_n c65 hf
            refine lv_iload_n C.1 C.2.1 dX10_readsNumber_68 rfl (lv_at hl 1 rfl) ?_
            refine lv_aload_n C.1 C.2.1 dX10_readsNumber_69 rfl (lv_at hl 0 rfl) ?_
            refine gm_at C hK hP dX10_readsNumber_70 ?_
            refine lv_isub C.1 C.2.1 dX10_readsNumber_73 ?_
            refine lv_iconst (v := (3 : Int32)) C.1 C.2.1 dX10_readsNumber_74 (by decide) ?_
            refine lv_icmp_ge (tgt := 95) C.1 C.2.1 dX10_readsNumber_75 (by decide) (fun c75 => ?_) (fun c75 => ?_)
            · have hf := br_p c75 hf
              refine lv_iload_n C.1 C.2.1 dX10_readsNumber_95 rfl (lv_at hl 2 rfl) ?_
              exact hB96 _ _ _ ls _ _ hP hD hS (lv_sub hl [0, 1] rfl) hf
            · have hf := br_n c75 hf
              refine lv_bipush (v := (10 : Int32)) C.1 C.2.1 dX10_readsNumber_78 (by decide) ?_
              refine lv_iload_n C.1 C.2.1 dX10_readsNumber_80 rfl (lv_at hl 2 rfl) ?_
              refine lv_imul C.1 C.2.1 dX10_readsNumber_81 ?_
              refine lv_aload_n C.1 C.2.1 dX10_readsNumber_82 rfl (lv_at hl 0 rfl) ?_
              refine gm_text C hK hP dX10_readsNumber_83 ?_
              refine lv_iload_n C.1 C.2.1 dX10_readsNumber_86 rfl (lv_at hl 1 rfl) ?_
              obtain ⟨hi87, hf⟩ := gd_some hf
              refine lm_text C hK hP hi87 dX10_readsNumber_87 ?_
              refine lv_iadd C.1 C.2.1 dX10_readsNumber_88 ?_
              refine lv_bipush (v := (48 : Int32)) C.1 C.2.1 dX10_readsNumber_89 (by decide) ?_
              refine lv_isub C.1 C.2.1 dX10_readsNumber_91 ?_
              refine lv_goto (tgt := 96) C.1 C.2.1 dX10_readsNumber_92 (by decide) ?_
              exact hB96 _ _ _ ls _ _ hP hD hS (lv_sub hl [0, 1] rfl) hf
  have hB27 : ∀ (H : Heap) (locs : List Loc) (σ : MS) (ls : Array Slot) (s0 : Int32), va_P D vwCl (wM cA ad σ) H → va_D A (wM cA ad σ) → va_S A s.heap H locs → lv_has ls 3 [(0, .ref (ad 0))] → fm_readsNumber_L27 F σ s0 = some (r, σr) → WQ p l e 1 22 s m [.ref (ad 0)] below meth c (some (.int r)) D (tyG cA) (wM cA ad σ0) (wM cA ad σr) A H locs (F0 m 27 ls [.int s0, .ref (ad 0)]) := by
    intro H locs σ ls s0 hP hD hS hl hf
    unfold fm_readsNumber_L27 at hf
    obtain ⟨hz27, hf⟩ := gd_some hf
    replace hf := lt_e hf
    refine pm_fine C hK hP hD hS hz27 dX10_readsNumber_27 (fun H locs hP hD hS => ?_)
    refine lv_aload_n C.1 C.2.1 dX10_readsNumber_30 rfl (lv_at hl 0 rfl) ?_
    refine gm_at C hK hP dX10_readsNumber_31 ?_
    obtain ⟨x1_34, ex1_34, hf⟩ := lt_some hf
    refine lv_tope ex1_34 ?_
    refine lv_istore_n (lv' := [(1, .int x1_34), (0, .ref (ad 0))]) C.1 C.2.1 dX10_readsNumber_34 rfl hl (by decide) rfl (fun ls hl => ?_)
    refine lv_iconst (v := (0 : Int32)) C.1 C.2.1 dX10_readsNumber_35 (by decide) ?_
    refine lv_istore_n (lv' := [(2, .int (0 : Int32)), (1, .int x1_34), (0, .ref (ad 0))]) C.1 C.2.1 dX10_readsNumber_36 rfl hl (by decide) rfl (fun ls hl => ?_)
    exact hB37 F _ _ _ ls _ _ hP hD hS (lv_sub hl [2, 1, 0] rfl) hf
  have hB26 : ∀ (H : Heap) (locs : List Loc) (σ : MS) (ls : Array Slot), va_P D vwCl (wM cA ad σ) H → va_D A (wM cA ad σ) → va_S A s.heap H locs → lv_has ls 3 [(0, .ref (ad 0))] → fm_readsNumber_L26 F σ = some (r, σr) → WQ p l e 1 22 s m [.ref (ad 0)] below meth c (some (.int r)) D (tyG cA) (wM cA ad σ0) (wM cA ad σr) A H locs (F0 m 26 ls [.ref (ad 0)]) := by
    intro H locs σ ls hP hD hS hl hf
    unfold fm_readsNumber_L26 at hf
    refine lv_iconst (v := (0 : Int32)) C.1 C.2.1 dX10_readsNumber_26 (by decide) ?_
    exact hB27 _ _ _ ls _ hP hD hS (lv_sub hl [0] rfl) hf
  unfold fm_readsNumber at hf
  refine lv_aload_n C.1 C.2.1 dX10_readsNumber_0 rfl (lv_at hl 0 rfl) ?_
  refine lv_aload_n C.1 C.2.1 dX10_readsNumber_1 rfl (lv_at hl 0 rfl) ?_
  refine gm_fine C hK hP dX10_readsNumber_2 ?_
  refine lv_if_eq (tgt := 26) C.1 C.2.1 dX10_readsNumber_5 (by decide) (fun c5 => ?_) (fun c5 => ?_)
  · have hf := br_p c5 hf
    exact hB26 _ _ _ ls hP hD hS (lv_sub hl [0] rfl) hf
  · have hf := br_n c5 hf
    refine lv_aload_n C.1 C.2.1 dX10_readsNumber_8 rfl (lv_at hl 0 rfl) ?_
    obtain ⟨r9, σ9, hc9, hf⟩ := bd2_some hf
    refine callWV (As := []) C hK hP hD hA hS wv_X10_258 hl (km_here l D cA ad _ F r9 σ9 hc9) (rcM hK hP) rfl rfl rfl (Nat.le_of_ble_eq_true rfl) ⟨Nat.le_refl _, Nat.le_refl _⟩ dX10_readsNumber_9 (fun H locs hP hD hS => ?_)
    refine lv_bipush (v := (48 : Int32)) C.1 C.2.1 dX10_readsNumber_12 (by decide) ?_
    refine lv_bipush (v := (57 : Int32)) C.1 C.2.1 dX10_readsNumber_14 (by decide) ?_
    obtain ⟨r16, hc16, hf⟩ := bd_some hf
    refine callRS (As := [_, _, _]) C hK hP wv_X10_68 hl (km_in l D cA _ F _ _ _ r16 hc16) rfl rfl rfl (Nat.le_of_ble_eq_true rfl) ⟨Nat.le_refl _, Nat.le_refl _⟩ dX10_readsNumber_16 ?_
    refine lv_if_eq (tgt := 26) C.1 C.2.1 dX10_readsNumber_19 (by decide) (fun c19 => ?_) (fun c19 => ?_)
    · have hf := br_p c19 hf
      exact hB26 _ _ _ ls hP hD hS (lv_sub hl [0] rfl) hf
    · have hf := br_n c19 hf
      refine lv_iconst (v := (1 : Int32)) C.1 C.2.1 dX10_readsNumber_22 (by decide) ?_
      refine lv_goto (tgt := 27) C.1 C.2.1 dX10_readsNumber_23 (by decide) ?_
      exact hB27 _ _ _ ls _ hP hD hS (lv_sub hl [0] rfl) hf
def fm_is_L170 (F : Nat) (σ : MS) (s0 : Int32) : Option (Int32) :=
  gd (s0 = 0 ∨ s0 = 1) (some s0)
def fm_is_L169 (F : Nat) (σ : MS) : Option (Int32) :=
  fm_is_L170 F σ (0 : Int32)
def fm_is_L165 (F : Nat) (σ : MS) : Option (Int32) :=
  fm_is_L170 F σ (1 : Int32)
def fm_is_L125 (F : Nat) (σ : MS) (x7 : Int32) (x8 : Int32) (x9 : Int32) : Option (Int32) :=
  if x9 < (7 : Int32) then (fm_is_L165 F σ) else (gd (ix ((ms_at σ) + (5 : Int32)) 120 = true) (if (ms_text σ ((ms_at σ) + (5 : Int32)).toNatClampNeg) = x7 then (gd (ix ((ms_at σ) + (6 : Int32)) 120 = true) (if (ms_text σ ((ms_at σ) + (6 : Int32)).toNatClampNeg) = x8 then (fm_is_L165 F σ) else (fm_is_L169 F σ))) else (fm_is_L169 F σ)))
def fm_is_L103 (F : Nat) (σ : MS) (x6 : Int32) (x7 : Int32) (x8 : Int32) (x9 : Int32) : Option (Int32) :=
  if x9 < (5 : Int32) then (fm_is_L125 F σ x7 x8 x9) else (gd (ix ((ms_at σ) + (4 : Int32)) 120 = true) (if (ms_text σ ((ms_at σ) + (4 : Int32)).toNatClampNeg) = x6 then (fm_is_L125 F σ x7 x8 x9) else (fm_is_L169 F σ)))
def fm_is_L29 (F : Nat) (σ : MS) (x1 : Int32) (x2 : Int32) (x3 : Int32) (x4 : Int32) (x5 : Int32) (x6 : Int32) (x7 : Int32) (x8 : Int32) (s0 : Int32) : Option (Int32) :=
  if x1 = s0 then (gd (ix (ms_at σ) 120 = true) (if (ms_text σ (ms_at σ).toNatClampNeg) = x2 then (gd (ix ((ms_at σ) + (1 : Int32)) 120 = true) (if (ms_text σ ((ms_at σ) + (1 : Int32)).toNatClampNeg) = x3 then (gd (ix ((ms_at σ) + (2 : Int32)) 120 = true) (if (ms_text σ ((ms_at σ) + (2 : Int32)).toNatClampNeg) = x4 then (if s0 < (4 : Int32) then (fm_is_L103 F σ x6 x7 x8 s0) else (gd (ix ((ms_at σ) + (3 : Int32)) 120 = true) (if (ms_text σ ((ms_at σ) + (3 : Int32)).toNatClampNeg) = x5 then (fm_is_L103 F σ x6 x7 x8 s0) else (fm_is_L169 F σ)))) else (fm_is_L169 F σ))) else (fm_is_L169 F σ))) else (fm_is_L169 F σ))) else (fm_is_L169 F σ)
def fm_is (F : Nat) (σ : MS) (x1 : Int32) (x2 : Int32) (x3 : Int32) (x4 : Int32) (x5 : Int32) (x6 : Int32) (x7 : Int32) (x8 : Int32) : Option (Int32) :=
  if x5 = 0 then (fm_is_L29 F σ x1 x2 x3 x4 x5 x6 x7 x8 (3 : Int32)) else (if x6 = 0 then (fm_is_L29 F σ x1 x2 x3 x4 x5 x6 x7 x8 (4 : Int32)) else (if x7 = 0 then (fm_is_L29 F σ x1 x2 x3 x4 x5 x6 x7 x8 (5 : Int32)) else (fm_is_L29 F σ x1 x2 x3 x4 x5 x6 x7 x8 (7 : Int32))))
set_option maxHeartbeats 4000000 in
set_option maxRecDepth 100000 in
theorem km_is (l : Launch) (D : va_G) (cA : Nat → ClassId) (ad : Nat → Nat) (σ : MS) (F : Nat) (a1 : Int32) (a2 : Int32) (a3 : Int32) (a4 : Int32) (a5 : Int32) (a6 : Int32) (a7 : Int32) (a8 : Int32) (r : Int32) (hf : fm_is F σ a1 a2 a3 a4 a5 a6 a7 a8 = some r) : KR l D (tyG cA) yX10_is cX10_is 10 (some .boolean) (rmk 0 0) (wM cA ad σ) [.ref (ad 0), .int a1, .int a2, .int a3, .int a4, .int a5, .int a6, .int a7, .int a8] r := by
  refine KR.of (by decide) (Nat.le_of_ble_eq_true rfl) ?_
  intro p e s m below meth c C hr hlk hK hP ls hl
  have hl : lv_has ls 10 [(0, .ref (ad 0)), (1, .int a1), (2, .int a2), (3, .int a3), (4, .int a4), (5, .int a5), (6, .int a6), (7, .int a7), (8, .int a8)] := hl
  have hB170 : ∀ (ls : Array Slot) (s0 : Int32), lv_has ls 10 [(0, .ref (ad 0))] → fm_is_L170 F σ s0 = some r → WR p l e 0 0 s m [.ref (ad 0), .int a1, .int a2, .int a3, .int a4, .int a5, .int a6, .int a7, .int a8] below meth c r (F0 m 170 ls [.int s0]) := by
    intro ls s0 hl hf
    unfold fm_is_L170 at hf
    obtain ⟨hz170, hf⟩ := gd_some hf
    exact KR.zret C hr hlk hz170 (Option.some.inj hf) dX10_is_170
  have hB169 : ∀ (ls : Array Slot), lv_has ls 10 [(0, .ref (ad 0))] → fm_is_L169 F σ = some r → WR p l e 0 0 s m [.ref (ad 0), .int a1, .int a2, .int a3, .int a4, .int a5, .int a6, .int a7, .int a8] below meth c r (F0 m 169 ls []) := by
    intro ls hl hf
    unfold fm_is_L169 at hf
    refine lv_iconst (v := (0 : Int32)) C.1 C.2.1 dX10_is_169 (by decide) ?_
    exact hB170 ls _ (lv_sub hl [0] rfl) hf
  have hB165 : ∀ (ls : Array Slot), lv_has ls 10 [(0, .ref (ad 0))] → fm_is_L165 F σ = some r → WR p l e 0 0 s m [.ref (ad 0), .int a1, .int a2, .int a3, .int a4, .int a5, .int a6, .int a7, .int a8] below meth c r (F0 m 165 ls []) := by
    intro ls hl hf
    unfold fm_is_L165 at hf
    refine lv_iconst (v := (1 : Int32)) C.1 C.2.1 dX10_is_165 (by decide) ?_
    refine lv_goto (tgt := 170) C.1 C.2.1 dX10_is_166 (by decide) ?_
    exact hB170 ls _ (lv_sub hl [0] rfl) hf
  have hB125 : ∀ (ls : Array Slot) (x7 : Int32) (x8 : Int32) (x9 : Int32), lv_has ls 10 [(0, .ref (ad 0)), (7, .int x7), (8, .int x8), (9, .int x9)] → fm_is_L125 F σ x7 x8 x9 = some r → WR p l e 0 0 s m [.ref (ad 0), .int a1, .int a2, .int a3, .int a4, .int a5, .int a6, .int a7, .int a8] below meth c r (F0 m 125 ls []) := by
    intro ls x7 x8 x9 hl hf
    unfold fm_is_L125 at hf
    refine lv_iload C.1 C.2.1 dX10_is_125 (lv_at hl 3 rfl) ?_
    refine lv_bipush (v := (7 : Int32)) C.1 C.2.1 dX10_is_127 (by decide) ?_
    refine lv_icmp_lt (tgt := 165) C.1 C.2.1 dX10_is_129 (by decide) (fun c129 => ?_) (fun c129 => ?_)
    · have hf := br_p c129 hf
      exact hB165 ls (lv_sub hl [0] rfl) hf
    · have hf := br_n c129 hf
      refine lv_aload_n C.1 C.2.1 dX10_is_132 rfl (lv_at hl 0 rfl) ?_
      refine gm_text C hK hP dX10_is_133 ?_
      refine lv_aload_n C.1 C.2.1 dX10_is_136 rfl (lv_at hl 0 rfl) ?_
      refine gm_at C hK hP dX10_is_137 ?_
      refine lv_iconst (v := (5 : Int32)) C.1 C.2.1 dX10_is_140 (by decide) ?_
      refine lv_iadd C.1 C.2.1 dX10_is_141 ?_
      obtain ⟨hi142, hf⟩ := gd_some hf
      refine lm_text C hK hP hi142 dX10_is_142 ?_
      refine lv_iload C.1 C.2.1 dX10_is_143 (lv_at hl 1 rfl) ?_
      refine lv_icmp_ne (tgt := 169) C.1 C.2.1 dX10_is_145 (by decide) (fun c145 => ?_) (fun c145 => ?_)
      · have hf := br_n c145 hf
        exact hB169 ls (lv_sub hl [0] rfl) hf
      · have hf := br_p c145 hf
        refine lv_aload_n C.1 C.2.1 dX10_is_148 rfl (lv_at hl 0 rfl) ?_
        refine gm_text C hK hP dX10_is_149 ?_
        refine lv_aload_n C.1 C.2.1 dX10_is_152 rfl (lv_at hl 0 rfl) ?_
        refine gm_at C hK hP dX10_is_153 ?_
        refine lv_bipush (v := (6 : Int32)) C.1 C.2.1 dX10_is_156 (by decide) ?_
        refine lv_iadd C.1 C.2.1 dX10_is_158 ?_
        obtain ⟨hi159, hf⟩ := gd_some hf
        refine lm_text C hK hP hi159 dX10_is_159 ?_
        refine lv_iload C.1 C.2.1 dX10_is_160 (lv_at hl 2 rfl) ?_
        refine lv_icmp_ne (tgt := 169) C.1 C.2.1 dX10_is_162 (by decide) (fun c162 => ?_) (fun c162 => ?_)
        · have hf := br_n c162 hf
          exact hB169 ls (lv_sub hl [0] rfl) hf
        · have hf := br_p c162 hf
          exact hB165 ls (lv_sub hl [0] rfl) hf
  have hB103 : ∀ (ls : Array Slot) (x6 : Int32) (x7 : Int32) (x8 : Int32) (x9 : Int32), lv_has ls 10 [(0, .ref (ad 0)), (6, .int x6), (7, .int x7), (8, .int x8), (9, .int x9)] → fm_is_L103 F σ x6 x7 x8 x9 = some r → WR p l e 0 0 s m [.ref (ad 0), .int a1, .int a2, .int a3, .int a4, .int a5, .int a6, .int a7, .int a8] below meth c r (F0 m 103 ls []) := by
    intro ls x6 x7 x8 x9 hl hf
    unfold fm_is_L103 at hf
    refine lv_iload C.1 C.2.1 dX10_is_103 (lv_at hl 4 rfl) ?_
    refine lv_iconst (v := (5 : Int32)) C.1 C.2.1 dX10_is_105 (by decide) ?_
    refine lv_icmp_lt (tgt := 125) C.1 C.2.1 dX10_is_106 (by decide) (fun c106 => ?_) (fun c106 => ?_)
    · have hf := br_p c106 hf
      exact hB125 ls _ _ _ (lv_sub hl [0, 2, 3, 4] rfl) hf
    · have hf := br_n c106 hf
      refine lv_aload_n C.1 C.2.1 dX10_is_109 rfl (lv_at hl 0 rfl) ?_
      refine gm_text C hK hP dX10_is_110 ?_
      refine lv_aload_n C.1 C.2.1 dX10_is_113 rfl (lv_at hl 0 rfl) ?_
      refine gm_at C hK hP dX10_is_114 ?_
      refine lv_iconst (v := (4 : Int32)) C.1 C.2.1 dX10_is_117 (by decide) ?_
      refine lv_iadd C.1 C.2.1 dX10_is_118 ?_
      obtain ⟨hi119, hf⟩ := gd_some hf
      refine lm_text C hK hP hi119 dX10_is_119 ?_
      refine lv_iload C.1 C.2.1 dX10_is_120 (lv_at hl 1 rfl) ?_
      refine lv_icmp_ne (tgt := 169) C.1 C.2.1 dX10_is_122 (by decide) (fun c122 => ?_) (fun c122 => ?_)
      · have hf := br_n c122 hf
        exact hB169 ls (lv_sub hl [0] rfl) hf
      · have hf := br_p c122 hf
        exact hB125 ls _ _ _ (lv_sub hl [0, 2, 3, 4] rfl) hf
  have hB29 : ∀ (ls : Array Slot) (x1 : Int32) (x2 : Int32) (x3 : Int32) (x4 : Int32) (x5 : Int32) (x6 : Int32) (x7 : Int32) (x8 : Int32) (s0 : Int32), lv_has ls 10 [(0, .ref (ad 0)), (1, .int x1), (2, .int x2), (3, .int x3), (4, .int x4), (5, .int x5), (6, .int x6), (7, .int x7), (8, .int x8)] → fm_is_L29 F σ x1 x2 x3 x4 x5 x6 x7 x8 s0 = some r → WR p l e 0 0 s m [.ref (ad 0), .int a1, .int a2, .int a3, .int a4, .int a5, .int a6, .int a7, .int a8] below meth c r (F0 m 29 ls [.int s0]) := by
    intro ls x1 x2 x3 x4 x5 x6 x7 x8 s0 hl hf
    unfold fm_is_L29 at hf
    refine lv_istore (lv' := [(9, .int s0), (0, .ref (ad 0)), (1, .int x1), (2, .int x2), (3, .int x3), (4, .int x4), (5, .int x5), (6, .int x6), (7, .int x7), (8, .int x8)]) C.1 C.2.1 dX10_is_29 hl (by decide) rfl (fun ls hl => ?_)
    refine lv_iload_n C.1 C.2.1 dX10_is_31 rfl (lv_at hl 2 rfl) ?_
    refine lv_iload C.1 C.2.1 dX10_is_32 (lv_at hl 0 rfl) ?_
    refine lv_icmp_ne (tgt := 169) C.1 C.2.1 dX10_is_34 (by decide) (fun c34 => ?_) (fun c34 => ?_)
    · have hf := br_n c34 hf
      exact hB169 ls (lv_sub hl [1] rfl) hf
    · have hf := br_p c34 hf
      refine lv_aload_n C.1 C.2.1 dX10_is_37 rfl (lv_at hl 1 rfl) ?_
      refine gm_text C hK hP dX10_is_38 ?_
      refine lv_aload_n C.1 C.2.1 dX10_is_41 rfl (lv_at hl 1 rfl) ?_
      refine gm_at C hK hP dX10_is_42 ?_
      obtain ⟨hi45, hf⟩ := gd_some hf
      refine lm_text C hK hP hi45 dX10_is_45 ?_
      refine lv_iload_n C.1 C.2.1 dX10_is_46 rfl (lv_at hl 3 rfl) ?_
      refine lv_icmp_ne (tgt := 169) C.1 C.2.1 dX10_is_47 (by decide) (fun c47 => ?_) (fun c47 => ?_)
      · have hf := br_n c47 hf
        exact hB169 ls (lv_sub hl [1] rfl) hf
      · have hf := br_p c47 hf
        refine lv_aload_n C.1 C.2.1 dX10_is_50 rfl (lv_at hl 1 rfl) ?_
        refine gm_text C hK hP dX10_is_51 ?_
        refine lv_aload_n C.1 C.2.1 dX10_is_54 rfl (lv_at hl 1 rfl) ?_
        refine gm_at C hK hP dX10_is_55 ?_
        refine lv_iconst (v := (1 : Int32)) C.1 C.2.1 dX10_is_58 (by decide) ?_
        refine lv_iadd C.1 C.2.1 dX10_is_59 ?_
        obtain ⟨hi60, hf⟩ := gd_some hf
        refine lm_text C hK hP hi60 dX10_is_60 ?_
        refine lv_iload_n C.1 C.2.1 dX10_is_61 rfl (lv_at hl 4 rfl) ?_
        refine lv_icmp_ne (tgt := 169) C.1 C.2.1 dX10_is_62 (by decide) (fun c62 => ?_) (fun c62 => ?_)
        · have hf := br_n c62 hf
          exact hB169 ls (lv_sub hl [1] rfl) hf
        · have hf := br_p c62 hf
          refine lv_aload_n C.1 C.2.1 dX10_is_65 rfl (lv_at hl 1 rfl) ?_
          refine gm_text C hK hP dX10_is_66 ?_
          refine lv_aload_n C.1 C.2.1 dX10_is_69 rfl (lv_at hl 1 rfl) ?_
          refine gm_at C hK hP dX10_is_70 ?_
          refine lv_iconst (v := (2 : Int32)) C.1 C.2.1 dX10_is_73 (by decide) ?_
          refine lv_iadd C.1 C.2.1 dX10_is_74 ?_
          obtain ⟨hi75, hf⟩ := gd_some hf
          refine lm_text C hK hP hi75 dX10_is_75 ?_
          refine lv_iload C.1 C.2.1 dX10_is_76 (lv_at hl 5 rfl) ?_
          refine lv_icmp_ne (tgt := 169) C.1 C.2.1 dX10_is_78 (by decide) (fun c78 => ?_) (fun c78 => ?_)
          · have hf := br_n c78 hf
            exact hB169 ls (lv_sub hl [1] rfl) hf
          · have hf := br_p c78 hf
            refine lv_iload C.1 C.2.1 dX10_is_81 (lv_at hl 0 rfl) ?_
            refine lv_iconst (v := (4 : Int32)) C.1 C.2.1 dX10_is_83 (by decide) ?_
            refine lv_icmp_lt (tgt := 103) C.1 C.2.1 dX10_is_84 (by decide) (fun c84 => ?_) (fun c84 => ?_)
            · have hf := br_p c84 hf
              exact hB103 ls _ _ _ _ (lv_sub hl [1, 7, 8, 9, 0] rfl) hf
            · have hf := br_n c84 hf
              refine lv_aload_n C.1 C.2.1 dX10_is_87 rfl (lv_at hl 1 rfl) ?_
              refine gm_text C hK hP dX10_is_88 ?_
              refine lv_aload_n C.1 C.2.1 dX10_is_91 rfl (lv_at hl 1 rfl) ?_
              refine gm_at C hK hP dX10_is_92 ?_
              refine lv_iconst (v := (3 : Int32)) C.1 C.2.1 dX10_is_95 (by decide) ?_
              refine lv_iadd C.1 C.2.1 dX10_is_96 ?_
              obtain ⟨hi97, hf⟩ := gd_some hf
              refine lm_text C hK hP hi97 dX10_is_97 ?_
              refine lv_iload C.1 C.2.1 dX10_is_98 (lv_at hl 6 rfl) ?_
              refine lv_icmp_ne (tgt := 169) C.1 C.2.1 dX10_is_100 (by decide) (fun c100 => ?_) (fun c100 => ?_)
              · have hf := br_n c100 hf
                exact hB169 ls (lv_sub hl [1] rfl) hf
              · have hf := br_p c100 hf
                exact hB103 ls _ _ _ _ (lv_sub hl [1, 7, 8, 9, 0] rfl) hf
  unfold fm_is at hf
  refine lv_iload C.1 C.2.1 dX10_is_0 (lv_at hl 5 rfl) ?_
  refine lv_if_ne (tgt := 9) C.1 C.2.1 dX10_is_2 (by decide) (fun c2 => ?_) (fun c2 => ?_)
  · have hf := br_n c2 hf
    refine lv_iload C.1 C.2.1 dX10_is_9 (lv_at hl 6 rfl) ?_
    refine lv_if_ne (tgt := 18) C.1 C.2.1 dX10_is_11 (by decide) (fun c11 => ?_) (fun c11 => ?_)
    · have hf := br_n c11 hf
      refine lv_iload C.1 C.2.1 dX10_is_18 (lv_at hl 7 rfl) ?_
      refine lv_if_ne (tgt := 27) C.1 C.2.1 dX10_is_20 (by decide) (fun c20 => ?_) (fun c20 => ?_)
      · have hf := br_n c20 hf
        refine lv_bipush (v := (7 : Int32)) C.1 C.2.1 dX10_is_27 (by decide) ?_
        exact hB29 ls _ _ _ _ _ _ _ _ _ (lv_sub hl [0, 1, 2, 3, 4, 5, 6, 7, 8] rfl) hf
      · have hf := br_p c20 hf
        refine lv_iconst (v := (5 : Int32)) C.1 C.2.1 dX10_is_23 (by decide) ?_
        refine lv_goto (tgt := 29) C.1 C.2.1 dX10_is_24 (by decide) ?_
        exact hB29 ls _ _ _ _ _ _ _ _ _ (lv_sub hl [0, 1, 2, 3, 4, 5, 6, 7, 8] rfl) hf
    · have hf := br_p c11 hf
      refine lv_iconst (v := (4 : Int32)) C.1 C.2.1 dX10_is_14 (by decide) ?_
      refine lv_goto (tgt := 29) C.1 C.2.1 dX10_is_15 (by decide) ?_
      exact hB29 ls _ _ _ _ _ _ _ _ _ (lv_sub hl [0, 1, 2, 3, 4, 5, 6, 7, 8] rfl) hf
  · have hf := br_p c2 hf
    refine lv_iconst (v := (3 : Int32)) C.1 C.2.1 dX10_is_5 (by decide) ?_
    refine lv_goto (tgt := 29) C.1 C.2.1 dX10_is_6 (by decide) ?_
    exact hB29 ls _ _ _ _ _ _ _ _ _ (lv_sub hl [0, 1, 2, 3, 4, 5, 6, 7, 8] rfl) hf
def fm_word_L205 (F : Nat) (σ : MS) (x4 : Int32) (s0 : Int32) : Option (Int32 × MS) :=
  lt (ms_at_s σ s0) (fun σ205 => some (x4, σ205))
def fm_word_L189 (F : Nat) (σ : MS) (x2 : Int32) (s0 : Int32) : Option (Int32 × MS) :=
  if s0 ≤ 0 then (fm_word_L205 F σ s0 (ms_at σ)) else (fm_word_L205 F σ s0 x2)
def fm_word_L40 (F : Nat) (σ : MS) (x2 : Int32) : Option (Int32 × MS) :=
  lt (x2 - (ms_at σ)) (fun x3_46 => bd (fm_is F σ x3_46 (98 : Int32) (111 : Int32) (120 : Int32) (0 : Int32) (0 : Int32) (0 : Int32) (0 : Int32)) (fun r59 => if r59 = 0 then (bd (fm_is F σ x3_46 (108 : Int32) (105 : Int32) (110 : Int32) (107 : Int32) (0 : Int32) (0 : Int32) (0 : Int32)) (fun r82 => if r82 = 0 then (bd (fm_is F σ x3_46 (114 : Int32) (111 : Int32) (117 : Int32) (116 : Int32) (101 : Int32) (0 : Int32) (0 : Int32)) (fun r106 => if r106 = 0 then (bd (fm_is F σ x3_46 (100 : Int32) (114 : Int32) (111 : Int32) (112 : Int32) (0 : Int32) (0 : Int32) (0 : Int32)) (fun r129 => if r129 = 0 then (bd (fm_is F σ x3_46 (112 : Int32) (101 : Int32) (110 : Int32) (97 : Int32) (108 : Int32) (116 : Int32) (121 : Int32)) (fun r155 => if r155 = 0 then (bd (fm_is F σ x3_46 (97 : Int32) (108 : Int32) (108 : Int32) (0 : Int32) (0 : Int32) (0 : Int32) (0 : Int32)) (fun r177 => if r177 = 0 then (fm_word_L189 F σ x2 (0 : Int32)) else (fm_word_L189 F σ x2 (6 : Int32)))) else (fm_word_L189 F σ x2 (5 : Int32)))) else (fm_word_L189 F σ x2 (4 : Int32)))) else (fm_word_L189 F σ x2 (3 : Int32)))) else (fm_word_L189 F σ x2 (2 : Int32)))) else (fm_word_L189 F σ x2 (1 : Int32))))
def fm_word_L10_c (F : Nat) (k10 : MS → Int32 → Option (Int32 × MS)) (σ : MS) (x2 : Int32) : Option (Int32 × MS) :=
  if (ms_length σ) ≤ x2 then (fm_word_L40 F σ x2) else (gd (ix x2 120 = true) (bd (fm_in F (ms_text σ x2.toNatClampNeg) (97 : Int32) (122 : Int32)) (fun r28 => if r28 = 0 then (fm_word_L40 F σ x2) else (lt (x2 + (1 : Int32)) (fun x2_34 => k10 σ x2_34)))))
def fm_word_L10 (F : Nat) (n : Nat) (σ : MS) (x2 : Int32) : Option (Int32 × MS) := lpN (fun (k : MS × Int32 → Option (Int32 × MS)) a => fm_word_L10_c F (fun σ x2 => k (σ, x2)) a.1 a.2) n (σ, x2)
def fm_word (F : Nat) (σ : MS) : Option (Int32 × MS) :=
  bd2 (fm_here F σ) (fun r1 σ1 => lt (ms_at σ1) (fun x2_9 => fm_word_L10 F F σ1 x2_9))
set_option maxHeartbeats 4000000 in
set_option maxRecDepth 100000 in
theorem km_word (l : Launch) (D : va_G) (cA : Nat → ClassId) (ad : Nat → Nat) (σ0 : MS) (F : Nat)  (r : Int32) (σr : MS) (hf : fm_word F σ0  = some (r, σr)) : KW l D (tyG cA) yX10_word cX10_word 5 (some .int) (rmk 1 29) (wM cA ad σ0) [.ref (ad 0)] (some (.int r)) (wM cA ad σr) := by
  refine KW.of (by decide) (Nat.le_of_ble_eq_true rfl) ?_
  intro p e s m below meth c A hAe hA C hr hlk hK hP hD hS ls hl
  have hl : lv_has ls 5 [(0, .ref (ad 0))] := hl
  have hB205 : ∀ (H : Heap) (locs : List Loc) (σ : MS) (ls : Array Slot) (x4 : Int32) (s0 : Int32), va_P D vwCl (wM cA ad σ) H → va_D A (wM cA ad σ) → va_S A s.heap H locs → lv_has ls 5 [(0, .ref (ad 0)), (4, .int x4)] → fm_word_L205 F σ x4 s0 = some (r, σr) → WQ p l e 1 29 s m [.ref (ad 0)] below meth c (some (.int r)) D (tyG cA) (wM cA ad σ0) (wM cA ad σr) A H locs (F0 m 205 ls [.int s0, .ref (ad 0)]) := by
    intro H locs σ ls x4 s0 hP hD hS hl hf
    unfold fm_word_L205 at hf
    replace hf := lt_e hf
    refine pm_at C hK hP hD hS dX10_word_205 (fun H locs hP hD hS => ?_)
    refine lv_iload C.1 C.2.1 dX10_word_208 (lv_at hl 1 rfl) ?_
    obtain ⟨rfl, rfl⟩ := Prod.mk.inj (Option.some.inj hf)
    exact KW.iret C hr hlk hK hAe hP hD hS rfl dX10_word_210
  have hB189 : ∀ (H : Heap) (locs : List Loc) (σ : MS) (ls : Array Slot) (x2 : Int32) (s0 : Int32), va_P D vwCl (wM cA ad σ) H → va_D A (wM cA ad σ) → va_S A s.heap H locs → lv_has ls 5 [(0, .ref (ad 0)), (2, .int x2)] → fm_word_L189 F σ x2 s0 = some (r, σr) → WQ p l e 1 29 s m [.ref (ad 0)] below meth c (some (.int r)) D (tyG cA) (wM cA ad σ0) (wM cA ad σr) A H locs (F0 m 189 ls [.int s0]) := by
    intro H locs σ ls x2 s0 hP hD hS hl hf
    unfold fm_word_L189 at hf
    refine lv_istore (lv' := [(4, .int s0), (0, .ref (ad 0)), (2, .int x2)]) C.1 C.2.1 dX10_word_189 hl (by decide) rfl (fun ls hl => ?_)
    refine lv_aload_n C.1 C.2.1 dX10_word_191 rfl (lv_at hl 1 rfl) ?_
    refine lv_iload C.1 C.2.1 dX10_word_192 (lv_at hl 0 rfl) ?_
    refine lv_if_le (tgt := 201) C.1 C.2.1 dX10_word_194 (by decide) (fun c194 => ?_) (fun c194 => ?_)
    · have hf := br_p c194 hf
      refine lv_aload_n C.1 C.2.1 dX10_word_201 rfl (lv_at hl 1 rfl) ?_
      refine gm_at C hK hP dX10_word_202 ?_
      exact hB205 _ _ _ ls _ _ hP hD hS (lv_sub hl [1, 0] rfl) hf
    · have hf := br_n c194 hf
      refine lv_iload_n C.1 C.2.1 dX10_word_197 rfl (lv_at hl 2 rfl) ?_
      refine lv_goto (tgt := 205) C.1 C.2.1 dX10_word_198 (by decide) ?_
      exact hB205 _ _ _ ls _ _ hP hD hS (lv_sub hl [1, 0] rfl) hf
  have hB40 : ∀ (H : Heap) (locs : List Loc) (σ : MS) (ls : Array Slot) (x2 : Int32), va_P D vwCl (wM cA ad σ) H → va_D A (wM cA ad σ) → va_S A s.heap H locs → lv_has ls 5 [(0, .ref (ad 0)), (2, .int x2)] → fm_word_L40 F σ x2 = some (r, σr) → WQ p l e 1 29 s m [.ref (ad 0)] below meth c (some (.int r)) D (tyG cA) (wM cA ad σ0) (wM cA ad σr) A H locs (F0 m 40 ls []) := by
    intro H locs σ ls x2 hP hD hS hl hf
    unfold fm_word_L40 at hf
    refine lv_iload_n C.1 C.2.1 dX10_word_40 rfl (lv_at hl 1 rfl) ?_
    refine lv_aload_n C.1 C.2.1 dX10_word_41 rfl (lv_at hl 0 rfl) ?_
    refine gm_at C hK hP dX10_word_42 ?_
    refine lv_isub C.1 C.2.1 dX10_word_45 ?_
    obtain ⟨x3_46, ex3_46, hf⟩ := lt_some hf
    refine lv_tope ex3_46 ?_
    refine lv_istore_n (lv' := [(3, .int x3_46), (0, .ref (ad 0)), (2, .int x2)]) C.1 C.2.1 dX10_word_46 rfl hl (by decide) rfl (fun ls hl => ?_)
    refine lv_aload_n C.1 C.2.1 dX10_word_47 rfl (lv_at hl 1 rfl) ?_
    refine lv_iload_n C.1 C.2.1 dX10_word_48 rfl (lv_at hl 0 rfl) ?_
    refine lv_bipush (v := (98 : Int32)) C.1 C.2.1 dX10_word_49 (by decide) ?_
    refine lv_bipush (v := (111 : Int32)) C.1 C.2.1 dX10_word_51 (by decide) ?_
    refine lv_bipush (v := (120 : Int32)) C.1 C.2.1 dX10_word_53 (by decide) ?_
    refine lv_iconst (v := (0 : Int32)) C.1 C.2.1 dX10_word_55 (by decide) ?_
    refine lv_iconst (v := (0 : Int32)) C.1 C.2.1 dX10_word_56 (by decide) ?_
    refine lv_iconst (v := (0 : Int32)) C.1 C.2.1 dX10_word_57 (by decide) ?_
    refine lv_iconst (v := (0 : Int32)) C.1 C.2.1 dX10_word_58 (by decide) ?_
    obtain ⟨r59, hc59, hf⟩ := bd_some hf
    refine callRV (As := [_, _, _, _, _, _, _, _]) C hK hP wv_X10_261 hl (km_is l D cA ad _ F _ _ _ _ _ _ _ _ r59 hc59) (rcM hK hP) rfl rfl rfl (Nat.le_of_ble_eq_true rfl) ⟨Nat.le_refl _, Nat.le_refl _⟩ dX10_word_59 ?_
    refine lv_if_eq (tgt := 69) C.1 C.2.1 dX10_word_62 (by decide) (fun c62 => ?_) (fun c62 => ?_)
    · have hf := br_p c62 hf
      refine lv_aload_n C.1 C.2.1 dX10_word_69 rfl (lv_at hl 1 rfl) ?_
      refine lv_iload_n C.1 C.2.1 dX10_word_70 rfl (lv_at hl 0 rfl) ?_
      refine lv_bipush (v := (108 : Int32)) C.1 C.2.1 dX10_word_71 (by decide) ?_
      refine lv_bipush (v := (105 : Int32)) C.1 C.2.1 dX10_word_73 (by decide) ?_
      refine lv_bipush (v := (110 : Int32)) C.1 C.2.1 dX10_word_75 (by decide) ?_
      refine lv_bipush (v := (107 : Int32)) C.1 C.2.1 dX10_word_77 (by decide) ?_
      refine lv_iconst (v := (0 : Int32)) C.1 C.2.1 dX10_word_79 (by decide) ?_
      refine lv_iconst (v := (0 : Int32)) C.1 C.2.1 dX10_word_80 (by decide) ?_
      refine lv_iconst (v := (0 : Int32)) C.1 C.2.1 dX10_word_81 (by decide) ?_
      obtain ⟨r82, hc82, hf⟩ := bd_some hf
      refine callRV (As := [_, _, _, _, _, _, _, _]) C hK hP wv_X10_261 hl (km_is l D cA ad _ F _ _ _ _ _ _ _ _ r82 hc82) (rcM hK hP) rfl rfl rfl (Nat.le_of_ble_eq_true rfl) ⟨Nat.le_refl _, Nat.le_refl _⟩ dX10_word_82 ?_
      refine lv_if_eq (tgt := 92) C.1 C.2.1 dX10_word_85 (by decide) (fun c85 => ?_) (fun c85 => ?_)
      · have hf := br_p c85 hf
        refine lv_aload_n C.1 C.2.1 dX10_word_92 rfl (lv_at hl 1 rfl) ?_
        refine lv_iload_n C.1 C.2.1 dX10_word_93 rfl (lv_at hl 0 rfl) ?_
        refine lv_bipush (v := (114 : Int32)) C.1 C.2.1 dX10_word_94 (by decide) ?_
        refine lv_bipush (v := (111 : Int32)) C.1 C.2.1 dX10_word_96 (by decide) ?_
        refine lv_bipush (v := (117 : Int32)) C.1 C.2.1 dX10_word_98 (by decide) ?_
        refine lv_bipush (v := (116 : Int32)) C.1 C.2.1 dX10_word_100 (by decide) ?_
        refine lv_bipush (v := (101 : Int32)) C.1 C.2.1 dX10_word_102 (by decide) ?_
        refine lv_iconst (v := (0 : Int32)) C.1 C.2.1 dX10_word_104 (by decide) ?_
        refine lv_iconst (v := (0 : Int32)) C.1 C.2.1 dX10_word_105 (by decide) ?_
        obtain ⟨r106, hc106, hf⟩ := bd_some hf
        refine callRV (As := [_, _, _, _, _, _, _, _]) C hK hP wv_X10_261 hl (km_is l D cA ad _ F _ _ _ _ _ _ _ _ r106 hc106) (rcM hK hP) rfl rfl rfl (Nat.le_of_ble_eq_true rfl) ⟨Nat.le_refl _, Nat.le_refl _⟩ dX10_word_106 ?_
        refine lv_if_eq (tgt := 116) C.1 C.2.1 dX10_word_109 (by decide) (fun c109 => ?_) (fun c109 => ?_)
        · have hf := br_p c109 hf
          refine lv_aload_n C.1 C.2.1 dX10_word_116 rfl (lv_at hl 1 rfl) ?_
          refine lv_iload_n C.1 C.2.1 dX10_word_117 rfl (lv_at hl 0 rfl) ?_
          refine lv_bipush (v := (100 : Int32)) C.1 C.2.1 dX10_word_118 (by decide) ?_
          refine lv_bipush (v := (114 : Int32)) C.1 C.2.1 dX10_word_120 (by decide) ?_
          refine lv_bipush (v := (111 : Int32)) C.1 C.2.1 dX10_word_122 (by decide) ?_
          refine lv_bipush (v := (112 : Int32)) C.1 C.2.1 dX10_word_124 (by decide) ?_
          refine lv_iconst (v := (0 : Int32)) C.1 C.2.1 dX10_word_126 (by decide) ?_
          refine lv_iconst (v := (0 : Int32)) C.1 C.2.1 dX10_word_127 (by decide) ?_
          refine lv_iconst (v := (0 : Int32)) C.1 C.2.1 dX10_word_128 (by decide) ?_
          obtain ⟨r129, hc129, hf⟩ := bd_some hf
          refine callRV (As := [_, _, _, _, _, _, _, _]) C hK hP wv_X10_261 hl (km_is l D cA ad _ F _ _ _ _ _ _ _ _ r129 hc129) (rcM hK hP) rfl rfl rfl (Nat.le_of_ble_eq_true rfl) ⟨Nat.le_refl _, Nat.le_refl _⟩ dX10_word_129 ?_
          refine lv_if_eq (tgt := 139) C.1 C.2.1 dX10_word_132 (by decide) (fun c132 => ?_) (fun c132 => ?_)
          · have hf := br_p c132 hf
            refine lv_aload_n C.1 C.2.1 dX10_word_139 rfl (lv_at hl 1 rfl) ?_
            refine lv_iload_n C.1 C.2.1 dX10_word_140 rfl (lv_at hl 0 rfl) ?_
            refine lv_bipush (v := (112 : Int32)) C.1 C.2.1 dX10_word_141 (by decide) ?_
            refine lv_bipush (v := (101 : Int32)) C.1 C.2.1 dX10_word_143 (by decide) ?_
            refine lv_bipush (v := (110 : Int32)) C.1 C.2.1 dX10_word_145 (by decide) ?_
            refine lv_bipush (v := (97 : Int32)) C.1 C.2.1 dX10_word_147 (by decide) ?_
            refine lv_bipush (v := (108 : Int32)) C.1 C.2.1 dX10_word_149 (by decide) ?_
            refine lv_bipush (v := (116 : Int32)) C.1 C.2.1 dX10_word_151 (by decide) ?_
            refine lv_bipush (v := (121 : Int32)) C.1 C.2.1 dX10_word_153 (by decide) ?_
            obtain ⟨r155, hc155, hf⟩ := bd_some hf
            refine callRV (As := [_, _, _, _, _, _, _, _]) C hK hP wv_X10_261 hl (km_is l D cA ad _ F _ _ _ _ _ _ _ _ r155 hc155) (rcM hK hP) rfl rfl rfl (Nat.le_of_ble_eq_true rfl) ⟨Nat.le_refl _, Nat.le_refl _⟩ dX10_word_155 ?_
            refine lv_if_eq (tgt := 165) C.1 C.2.1 dX10_word_158 (by decide) (fun c158 => ?_) (fun c158 => ?_)
            · have hf := br_p c158 hf
              refine lv_aload_n C.1 C.2.1 dX10_word_165 rfl (lv_at hl 1 rfl) ?_
              refine lv_iload_n C.1 C.2.1 dX10_word_166 rfl (lv_at hl 0 rfl) ?_
              refine lv_bipush (v := (97 : Int32)) C.1 C.2.1 dX10_word_167 (by decide) ?_
              refine lv_bipush (v := (108 : Int32)) C.1 C.2.1 dX10_word_169 (by decide) ?_
              refine lv_bipush (v := (108 : Int32)) C.1 C.2.1 dX10_word_171 (by decide) ?_
              refine lv_iconst (v := (0 : Int32)) C.1 C.2.1 dX10_word_173 (by decide) ?_
              refine lv_iconst (v := (0 : Int32)) C.1 C.2.1 dX10_word_174 (by decide) ?_
              refine lv_iconst (v := (0 : Int32)) C.1 C.2.1 dX10_word_175 (by decide) ?_
              refine lv_iconst (v := (0 : Int32)) C.1 C.2.1 dX10_word_176 (by decide) ?_
              obtain ⟨r177, hc177, hf⟩ := bd_some hf
              refine callRV (As := [_, _, _, _, _, _, _, _]) C hK hP wv_X10_261 hl (km_is l D cA ad _ F _ _ _ _ _ _ _ _ r177 hc177) (rcM hK hP) rfl rfl rfl (Nat.le_of_ble_eq_true rfl) ⟨Nat.le_refl _, Nat.le_refl _⟩ dX10_word_177 ?_
              refine lv_if_eq (tgt := 188) C.1 C.2.1 dX10_word_180 (by decide) (fun c180 => ?_) (fun c180 => ?_)
              · have hf := br_p c180 hf
                refine lv_iconst (v := (0 : Int32)) C.1 C.2.1 dX10_word_188 (by decide) ?_
                exact hB189 _ _ _ ls _ _ hP hD hS (lv_sub hl [1, 2] rfl) hf
              · have hf := br_n c180 hf
                refine lv_bipush (v := (6 : Int32)) C.1 C.2.1 dX10_word_183 (by decide) ?_
                refine lv_goto (tgt := 189) C.1 C.2.1 dX10_word_185 (by decide) ?_
                exact hB189 _ _ _ ls _ _ hP hD hS (lv_sub hl [1, 2] rfl) hf
            · have hf := br_n c158 hf
              refine lv_iconst (v := (5 : Int32)) C.1 C.2.1 dX10_word_161 (by decide) ?_
              refine lv_goto (tgt := 189) C.1 C.2.1 dX10_word_162 (by decide) ?_
              exact hB189 _ _ _ ls _ _ hP hD hS (lv_sub hl [1, 2] rfl) hf
          · have hf := br_n c132 hf
            refine lv_iconst (v := (4 : Int32)) C.1 C.2.1 dX10_word_135 (by decide) ?_
            refine lv_goto (tgt := 189) C.1 C.2.1 dX10_word_136 (by decide) ?_
            exact hB189 _ _ _ ls _ _ hP hD hS (lv_sub hl [1, 2] rfl) hf
        · have hf := br_n c109 hf
          refine lv_iconst (v := (3 : Int32)) C.1 C.2.1 dX10_word_112 (by decide) ?_
          refine lv_goto (tgt := 189) C.1 C.2.1 dX10_word_113 (by decide) ?_
          exact hB189 _ _ _ ls _ _ hP hD hS (lv_sub hl [1, 2] rfl) hf
      · have hf := br_n c85 hf
        refine lv_iconst (v := (2 : Int32)) C.1 C.2.1 dX10_word_88 (by decide) ?_
        refine lv_goto (tgt := 189) C.1 C.2.1 dX10_word_89 (by decide) ?_
        exact hB189 _ _ _ ls _ _ hP hD hS (lv_sub hl [1, 2] rfl) hf
    · have hf := br_n c62 hf
      refine lv_iconst (v := (1 : Int32)) C.1 C.2.1 dX10_word_65 (by decide) ?_
      refine lv_goto (tgt := 189) C.1 C.2.1 dX10_word_66 (by decide) ?_
      exact hB189 _ _ _ ls _ _ hP hD hS (lv_sub hl [1, 2] rfl) hf
  have hB10 : ∀ (n10 : Nat) (H : Heap) (locs : List Loc) (σ : MS) (ls : Array Slot) (x2 : Int32), va_P D vwCl (wM cA ad σ) H → va_D A (wM cA ad σ) → va_S A s.heap H locs → lv_has ls 5 [(0, .ref (ad 0)), (2, .int x2)] → fm_word_L10 F n10 σ x2 = some (r, σr) → WQ p l e 1 29 s m [.ref (ad 0)] below meth c (some (.int r)) D (tyG cA) (wM cA ad σ0) (wM cA ad σr) A H locs (F0 m 10 ls []) := by
    intro n10
    induction n10 with
    | zero =>
      intro H locs σ ls x2 hP hD hS hl hf
      cases (show (none : Option _) = _ from hf)
    | succ n10 ih10 =>
      intro H locs σ ls x2 hP hD hS hl hf
      have hf : fm_word_L10_c F (fm_word_L10 F n10) σ x2 = some (r, σr) := hf
      unfold fm_word_L10_c at hf
      refine lv_iload_n C.1 C.2.1 dX10_word_10 rfl (lv_at hl 1 rfl) ?_
      refine lv_aload_n C.1 C.2.1 dX10_word_11 rfl (lv_at hl 0 rfl) ?_
      refine gm_length C hK hP dX10_word_12 ?_
      refine lv_icmp_ge (tgt := 40) C.1 C.2.1 dX10_word_15 (by decide) (fun c15 => ?_) (fun c15 => ?_)
      · have hf := br_p c15 hf
        exact hB40 _ _ _ ls _ hP hD hS (lv_sub hl [0, 1] rfl) hf
      · have hf := br_n c15 hf
        refine lv_aload_n C.1 C.2.1 dX10_word_18 rfl (lv_at hl 0 rfl) ?_
        refine gm_text C hK hP dX10_word_19 ?_
        refine lv_iload_n C.1 C.2.1 dX10_word_22 rfl (lv_at hl 1 rfl) ?_
        obtain ⟨hi23, hf⟩ := gd_some hf
        refine lm_text C hK hP hi23 dX10_word_23 ?_
        refine lv_bipush (v := (97 : Int32)) C.1 C.2.1 dX10_word_24 (by decide) ?_
        refine lv_bipush (v := (122 : Int32)) C.1 C.2.1 dX10_word_26 (by decide) ?_
        obtain ⟨r28, hc28, hf⟩ := bd_some hf
        refine callRS (As := [_, _, _]) C hK hP wv_X10_68 hl (km_in l D cA _ F _ _ _ r28 hc28) rfl rfl rfl (Nat.le_of_ble_eq_true rfl) ⟨Nat.le_refl _, Nat.le_refl _⟩ dX10_word_28 ?_
        refine lv_if_eq (tgt := 40) C.1 C.2.1 dX10_word_31 (by decide) (fun c31 => ?_) (fun c31 => ?_)
        · have hf := br_p c31 hf
          exact hB40 _ _ _ ls _ hP hD hS (lv_sub hl [0, 1] rfl) hf
        · have hf := br_n c31 hf
          obtain ⟨x2_34, ex2_34, hf⟩ := lt_some hf
          refine lv_iinc (v := x2_34) (lv' := [(2, .int x2_34), (0, .ref (ad 0))]) C.1 C.2.1 dX10_word_34 hl (k := 1) rfl (by rw [ex2_34]; rfl) (by decide) rfl (fun ls hl => ?_)
          refine lv_goto (tgt := 10) C.1 C.2.1 dX10_word_37 (by decide) ?_
          exact ih10 _ _ _ ls _ hP hD hS (lv_sub hl [1, 0] rfl) hf
  unfold fm_word at hf
  refine lv_aload_n C.1 C.2.1 dX10_word_0 rfl (lv_at hl 0 rfl) ?_
  obtain ⟨r1, σ1, hc1, hf⟩ := bd2_some hf
  refine callWV (As := []) C hK hP hD hA hS wv_X10_258 hl (km_here l D cA ad _ F r1 σ1 hc1) (rcM hK hP) rfl rfl rfl (Nat.le_of_ble_eq_true rfl) ⟨Nat.le_refl _, Nat.le_refl _⟩ dX10_word_1 (fun H locs hP hD hS => ?_)
  refine lv_istore_n (lv' := [(1, .int r1), (0, .ref (ad 0))]) C.1 C.2.1 dX10_word_4 rfl hl (by decide) rfl (fun ls hl => ?_)
  refine lv_aload_n C.1 C.2.1 dX10_word_5 rfl (lv_at hl 1 rfl) ?_
  refine gm_at C hK hP dX10_word_6 ?_
  obtain ⟨x2_9, ex2_9, hf⟩ := lt_some hf
  refine lv_tope ex2_9 ?_
  refine lv_istore_n (lv' := [(2, .int x2_9), (1, .int r1), (0, .ref (ad 0))]) C.1 C.2.1 dX10_word_9 rfl hl (by decide) rfl (fun ls hl => ?_)
  exact hB10 F _ _ _ ls _ hP hD hS (lv_sub hl [2, 0] rfl) hf
