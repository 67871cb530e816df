def fc_X1_isSound_L37 (F : Nat) (σ : CSt) (s0 : Int32) : Option (Int32) :=
  gd (s0 = 0 ∨ s0 = 1) (some s0)
def fc_X1_isSound_L36 (F : Nat) (σ : CSt) : Option (Int32) :=
  fc_X1_isSound_L37 F σ (0 : Int32)
def fc_X1_isSound (F : Nat) (σ : CSt) (x0 : Int32) (x1 : Int32) (x2 : Int32) (x3 : Int32) : Option (Int32) :=
  if x0 < (2 : Int32) then (fc_X1_isSound_L36 F σ) else (if x2 ≤ x0 then (fc_X1_isSound_L36 F σ) else (if (97 : Int32) < x2 then (fc_X1_isSound_L36 F σ) else (if x1 < (2 : Int32) then (fc_X1_isSound_L36 F σ) else (if x3 ≤ x1 then (fc_X1_isSound_L36 F σ) else (if (97 : Int32) < x3 then (fc_X1_isSound_L36 F σ) else (fc_X1_isSound_L37 F σ (1 : Int32)))))))
set_option maxHeartbeats 4000000 in
set_option maxRecDepth 100000 in
theorem kc_X1_isSound (l : Launch) (D : va_G) (cA : Nat → ClassId) (ad : Nat → Nat) (σ : CSt) (η : HS) (F : Nat) (z0 : Int32) (z1 : Int32) (z2 : Int32) (z3 : Int32) (r : Int32) (hf : fc_X1_isSound F σ z0 z1 z2 z3 = some r) : KRc l D cA ad σ η yX1_isSound cX1_isSound 4 (some .boolean) (rmk 0 0) [.int z0, .int z1, .int z2, .int z3] (QcV (.int r)) := by
  refine KRc.of (by decide) (Nat.le_of_ble_eq_true rfl) ?_
  intro p e s m below meth c C hr hlk hK hP hZ ls hl
  have hS : va_S NoA s.heap s.heap [] := va_S.rf
  have hl : lv_has ls 4 [(0, .int z0), (1, .int z1), (2, .int z2), (3, .int z3)] := hl
  have hB37 : ∀ (ls : Array Slot) (s0 : Int32), lv_has ls 4 [] → fc_X1_isSound_L37 F σ s0 = some r → WRc p l e 0 0 s m [.int z0, .int z1, .int z2, .int z3] below meth c (QcV (.int r)) (F0 m 37 ls [.int s0]) := by
    intro ls s0 hl hf
    unfold fc_X1_isSound_L37 at hf
    obtain ⟨hz37, hf⟩ := gd_some hf
    exact KRc.zret C hr hlk hz37 (Option.some.inj hf) dX1_isSound_37
  have hB36 : ∀ (ls : Array Slot), lv_has ls 4 [] → fc_X1_isSound_L36 F σ = some r → WRc p l e 0 0 s m [.int z0, .int z1, .int z2, .int z3] below meth c (QcV (.int r)) (F0 m 36 ls []) := by
    intro ls hl hf
    unfold fc_X1_isSound_L36 at hf
    refine lv_iconst (v := (0 : Int32)) C.1 C.2.1 dX1_isSound_36 (by decide) ?_
    exact hB37 ls _ (lv_sub hl [] rfl) hf
  unfold fc_X1_isSound at hf
  refine lv_iload_n C.1 C.2.1 dX1_isSound_0 rfl (lv_at hl 0 rfl) ?_
  refine lv_iconst (v := (2 : Int32)) C.1 C.2.1 dX1_isSound_1 (by decide) ?_
  refine lv_icmp_lt (tgt := 36) C.1 C.2.1 dX1_isSound_2 (by decide) (fun c2 => ?_) (fun c2 => ?_)
  · have hf := br_p c2 hf
    exact hB36 ls (lv_sub hl [] rfl) hf
  · have hf := br_n c2 hf
    refine lv_iload_n C.1 C.2.1 dX1_isSound_5 rfl (lv_at hl 2 rfl) ?_
    refine lv_iload_n C.1 C.2.1 dX1_isSound_6 rfl (lv_at hl 0 rfl) ?_
    refine lv_icmp_le (tgt := 36) C.1 C.2.1 dX1_isSound_7 (by decide) (fun c7 => ?_) (fun c7 => ?_)
    · have hf := br_p c7 hf
      exact hB36 ls (lv_sub hl [] rfl) hf
    · have hf := br_n c7 hf
      refine lv_iload_n C.1 C.2.1 dX1_isSound_10 rfl (lv_at hl 2 rfl) ?_
      refine lv_bipush (v := (97 : Int32)) C.1 C.2.1 dX1_isSound_11 (by decide) ?_
      refine lv_icmp_gt (tgt := 36) C.1 C.2.1 dX1_isSound_13 (by decide) (fun c13 => ?_) (fun c13 => ?_)
      · have hf := br_p c13 hf
        exact hB36 ls (lv_sub hl [] rfl) hf
      · have hf := br_n c13 hf
        refine lv_iload_n C.1 C.2.1 dX1_isSound_16 rfl (lv_at hl 1 rfl) ?_
        refine lv_iconst (v := (2 : Int32)) C.1 C.2.1 dX1_isSound_17 (by decide) ?_
        refine lv_icmp_lt (tgt := 36) C.1 C.2.1 dX1_isSound_18 (by decide) (fun c18 => ?_) (fun c18 => ?_)
        · have hf := br_p c18 hf
          exact hB36 ls (lv_sub hl [] rfl) hf
        · have hf := br_n c18 hf
          refine lv_iload_n C.1 C.2.1 dX1_isSound_21 rfl (lv_at hl 3 rfl) ?_
          refine lv_iload_n C.1 C.2.1 dX1_isSound_22 rfl (lv_at hl 1 rfl) ?_
          refine lv_icmp_le (tgt := 36) C.1 C.2.1 dX1_isSound_23 (by decide) (fun c23 => ?_) (fun c23 => ?_)
          · have hf := br_p c23 hf
            exact hB36 ls (lv_sub hl [] rfl) hf
          · have hf := br_n c23 hf
            refine lv_iload_n C.1 C.2.1 dX1_isSound_26 rfl (lv_at hl 3 rfl) ?_
            refine lv_bipush (v := (97 : Int32)) C.1 C.2.1 dX1_isSound_27 (by decide) ?_
            refine lv_icmp_gt (tgt := 36) C.1 C.2.1 dX1_isSound_29 (by decide) (fun c29 => ?_) (fun c29 => ?_)
            · have hf := br_p c29 hf
              exact hB36 ls (lv_sub hl [] rfl) hf
            · have hf := br_n c29 hf
              refine lv_iconst (v := (1 : Int32)) C.1 C.2.1 dX1_isSound_32 (by decide) ?_
              refine lv_goto (tgt := 37) C.1 C.2.1 dX1_isSound_33 (by decide) ?_
              exact hB37 ls _ (lv_sub hl [] rfl) hf
def fc_X1_edge (F : Nat) (σ : CSt) (x1 : Int32) (x2 : Int32) : Option (Int32) :=
  gd (ix (((4 : Int32) * x1) + x2) 32 = true) (some (cs_ce σ (((4 : Int32) * x1) + x2).toNatClampNeg))
set_option maxHeartbeats 4000000 in
set_option maxRecDepth 100000 in
theorem kc_X1_edge (l : Launch) (D : va_G) (cA : Nat → ClassId) (ad : Nat → Nat) (σ : CSt) (η : HS) (F : Nat) (z1 : Int32) (z2 : Int32) (r : Int32) (hf : fc_X1_edge F σ z1 z2 = some r) : KRc l D cA ad σ η yX1_edge cX1_edge 3 (some .int) (rmk 0 0) [.ref (ad 1), .int z1, .int z2] (QcV (.int r)) := by
  refine KRc.of (by decide) (Nat.le_of_ble_eq_true rfl) ?_
  intro p e s m below meth c C hr hlk hK hP hZ ls hl
  have hS : va_S NoA s.heap s.heap [] := va_S.rf
  have hl : lv_has ls 3 [(0, .ref (ad 1)), (1, .int z1), (2, .int z2)] := hl
  unfold fc_X1_edge at hf
  refine lv_aload_n C.1 C.2.1 dX1_edge_0 rfl (lv_at hl 0 rfl) ?_
  refine gc_cv_edges C hK hP wf_X1_15 dX1_edge_1 ?_
  refine lv_iconst (v := (4 : Int32)) C.1 C.2.1 dX1_edge_4 (by decide) ?_
  refine lv_iload_n C.1 C.2.1 dX1_edge_5 rfl (lv_at hl 1 rfl) ?_
  refine lv_imul C.1 C.2.1 dX1_edge_6 ?_
  refine lv_iload_n C.1 C.2.1 dX1_edge_7 rfl (lv_at hl 2 rfl) ?_
  refine lv_iadd C.1 C.2.1 dX1_edge_8 ?_
  obtain ⟨hi9, hf⟩ := gd_some hf
  refine lc_ce C hK hP hi9 dX1_edge_9 ?_
  exact KRc.iret C hr hlk (Option.some.inj hf) dX1_edge_10
def fc_X1_isTooNear_L86 (F : Nat) (σ : CSt) (k3 : Int32 → Int32 → Int32 → Int32 → Int32 → Int32 → Option (Int32)) (x1 : Int32) (x2 : Int32) (x3 : Int32) (x4 : Int32) (x5 : Int32) (x6 : Int32) : Option (Int32) :=
  lt (x6 + (1 : Int32)) (fun x6_86 => k3 x1 x2 x3 x4 x5 x6_86)
def fc_X1_isTooNear_L71 (F : Nat) (σ : CSt) (k3 : Int32 → Int32 → Int32 → Int32 → Int32 → Int32 → Option (Int32)) (x1 : Int32) (x2 : Int32) (x3 : Int32) (x4 : Int32) (x5 : Int32) (x6 : Int32) (s0 : Int32) : Option (Int32) :=
  if x6 = x1 then (fc_X1_isTooNear_L86 F σ k3 x1 x2 x3 x4 x5 x6) else (if s0 = 0 then (some (1 : Int32)) else (fc_X1_isTooNear_L86 F σ k3 x1 x2 x3 x4 x5 x6))
def fc_X1_isTooNear_L66 (F : Nat) (σ : CSt) (k3 : Int32 → Int32 → Int32 → Int32 → Int32 → Int32 → Option (Int32)) (x1 : Int32) (x2 : Int32) (x3 : Int32) (x4 : Int32) (x5 : Int32) (x6 : Int32) : Option (Int32) :=
  fc_X1_isTooNear_L71 F σ k3 x1 x2 x3 x4 x5 x6 (1 : Int32)
def fc_X1_isTooNear_L3_c (F : Nat) (σ : CSt) (k3 : Int32 → Int32 → Int32 → Int32 → Int32 → Int32 → Option (Int32)) (x1 : Int32) (x2 : Int32) (x3 : Int32) (x4 : Int32) (x5 : Int32) (x6 : Int32) : Option (Int32) :=
  if (cs_cb σ) ≤ x6 then (some (0 : Int32)) else (bd (fc_X1_edge F σ x6 (2 : Int32)) (fun r17 => if (r17 + (2 : Int32)) ≤ x2 then (fc_X1_isTooNear_L66 F σ k3 x1 x2 x3 x4 x5 x6) else (bd (fc_X1_edge F σ x6 (0 : Int32)) (fun r29 => if (x4 + (2 : Int32)) ≤ r29 then (fc_X1_isTooNear_L66 F σ k3 x1 x2 x3 x4 x5 x6) else (bd (fc_X1_edge F σ x6 (3 : Int32)) (fun r44 => if (r44 + (2 : Int32)) ≤ x3 then (fc_X1_isTooNear_L66 F σ k3 x1 x2 x3 x4 x5 x6) else (bd (fc_X1_edge F σ x6 (1 : Int32)) (fun r56 => if r56 < (x5 + (2 : Int32)) then (fc_X1_isTooNear_L71 F σ k3 x1 x2 x3 x4 x5 x6 (0 : Int32)) else (fc_X1_isTooNear_L66 F σ k3 x1 x2 x3 x4 x5 x6)))))))))
def fc_X1_isTooNear_L3 (F : Nat) (σ : CSt) (n : Nat) (x1 : Int32) (x2 : Int32) (x3 : Int32) (x4 : Int32) (x5 : Int32) (x6 : Int32) : Option (Int32) := lpN (fun (k : Int32 × Int32 × Int32 × Int32 × Int32 × Int32 → Option (Int32)) a => fc_X1_isTooNear_L3_c F σ (fun x1 x2 x3 x4 x5 x6 => k (x1, x2, x3, x4, x5, x6)) a.1 a.2.1 a.2.2.1 a.2.2.2.1 a.2.2.2.2.1 a.2.2.2.2.2) n (x1, x2, x3, x4, x5, x6)
def fc_X1_isTooNear (F : Nat) (σ : CSt) (x1 : Int32) (x2 : Int32) (x3 : Int32) (x4 : Int32) (x5 : Int32) : Option (Int32) :=
  fc_X1_isTooNear_L3 F σ F x1 x2 x3 x4 x5 (0 : Int32)
set_option maxHeartbeats 4000000 in
set_option maxRecDepth 100000 in
theorem kc_X1_isTooNear (l : Launch) (D : va_G) (cA : Nat → ClassId) (ad : Nat → Nat) (σ : CSt) (η : HS) (F : Nat) (z1 : Int32) (z2 : Int32) (z3 : Int32) (z4 : Int32) (z5 : Int32) (r : Int32) (hf : fc_X1_isTooNear F σ z1 z2 z3 z4 z5 = some r) : KRc l D cA ad σ η yX1_isTooNear cX1_isTooNear 8 (some .boolean) (rmk 1 22) [.ref (ad 1), .int z1, .int z2, .int z3, .int z4, .int z5] (QcV (.int r)) := by
  refine KRc.of (by decide) (Nat.le_of_ble_eq_true rfl) ?_
  intro p e s m below meth c C hr hlk hK hP hZ ls hl
  have hS : va_S NoA s.heap s.heap [] := va_S.rf
  have hl : lv_has ls 8 [(0, .ref (ad 1)), (1, .int z1), (2, .int z2), (3, .int z3), (4, .int z4), (5, .int z5)] := hl
  have hB3 : ∀ (n3 : Nat) (ls : Array Slot) (x1 : Int32) (x2 : Int32) (x3 : Int32) (x4 : Int32) (x5 : Int32) (x6 : Int32), lv_has ls 8 [(0, .ref (ad 1)), (1, .int x1), (2, .int x2), (3, .int x3), (4, .int x4), (5, .int x5), (6, .int x6)] → fc_X1_isTooNear_L3 F σ n3 x1 x2 x3 x4 x5 x6 = some r → WRc p l e 1 22 s m [.ref (ad 1), .int z1, .int z2, .int z3, .int z4, .int z5] below meth c (QcV (.int r)) (F0 m 3 ls []) := by
    intro n3
    induction n3 with
    | zero =>
      intro ls x1 x2 x3 x4 x5 x6 hl hf
      cases (show (none : Option _) = _ from hf)
    | succ n3 ih3 =>
      have hB86 : ∀ (ls : Array Slot) (x1 : Int32) (x2 : Int32) (x3 : Int32) (x4 : Int32) (x5 : Int32) (x6 : Int32), lv_has ls 8 [(0, .ref (ad 1)), (1, .int x1), (2, .int x2), (3, .int x3), (4, .int x4), (5, .int x5), (6, .int x6)] → fc_X1_isTooNear_L86 F σ (fc_X1_isTooNear_L3 F σ n3) x1 x2 x3 x4 x5 x6 = some r → WRc p l e 1 22 s m [.ref (ad 1), .int z1, .int z2, .int z3, .int z4, .int z5] below meth c (QcV (.int r)) (F0 m 86 ls []) := by
        intro ls x1 x2 x3 x4 x5 x6 hl hf
        unfold fc_X1_isTooNear_L86 at hf
        obtain ⟨x6_86, ex6_86, hf⟩ := lt_some hf
        refine lv_iinc (v := x6_86) (lv' := [(6, .int x6_86), (0, .ref (ad 1)), (1, .int x1), (2, .int x2), (3, .int x3), (4, .int x4), (5, .int x5)]) C.1 C.2.1 dX1_isTooNear_86 hl (k := 6) rfl (by rw [ex6_86]; rfl) (by decide) rfl (fun ls hl => ?_)
        refine lv_goto (tgt := 3) C.1 C.2.1 dX1_isTooNear_89 (by decide) ?_
        exact ih3 ls _ _ _ _ _ _ (lv_sub hl [1, 2, 3, 4, 5, 6, 0] rfl) hf
      have hB71 : ∀ (ls : Array Slot) (x1 : Int32) (x2 : Int32) (x3 : Int32) (x4 : Int32) (x5 : Int32) (x6 : Int32) (s0 : Int32), lv_has ls 8 [(0, .ref (ad 1)), (1, .int x1), (2, .int x2), (3, .int x3), (4, .int x4), (5, .int x5), (6, .int x6)] → fc_X1_isTooNear_L71 F σ (fc_X1_isTooNear_L3 F σ n3) x1 x2 x3 x4 x5 x6 s0 = some r → WRc p l e 1 22 s m [.ref (ad 1), .int z1, .int z2, .int z3, .int z4, .int z5] below meth c (QcV (.int r)) (F0 m 71 ls [.int s0]) := by
        intro ls x1 x2 x3 x4 x5 x6 s0 hl hf
        unfold fc_X1_isTooNear_L71 at hf
        refine lv_istore (lv' := [(7, .int s0), (0, .ref (ad 1)), (1, .int x1), (2, .int x2), (3, .int x3), (4, .int x4), (5, .int x5), (6, .int x6)]) C.1 C.2.1 dX1_isTooNear_71 hl (by decide) rfl (fun ls hl => ?_)
        refine lv_iload C.1 C.2.1 dX1_isTooNear_73 (lv_at hl 7 rfl) ?_
        refine lv_iload_n C.1 C.2.1 dX1_isTooNear_75 rfl (lv_at hl 2 rfl) ?_
        refine lv_icmp_eq (tgt := 86) C.1 C.2.1 dX1_isTooNear_76 (by decide) (fun c76 => ?_) (fun c76 => ?_)
        · have hf := br_p c76 hf
          exact hB86 ls _ _ _ _ _ _ (lv_sub hl [1, 2, 3, 4, 5, 6, 7] rfl) hf
        · have hf := br_n c76 hf
          refine lv_iload C.1 C.2.1 dX1_isTooNear_79 (lv_at hl 0 rfl) ?_
          refine lv_if_ne (tgt := 86) C.1 C.2.1 dX1_isTooNear_81 (by decide) (fun c81 => ?_) (fun c81 => ?_)
          · have hf := br_n c81 hf
            exact hB86 ls _ _ _ _ _ _ (lv_sub hl [1, 2, 3, 4, 5, 6, 7] rfl) hf
          · have hf := br_p c81 hf
            refine lv_iconst (v := (1 : Int32)) C.1 C.2.1 dX1_isTooNear_84 (by decide) ?_
            exact KRc.zret C hr hlk (by decide) (Option.some.inj hf) dX1_isTooNear_85
      have hB66 : ∀ (ls : Array Slot) (x1 : Int32) (x2 : Int32) (x3 : Int32) (x4 : Int32) (x5 : Int32) (x6 : Int32), lv_has ls 8 [(0, .ref (ad 1)), (1, .int x1), (2, .int x2), (3, .int x3), (4, .int x4), (5, .int x5), (6, .int x6)] → fc_X1_isTooNear_L66 F σ (fc_X1_isTooNear_L3 F σ n3) x1 x2 x3 x4 x5 x6 = some r → WRc p l e 1 22 s m [.ref (ad 1), .int z1, .int z2, .int z3, .int z4, .int z5] below meth c (QcV (.int r)) (F0 m 66 ls []) := by
        intro ls x1 x2 x3 x4 x5 x6 hl hf
        unfold fc_X1_isTooNear_L66 at hf
        refine lv_iconst (v := (1 : Int32)) C.1 C.2.1 dX1_isTooNear_66 (by decide) ?_
        refine lv_goto (tgt := 71) C.1 C.2.1 dX1_isTooNear_67 (by decide) ?_
        exact hB71 ls _ _ _ _ _ _ _ (lv_sub hl [0, 1, 2, 3, 4, 5, 6] rfl) hf
      intro ls x1 x2 x3 x4 x5 x6 hl hf
      have hf : fc_X1_isTooNear_L3_c F σ (fc_X1_isTooNear_L3 F σ n3) x1 x2 x3 x4 x5 x6 = some r := hf
      unfold fc_X1_isTooNear_L3_c at hf
      refine lv_iload C.1 C.2.1 dX1_isTooNear_3 (lv_at hl 6 rfl) ?_
      refine lv_aload_n C.1 C.2.1 dX1_isTooNear_5 rfl (lv_at hl 0 rfl) ?_
      refine gc_cv_boxes C hK hP wf_X1_28 dX1_isTooNear_6 ?_
      refine lv_icmp_ge (tgt := 92) C.1 C.2.1 dX1_isTooNear_9 (by decide) (fun c9 => ?_) (fun c9 => ?_)
      · have hf := br_p c9 hf
        refine lv_iconst (v := (0 : Int32)) C.1 C.2.1 dX1_isTooNear_92 (by decide) ?_
        exact KRc.zret C hr hlk (by decide) (Option.some.inj hf) dX1_isTooNear_93
      · have hf := br_n c9 hf
        refine lv_iload_n C.1 C.2.1 dX1_isTooNear_12 rfl (lv_at hl 2 rfl) ?_
        refine lv_aload_n C.1 C.2.1 dX1_isTooNear_13 rfl (lv_at hl 0 rfl) ?_
        refine lv_iload C.1 C.2.1 dX1_isTooNear_14 (lv_at hl 6 rfl) ?_
        refine lv_iconst (v := (2 : Int32)) C.1 C.2.1 dX1_isTooNear_16 (by decide) ?_
        obtain ⟨r17, hc17, hf⟩ := bd_some hf
        refine cV_go (runRVc (As := [_, _]) C hK hP hZ hS wv_X1_40 hl (kc_X1_edge l D cA ad _ η F _ _  r17 hc17) (rcC 1 2 hK hP rfl rfl) rfl rfl rfl (Nat.le_of_ble_eq_true rfl) ⟨Nat.le_refl _, Nat.le_refl _⟩ dX1_isTooNear_17) ?_
        refine lv_iconst (v := (2 : Int32)) C.1 C.2.1 dX1_isTooNear_20 (by decide) ?_
        refine lv_iadd C.1 C.2.1 dX1_isTooNear_21 ?_
        refine lv_icmp_ge (tgt := 66) C.1 C.2.1 dX1_isTooNear_22 (by decide) (fun c22 => ?_) (fun c22 => ?_)
        · have hf := br_p c22 hf
          exact hB66 ls _ _ _ _ _ _ (lv_sub hl [0, 1, 2, 3, 4, 5, 6] rfl) hf
        · have hf := br_n c22 hf
          refine lv_aload_n C.1 C.2.1 dX1_isTooNear_25 rfl (lv_at hl 0 rfl) ?_
          refine lv_iload C.1 C.2.1 dX1_isTooNear_26 (lv_at hl 6 rfl) ?_
          refine lv_iconst (v := (0 : Int32)) C.1 C.2.1 dX1_isTooNear_28 (by decide) ?_
          obtain ⟨r29, hc29, hf⟩ := bd_some hf
          refine cV_go (runRVc (As := [_, _]) C hK hP hZ hS wv_X1_40 hl (kc_X1_edge l D cA ad _ η F _ _  r29 hc29) (rcC 1 2 hK hP rfl rfl) rfl rfl rfl (Nat.le_of_ble_eq_true rfl) ⟨Nat.le_refl _, Nat.le_refl _⟩ dX1_isTooNear_29) ?_
          refine lv_iload C.1 C.2.1 dX1_isTooNear_32 (lv_at hl 4 rfl) ?_
          refine lv_iconst (v := (2 : Int32)) C.1 C.2.1 dX1_isTooNear_34 (by decide) ?_
          refine lv_iadd C.1 C.2.1 dX1_isTooNear_35 ?_
          refine lv_icmp_ge (tgt := 66) C.1 C.2.1 dX1_isTooNear_36 (by decide) (fun c36 => ?_) (fun c36 => ?_)
          · have hf := br_p c36 hf
            exact hB66 ls _ _ _ _ _ _ (lv_sub hl [0, 1, 2, 3, 4, 5, 6] rfl) hf
          · have hf := br_n c36 hf
            refine lv_iload_n C.1 C.2.1 dX1_isTooNear_39 rfl (lv_at hl 3 rfl) ?_
            refine lv_aload_n C.1 C.2.1 dX1_isTooNear_40 rfl (lv_at hl 0 rfl) ?_
            refine lv_iload C.1 C.2.1 dX1_isTooNear_41 (lv_at hl 6 rfl) ?_
            refine lv_iconst (v := (3 : Int32)) C.1 C.2.1 dX1_isTooNear_43 (by decide) ?_
            obtain ⟨r44, hc44, hf⟩ := bd_some hf
            refine cV_go (runRVc (As := [_, _]) C hK hP hZ hS wv_X1_40 hl (kc_X1_edge l D cA ad _ η F _ _  r44 hc44) (rcC 1 2 hK hP rfl rfl) rfl rfl rfl (Nat.le_of_ble_eq_true rfl) ⟨Nat.le_refl _, Nat.le_refl _⟩ dX1_isTooNear_44) ?_
            refine lv_iconst (v := (2 : Int32)) C.1 C.2.1 dX1_isTooNear_47 (by decide) ?_
            refine lv_iadd C.1 C.2.1 dX1_isTooNear_48 ?_
            refine lv_icmp_ge (tgt := 66) C.1 C.2.1 dX1_isTooNear_49 (by decide) (fun c49 => ?_) (fun c49 => ?_)
            · have hf := br_p c49 hf
              exact hB66 ls _ _ _ _ _ _ (lv_sub hl [0, 1, 2, 3, 4, 5, 6] rfl) hf
            · have hf := br_n c49 hf
              refine lv_aload_n C.1 C.2.1 dX1_isTooNear_52 rfl (lv_at hl 0 rfl) ?_
              refine lv_iload C.1 C.2.1 dX1_isTooNear_53 (lv_at hl 6 rfl) ?_
              refine lv_iconst (v := (1 : Int32)) C.1 C.2.1 dX1_isTooNear_55 (by decide) ?_
              obtain ⟨r56, hc56, hf⟩ := bd_some hf
              refine cV_go (runRVc (As := [_, _]) C hK hP hZ hS wv_X1_40 hl (kc_X1_edge l D cA ad _ η F _ _  r56 hc56) (rcC 1 2 hK hP rfl rfl) rfl rfl rfl (Nat.le_of_ble_eq_true rfl) ⟨Nat.le_refl _, Nat.le_refl _⟩ dX1_isTooNear_56) ?_
              refine lv_iload C.1 C.2.1 dX1_isTooNear_59 (lv_at hl 5 rfl) ?_
              refine lv_iconst (v := (2 : Int32)) C.1 C.2.1 dX1_isTooNear_61 (by decide) ?_
              refine lv_iadd C.1 C.2.1 dX1_isTooNear_62 ?_
              refine lv_icmp_lt (tgt := 70) C.1 C.2.1 dX1_isTooNear_63 (by decide) (fun c63 => ?_) (fun c63 => ?_)
              · have hf := br_p c63 hf
                refine lv_iconst (v := (0 : Int32)) C.1 C.2.1 dX1_isTooNear_70 (by decide) ?_
                exact hB71 ls _ _ _ _ _ _ _ (lv_sub hl [0, 1, 2, 3, 4, 5, 6] rfl) hf
              · have hf := br_n c63 hf
                exact hB66 ls _ _ _ _ _ _ (lv_sub hl [0, 1, 2, 3, 4, 5, 6] rfl) hf
  unfold fc_X1_isTooNear at hf
  refine lv_iconst (v := (0 : Int32)) C.1 C.2.1 dX1_isTooNear_0 (by decide) ?_
  refine lv_istore (lv' := [(6, .int (0 : Int32)), (0, .ref (ad 1)), (1, .int z1), (2, .int z2), (3, .int z3), (4, .int z4), (5, .int z5)]) C.1 C.2.1 dX1_isTooNear_1 hl (by decide) rfl (fun ls hl => ?_)
  exact hB3 F ls _ _ _ _ _ _ (lv_sub hl [1, 2, 3, 4, 5, 6, 0] rfl) hf
def fc_X1_putBox (F : Nat) (σ : CSt) (x1 : Int32) (x2 : Int32) (x3 : Int32) (x4 : Int32) (x5 : Int32) : Option (CSt) :=
  gd (ix (((4 : Int32) * x1) + (0 : Int32)) 32 = true) (lt (sc_ce σ (((4 : Int32) * x1) + (0 : Int32)) x2) (fun σ10 => gd (ix (((4 : Int32) * x1) + (1 : Int32)) 32 = true) (lt (sc_ce σ10 (((4 : Int32) * x1) + (1 : Int32)) x3) (fun σ21 => gd (ix (((4 : Int32) * x1) + (2 : Int32)) 32 = true) (lt (sc_ce σ21 (((4 : Int32) * x1) + (2 : Int32)) x4) (fun σ33 => gd (ix (((4 : Int32) * x1) + (3 : Int32)) 32 = true) (lt (sc_ce σ33 (((4 : Int32) * x1) + (3 : Int32)) x5) (fun σ45 => some σ45))))))))
set_option maxHeartbeats 4000000 in
set_option maxRecDepth 100000 in
theorem kc_X1_putBox (l : Launch) (D : va_G) (cA : Nat → ClassId) (ad : Nat → Nat) (σ0 : CSt) (η : HS) (F : Nat) (z1 : Int32) (z2 : Int32) (z3 : Int32) (z4 : Int32) (z5 : Int32) (σr : CSt) (hf : fc_X1_putBox F σ0 z1 z2 z3 z4 z5 = some σr) : KC l D cA ad σ0 η yX1_putBox cX1_putBox 6 none (rmk 0 0) [.ref (ad 1), .int z1, .int z2, .int z3, .int z4, .int z5] none σr := by
  refine KC.of (by decide) (Nat.le_of_ble_eq_true rfl) ?_
  intro p e s m below meth c A hAe hA C hr hlk hK hP hD hS hZ ls hl
  have hl : lv_has ls 6 [(0, .ref (ad 1)), (1, .int z1), (2, .int z2), (3, .int z3), (4, .int z4), (5, .int z5)] := hl
  unfold fc_X1_putBox at hf
  refine lv_aload_n C.1 C.2.1 dX1_putBox_0 rfl (lv_at hl 0 rfl) ?_
  refine gc_cv_edges C hK hP wf_X1_15 dX1_putBox_1 ?_
  refine lv_iconst (v := (4 : Int32)) C.1 C.2.1 dX1_putBox_4 (by decide) ?_
  refine lv_iload_n C.1 C.2.1 dX1_putBox_5 rfl (lv_at hl 1 rfl) ?_
  refine lv_imul C.1 C.2.1 dX1_putBox_6 ?_
  refine lv_iconst (v := (0 : Int32)) C.1 C.2.1 dX1_putBox_7 (by decide) ?_
  refine lv_iadd C.1 C.2.1 dX1_putBox_8 ?_
  refine lv_iload_n C.1 C.2.1 dX1_putBox_9 rfl (lv_at hl 2 rfl) ?_
  obtain ⟨hi10, hf⟩ := gd_some hf
  replace hf := lt_e hf
  refine uc_ce C hK hP hD hS hi10 dX1_putBox_10 (fun H locs hP hD hS => ?_)
  refine lv_aload_n C.1 C.2.1 dX1_putBox_11 rfl (lv_at hl 0 rfl) ?_
  refine gc_cv_edges C hK hP wf_X1_15 dX1_putBox_12 ?_
  refine lv_iconst (v := (4 : Int32)) C.1 C.2.1 dX1_putBox_15 (by decide) ?_
  refine lv_iload_n C.1 C.2.1 dX1_putBox_16 rfl (lv_at hl 1 rfl) ?_
  refine lv_imul C.1 C.2.1 dX1_putBox_17 ?_
  refine lv_iconst (v := (1 : Int32)) C.1 C.2.1 dX1_putBox_18 (by decide) ?_
  refine lv_iadd C.1 C.2.1 dX1_putBox_19 ?_
  refine lv_iload_n C.1 C.2.1 dX1_putBox_20 rfl (lv_at hl 3 rfl) ?_
  obtain ⟨hi21, hf⟩ := gd_some hf
  replace hf := lt_e hf
  refine uc_ce C hK hP hD hS hi21 dX1_putBox_21 (fun H locs hP hD hS => ?_)
  refine lv_aload_n C.1 C.2.1 dX1_putBox_22 rfl (lv_at hl 0 rfl) ?_
  refine gc_cv_edges C hK hP wf_X1_15 dX1_putBox_23 ?_
  refine lv_iconst (v := (4 : Int32)) C.1 C.2.1 dX1_putBox_26 (by decide) ?_
  refine lv_iload_n C.1 C.2.1 dX1_putBox_27 rfl (lv_at hl 1 rfl) ?_
  refine lv_imul C.1 C.2.1 dX1_putBox_28 ?_
  refine lv_iconst (v := (2 : Int32)) C.1 C.2.1 dX1_putBox_29 (by decide) ?_
  refine lv_iadd C.1 C.2.1 dX1_putBox_30 ?_
  refine lv_iload C.1 C.2.1 dX1_putBox_31 (lv_at hl 4 rfl) ?_
  obtain ⟨hi33, hf⟩ := gd_some hf
  replace hf := lt_e hf
  refine uc_ce C hK hP hD hS hi33 dX1_putBox_33 (fun H locs hP hD hS => ?_)
  refine lv_aload_n C.1 C.2.1 dX1_putBox_34 rfl (lv_at hl 0 rfl) ?_
  refine gc_cv_edges C hK hP wf_X1_15 dX1_putBox_35 ?_
  refine lv_iconst (v := (4 : Int32)) C.1 C.2.1 dX1_putBox_38 (by decide) ?_
  refine lv_iload_n C.1 C.2.1 dX1_putBox_39 rfl (lv_at hl 1 rfl) ?_
  refine lv_imul C.1 C.2.1 dX1_putBox_40 ?_
  refine lv_iconst (v := (3 : Int32)) C.1 C.2.1 dX1_putBox_41 (by decide) ?_
  refine lv_iadd C.1 C.2.1 dX1_putBox_42 ?_
  refine lv_iload C.1 C.2.1 dX1_putBox_43 (lv_at hl 5 rfl) ?_
  obtain ⟨hi45, hf⟩ := gd_some hf
  replace hf := lt_e hf
  refine uc_ce C hK hP hD hS hi45 dX1_putBox_45 (fun H locs hP hD hS => ?_)
  obtain rfl := Option.some.inj hf
  exact KC.vret C hr hlk hK hAe hP hD hS rfl dX1_putBox_46
def fc_X1_hasBox_L17 (F : Nat) (σ : CSt) (s0 : Int32) : Option (Int32) :=
  gd (s0 = 0 ∨ s0 = 1) (some s0)
def fc_X1_hasBox_L16 (F : Nat) (σ : CSt) : Option (Int32) :=
  fc_X1_hasBox_L17 F σ (0 : Int32)
def fc_X1_hasBox (F : Nat) (σ : CSt) (x1 : Int32) : Option (Int32) :=
  if x1 < 0 then (fc_X1_hasBox_L16 F σ) else (if (cs_cb σ) ≤ x1 then (fc_X1_hasBox_L16 F σ) else (fc_X1_hasBox_L17 F σ (1 : Int32)))
set_option maxHeartbeats 4000000 in
set_option maxRecDepth 100000 in
theorem kc_X1_hasBox (l : Launch) (D : va_G) (cA : Nat → ClassId) (ad : Nat → Nat) (σ : CSt) (η : HS) (F : Nat) (z1 : Int32) (r : Int32) (hf : fc_X1_hasBox F σ z1 = some r) : KRc l D cA ad σ η yX1_hasBox cX1_hasBox 2 (some .boolean) (rmk 0 0) [.ref (ad 1), .int z1] (QcV (.int r)) := by
  refine KRc.of (by decide) (Nat.le_of_ble_eq_true rfl) ?_
  intro p e s m below meth c C hr hlk hK hP hZ ls hl
  have hS : va_S NoA s.heap s.heap [] := va_S.rf
  have hl : lv_has ls 2 [(0, .ref (ad 1)), (1, .int z1)] := hl
  have hB17 : ∀ (ls : Array Slot) (s0 : Int32), lv_has ls 2 [] → fc_X1_hasBox_L17 F σ s0 = some r → WRc p l e 0 0 s m [.ref (ad 1), .int z1] below meth c (QcV (.int r)) (F0 m 17 ls [.int s0]) := by
    intro ls s0 hl hf
    unfold fc_X1_hasBox_L17 at hf
    obtain ⟨hz17, hf⟩ := gd_some hf
    exact KRc.zret C hr hlk hz17 (Option.some.inj hf) dX1_hasBox_17
  have hB16 : ∀ (ls : Array Slot), lv_has ls 2 [] → fc_X1_hasBox_L16 F σ = some r → WRc p l e 0 0 s m [.ref (ad 1), .int z1] below meth c (QcV (.int r)) (F0 m 16 ls []) := by
    intro ls hl hf
    unfold fc_X1_hasBox_L16 at hf
    refine lv_iconst (v := (0 : Int32)) C.1 C.2.1 dX1_hasBox_16 (by decide) ?_
    exact hB17 ls _ (lv_sub hl [] rfl) hf
  unfold fc_X1_hasBox at hf
  refine lv_iload_n C.1 C.2.1 dX1_hasBox_0 rfl (lv_at hl 1 rfl) ?_
  refine lv_if_lt (tgt := 16) C.1 C.2.1 dX1_hasBox_1 (by decide) (fun c1 => ?_) (fun c1 => ?_)
  · have hf := br_p c1 hf
    exact hB16 ls (lv_sub hl [] rfl) hf
  · have hf := br_n c1 hf
    refine lv_iload_n C.1 C.2.1 dX1_hasBox_4 rfl (lv_at hl 1 rfl) ?_
    refine lv_aload_n C.1 C.2.1 dX1_hasBox_5 rfl (lv_at hl 0 rfl) ?_
    refine gc_cv_boxes C hK hP wf_X1_28 dX1_hasBox_6 ?_
    refine lv_icmp_ge (tgt := 16) C.1 C.2.1 dX1_hasBox_9 (by decide) (fun c9 => ?_) (fun c9 => ?_)
    · have hf := br_p c9 hf
      exact hB16 ls (lv_sub hl [] rfl) hf
    · have hf := br_n c9 hf
      refine lv_iconst (v := (1 : Int32)) C.1 C.2.1 dX1_hasBox_12 (by decide) ?_
      refine lv_goto (tgt := 17) C.1 C.2.1 dX1_hasBox_13 (by decide) ?_
      exact hB17 ls _ (lv_sub hl [] rfl) hf
def fc_X9_isWithin_L15 (F : Nat) (σ : CSt) (s0 : Int32) : Option (Int32) :=
  gd (s0 = 0 ∨ s0 = 1) (some s0)
def fc_X9_isWithin_L14 (F : Nat) (σ : CSt) : Option (Int32) :=
  fc_X9_isWithin_L15 F σ (0 : Int32)
def fc_X9_isWithin (F : Nat) (σ : CSt) (x0 : Int32) (x1 : Int32) (x2 : Int32) : Option (Int32) :=
  if x0 < x1 then (fc_X9_isWithin_L14 F σ) else (if x2 < x0 then (fc_X9_isWithin_L14 F σ) else (fc_X9_isWithin_L15 F σ (1 : Int32)))
set_option maxHeartbeats 4000000 in
set_option maxRecDepth 100000 in
theorem kc_X9_isWithin (l : Launch) (D : va_G) (cA : Nat → ClassId) (ad : Nat → Nat) (σ : CSt) (η : HS) (F : Nat) (z0 : Int32) (z1 : Int32) (z2 : Int32) (r : Int32) (hf : fc_X9_isWithin F σ z0 z1 z2 = some r) : KRc l D cA ad σ η yX9_isWithin cX9_isWithin 3 (some .boolean) (rmk 0 0) [.int z0, .int z1, .int z2] (QcV (.int r)) := by
  refine KRc.of (by decide) (Nat.le_of_ble_eq_true rfl) ?_
  intro p e s m below meth c C hr hlk hK hP hZ ls hl
  have hS : va_S NoA s.heap s.heap [] := va_S.rf
  have hl : lv_has ls 3 [(0, .int z0), (1, .int z1), (2, .int z2)] := hl
  have hB15 : ∀ (ls : Array Slot) (s0 : Int32), lv_has ls 3 [] → fc_X9_isWithin_L15 F σ s0 = some r → WRc p l e 0 0 s m [.int z0, .int z1, .int z2] below meth c (QcV (.int r)) (F0 m 15 ls [.int s0]) := by
    intro ls s0 hl hf
    unfold fc_X9_isWithin_L15 at hf
    obtain ⟨hz15, hf⟩ := gd_some hf
    exact KRc.zret C hr hlk hz15 (Option.some.inj hf) dX9_isWithin_15
  have hB14 : ∀ (ls : Array Slot), lv_has ls 3 [] → fc_X9_isWithin_L14 F σ = some r → WRc p l e 0 0 s m [.int z0, .int z1, .int z2] below meth c (QcV (.int r)) (F0 m 14 ls []) := by
    intro ls hl hf
    unfold fc_X9_isWithin_L14 at hf
    refine lv_iconst (v := (0 : Int32)) C.1 C.2.1 dX9_isWithin_14 (by decide) ?_
    exact hB15 ls _ (lv_sub hl [] rfl) hf
  unfold fc_X9_isWithin at hf
  refine lv_iload_n C.1 C.2.1 dX9_isWithin_0 rfl (lv_at hl 0 rfl) ?_
  refine lv_iload_n C.1 C.2.1 dX9_isWithin_1 rfl (lv_at hl 1 rfl) ?_
  refine lv_icmp_lt (tgt := 14) C.1 C.2.1 dX9_isWithin_2 (by decide) (fun c2 => ?_) (fun c2 => ?_)
  · have hf := br_p c2 hf
    exact hB14 ls (lv_sub hl [] rfl) hf
  · have hf := br_n c2 hf
    refine lv_iload_n C.1 C.2.1 dX9_isWithin_5 rfl (lv_at hl 0 rfl) ?_
    refine lv_iload_n C.1 C.2.1 dX9_isWithin_6 rfl (lv_at hl 2 rfl) ?_
    refine lv_icmp_gt (tgt := 14) C.1 C.2.1 dX9_isWithin_7 (by decide) (fun c7 => ?_) (fun c7 => ?_)
    · have hf := br_p c7 hf
      exact hB14 ls (lv_sub hl [] rfl) hf
    · have hf := br_n c7 hf
      refine lv_iconst (v := (1 : Int32)) C.1 C.2.1 dX9_isWithin_10 (by decide) ?_
      refine lv_goto (tgt := 15) C.1 C.2.1 dX9_isWithin_11 (by decide) ?_
      exact hB15 ls _ (lv_sub hl [] rfl) hf
def fc_X6_segments (F : Nat) (σ : CSt) (vx0 : RV) : Option (Int32) :=
  some ((nI (vx0.2.1)) - (1 : Int32))
set_option maxHeartbeats 4000000 in
set_option maxRecDepth 100000 in
theorem kc_X6_segments (l : Launch) (D : va_G) (cA : Nat → ClassId) (ad : Nat → Nat) (σ : CSt) (η : HS) (F : Nat) (az0 : Nat) (vz0 : RV) (hvz0 : isRt cA η az0 vz0) (r : Int32) (hf : fc_X6_segments F σ vz0 = some r) : KRc l D cA ad σ η yX6_segments cX6_segments 1 (some .int) (rmk 0 0) [.ref az0] (QcV (.int r)) := by
  refine KRc.of (by decide) (Nat.le_of_ble_eq_true rfl) ?_
  intro p e s m below meth c C hr hlk hK hP hZ ls hl
  have hS : va_S NoA s.heap s.heap [] := va_S.rf
  have hl : lv_has ls 1 [(0, .ref az0)] := hl
  unfold fc_X6_segments at hf
  refine lv_aload_n C.1 C.2.1 dX6_segments_0 rfl (lv_at hl 0 rfl) ?_
  refine gp_xs C hK hP hvz0 wf_X6_13 dX6_segments_1 (fun q1 hq1 => ?_)
  refine np_pa C hK hP hq1 dX6_segments_4 ?_
  refine lv_iconst (v := (1 : Int32)) C.1 C.2.1 dX6_segments_5 (by decide) ?_
  refine lv_isub C.1 C.2.1 dX6_segments_6 ?_
  exact KRc.iret C hr hlk (Option.some.inj hf) dX6_segments_7
def fc_X1_portDetail (F : Nat) (σ : CSt) (x1 : Int32) (x2 : Int32) : Option (Int32) :=
  gd (ix (((6 : Int32) * x1) + x2) 60 = true) (some (cs_cq σ (((6 : Int32) * x1) + x2).toNatClampNeg))
set_option maxHeartbeats 4000000 in
set_option maxRecDepth 100000 in
theorem kc_X1_portDetail (l : Launch) (D : va_G) (cA : Nat → ClassId) (ad : Nat → Nat) (σ : CSt) (η : HS) (F : Nat) (z1 : Int32) (z2 : Int32) (r : Int32) (hf : fc_X1_portDetail F σ z1 z2 = some r) : KRc l D cA ad σ η yX1_portDetail cX1_portDetail 3 (some .int) (rmk 0 0) [.ref (ad 1), .int z1, .int z2] (QcV (.int r)) := by
  refine KRc.of (by decide) (Nat.le_of_ble_eq_true rfl) ?_
  intro p e s m below meth c C hr hlk hK hP hZ ls hl
  have hS : va_S NoA s.heap s.heap [] := va_S.rf
  have hl : lv_has ls 3 [(0, .ref (ad 1)), (1, .int z1), (2, .int z2)] := hl
  unfold fc_X1_portDetail at hf
  refine lv_aload_n C.1 C.2.1 dX1_portDetail_0 rfl (lv_at hl 0 rfl) ?_
  refine gc_cv_ports C hK hP wf_X1_19 dX1_portDetail_1 ?_
  refine lv_bipush (v := (6 : Int32)) C.1 C.2.1 dX1_portDetail_4 (by decide) ?_
  refine lv_iload_n C.1 C.2.1 dX1_portDetail_6 rfl (lv_at hl 1 rfl) ?_
  refine lv_imul C.1 C.2.1 dX1_portDetail_7 ?_
  refine lv_iload_n C.1 C.2.1 dX1_portDetail_8 rfl (lv_at hl 2 rfl) ?_
  refine lv_iadd C.1 C.2.1 dX1_portDetail_9 ?_
  obtain ⟨hi10, hf⟩ := gd_some hf
  refine lc_cq C hK hP hi10 dX1_portDetail_10 ?_
  exact KRc.iret C hr hlk (Option.some.inj hf) dX1_portDetail_11
def fc_X1_portSide (F : Nat) (σ : CSt) (x1 : Int32) (x2 : Int32) : Option (Int32) :=
  gd (ix ((((6 : Int32) * x1) + ((3 : Int32) * x2)) + (1 : Int32)) 60 = true) (some (cs_cq σ ((((6 : Int32) * x1) + ((3 : Int32) * x2)) + (1 : Int32)).toNatClampNeg))
set_option maxHeartbeats 4000000 in
set_option maxRecDepth 100000 in
theorem kc_X1_portSide (l : Launch) (D : va_G) (cA : Nat → ClassId) (ad : Nat → Nat) (σ : CSt) (η : HS) (F : Nat) (z1 : Int32) (z2 : Int32) (r : Int32) (hf : fc_X1_portSide F σ z1 z2 = some r) : KRc l D cA ad σ η yX1_portSide cX1_portSide 3 (some .int) (rmk 0 0) [.ref (ad 1), .int z1, .int z2] (QcV (.int r)) := by
  refine KRc.of (by decide) (Nat.le_of_ble_eq_true rfl) ?_
  intro p e s m below meth c C hr hlk hK hP hZ ls hl
  have hS : va_S NoA s.heap s.heap [] := va_S.rf
  have hl : lv_has ls 3 [(0, .ref (ad 1)), (1, .int z1), (2, .int z2)] := hl
  unfold fc_X1_portSide at hf
  refine lv_aload_n C.1 C.2.1 dX1_portSide_0 rfl (lv_at hl 0 rfl) ?_
  refine gc_cv_ports C hK hP wf_X1_19 dX1_portSide_1 ?_
  refine lv_bipush (v := (6 : Int32)) C.1 C.2.1 dX1_portSide_4 (by decide) ?_
  refine lv_iload_n C.1 C.2.1 dX1_portSide_6 rfl (lv_at hl 1 rfl) ?_
  refine lv_imul C.1 C.2.1 dX1_portSide_7 ?_
  refine lv_iconst (v := (3 : Int32)) C.1 C.2.1 dX1_portSide_8 (by decide) ?_
  refine lv_iload_n C.1 C.2.1 dX1_portSide_9 rfl (lv_at hl 2 rfl) ?_
  refine lv_imul C.1 C.2.1 dX1_portSide_10 ?_
  refine lv_iadd C.1 C.2.1 dX1_portSide_11 ?_
  refine lv_iconst (v := (1 : Int32)) C.1 C.2.1 dX1_portSide_12 (by decide) ?_
  refine lv_iadd C.1 C.2.1 dX1_portSide_13 ?_
  obtain ⟨hi14, hf⟩ := gd_some hf
  refine lc_cq C hK hP hi14 dX1_portSide_14 ?_
  exact KRc.iret C hr hlk (Option.some.inj hf) dX1_portSide_15
def fc_X3_isUpright_L11 (F : Nat) (σ : CSt) (s0 : Int32) : Option (Int32) :=
  gd (s0 = 0 ∨ s0 = 1) (some s0)
def fc_X3_isUpright (F : Nat) (σ : CSt) (x0 : Int32) : Option (Int32) :=
  if (x0 &&& (1 : Int32)) = 0 then (fc_X3_isUpright_L11 F σ (1 : Int32)) else (fc_X3_isUpright_L11 F σ (0 : Int32))
set_option maxHeartbeats 4000000 in
set_option maxRecDepth 100000 in
theorem kc_X3_isUpright (l : Launch) (D : va_G) (cA : Nat → ClassId) (ad : Nat → Nat) (σ : CSt) (η : HS) (F : Nat) (z0 : Int32) (r : Int32) (hf : fc_X3_isUpright F σ z0 = some r) : KRc l D cA ad σ η yX3_isUpright cX3_isUpright 1 (some .boolean) (rmk 0 0) [.int z0] (QcV (.int r)) := by
  refine KRc.of (by decide) (Nat.le_of_ble_eq_true rfl) ?_
  intro p e s m below meth c C hr hlk hK hP hZ ls hl
  have hS : va_S NoA s.heap s.heap [] := va_S.rf
  have hl : lv_has ls 1 [(0, .int z0)] := hl
  have hB11 : ∀ (ls : Array Slot) (s0 : Int32), lv_has ls 1 [] → fc_X3_isUpright_L11 F σ s0 = some r → WRc p l e 0 0 s m [.int z0] below meth c (QcV (.int r)) (F0 m 11 ls [.int s0]) := by
    intro ls s0 hl hf
    unfold fc_X3_isUpright_L11 at hf
    obtain ⟨hz11, hf⟩ := gd_some hf
    exact KRc.zret C hr hlk hz11 (Option.some.inj hf) dX3_isUpright_11
  unfold fc_X3_isUpright at hf
  refine lv_iload_n C.1 C.2.1 dX3_isUpright_0 rfl (lv_at hl 0 rfl) ?_
  refine lv_iconst (v := (1 : Int32)) C.1 C.2.1 dX3_isUpright_1 (by decide) ?_
  refine lv_iand C.1 C.2.1 dX3_isUpright_2 ?_
  refine lv_if_ne (tgt := 10) C.1 C.2.1 dX3_isUpright_3 (by decide) (fun c3 => ?_) (fun c3 => ?_)
  · have hf := br_n c3 hf
    refine lv_iconst (v := (0 : Int32)) C.1 C.2.1 dX3_isUpright_10 (by decide) ?_
    exact hB11 ls _ (lv_sub hl [] rfl) hf
  · have hf := br_p c3 hf
    refine lv_iconst (v := (1 : Int32)) C.1 C.2.1 dX3_isUpright_6 (by decide) ?_
    refine lv_goto (tgt := 11) C.1 C.2.1 dX3_isUpright_7 (by decide) ?_
    exact hB11 ls _ (lv_sub hl [] rfl) hf
def fc_X1_portX_L58 (F : Nat) (σ : CSt) (s0 : Int32) (s1 : Int32) : Option (Int32) :=
  bd (fc_X1_edge F σ s1 s0) (fun r58 => some r58)
def fc_X1_portX (F : Nat) (σ : CSt) (x1 : Int32) (x2 : Int32) : Option (Int32) :=
  bd (fc_X1_portDetail F σ x1 (((3 : Int32) * x2) + (0 : Int32))) (fun r7 => bd (fc_X1_portSide F σ x1 x2) (fun r14 => bd (fc_X3_isUpright F σ r14) (fun r21 => if r21 = 0 then (if r14 = (1 : Int32) then (fc_X1_portX_L58 F σ (2 : Int32) r7) else (fc_X1_portX_L58 F σ (0 : Int32) r7)) else (bd (fc_X1_edge F σ r7 (0 : Int32)) (fun r30 => bd (fc_X1_portDetail F σ x1 (((3 : Int32) * x2) + (2 : Int32))) (fun r40 => some (r30 + r40)))))))
set_option maxHeartbeats 4000000 in
set_option maxRecDepth 100000 in
theorem kc_X1_portX (l : Launch) (D : va_G) (cA : Nat → ClassId) (ad : Nat → Nat) (σ : CSt) (η : HS) (F : Nat) (z1 : Int32) (z2 : Int32) (r : Int32) (hf : fc_X1_portX F σ z1 z2 = some r) : KRc l D cA ad σ η yX1_portX cX1_portX 5 (some .int) (rmk 1 22) [.ref (ad 1), .int z1, .int z2] (QcV (.int r)) := by
  refine KRc.of (by decide) (Nat.le_of_ble_eq_true rfl) ?_
  intro p e s m below meth c C hr hlk hK hP hZ ls hl
  have hS : va_S NoA s.heap s.heap [] := va_S.rf
  have hl : lv_has ls 5 [(0, .ref (ad 1)), (1, .int z1), (2, .int z2)] := hl
  have hB58 : ∀ (ls : Array Slot) (s0 : Int32) (s1 : Int32), lv_has ls 5 [] → fc_X1_portX_L58 F σ s0 s1 = some r → WRc p l e 1 22 s m [.ref (ad 1), .int z1, .int z2] below meth c (QcV (.int r)) (F0 m 58 ls [.int s0, .int s1, .ref (ad 1)]) := by
    intro ls s0 s1 hl hf
    unfold fc_X1_portX_L58 at hf
    obtain ⟨r58, hc58, hf⟩ := bd_some hf
    refine cV_go (runRVc (As := [_, _]) C hK hP hZ hS wv_X1_40 hl (kc_X1_edge l D cA ad _ η F _ _  r58 hc58) (rcC 1 2 hK hP rfl rfl) rfl rfl rfl (Nat.le_of_ble_eq_true rfl) ⟨Nat.le_refl _, Nat.le_refl _⟩ dX1_portX_58) ?_
    exact KRc.iret C hr hlk (Option.some.inj hf) dX1_portX_61
  unfold fc_X1_portX at hf
  refine lv_aload_n C.1 C.2.1 dX1_portX_0 rfl (lv_at hl 0 rfl) ?_
  refine lv_iload_n C.1 C.2.1 dX1_portX_1 rfl (lv_at hl 1 rfl) ?_
  refine lv_iconst (v := (3 : Int32)) C.1 C.2.1 dX1_portX_2 (by decide) ?_
  refine lv_iload_n C.1 C.2.1 dX1_portX_3 rfl (lv_at hl 2 rfl) ?_
  refine lv_imul C.1 C.2.1 dX1_portX_4 ?_
  refine lv_iconst (v := (0 : Int32)) C.1 C.2.1 dX1_portX_5 (by decide) ?_
  refine lv_iadd C.1 C.2.1 dX1_portX_6 ?_
  obtain ⟨r7, hc7, hf⟩ := bd_some hf
  refine cV_go (runRVc (As := [_, _]) C hK hP hZ hS wv_X1_50 hl (kc_X1_portDetail l D cA ad _ η F _ _  r7 hc7) (rcC 1 2 hK hP rfl rfl) rfl rfl rfl (Nat.le_of_ble_eq_true rfl) ⟨Nat.le_refl _, Nat.le_refl _⟩ dX1_portX_7) ?_
  refine lv_istore_n (lv' := [(3, .int r7), (0, .ref (ad 1)), (1, .int z1), (2, .int z2)]) C.1 C.2.1 dX1_portX_10 rfl hl (by decide) rfl (fun ls hl => ?_)
  refine lv_aload_n C.1 C.2.1 dX1_portX_11 rfl (lv_at hl 1 rfl) ?_
  refine lv_iload_n C.1 C.2.1 dX1_portX_12 rfl (lv_at hl 2 rfl) ?_
  refine lv_iload_n C.1 C.2.1 dX1_portX_13 rfl (lv_at hl 3 rfl) ?_
  obtain ⟨r14, hc14, hf⟩ := bd_some hf
  refine cV_go (runRVc (As := [_, _]) C hK hP hZ hS wv_X1_53 hl (kc_X1_portSide l D cA ad _ η F _ _  r14 hc14) (rcC 1 2 hK hP rfl rfl) rfl rfl rfl (Nat.le_of_ble_eq_true rfl) ⟨Nat.le_refl _, Nat.le_refl _⟩ dX1_portX_14) ?_
  refine lv_istore (lv' := [(4, .int r14), (3, .int r7), (0, .ref (ad 1)), (1, .int z1), (2, .int z2)]) C.1 C.2.1 dX1_portX_17 hl (by decide) rfl (fun ls hl => ?_)
  refine lv_iload C.1 C.2.1 dX1_portX_19 (lv_at hl 0 rfl) ?_
  obtain ⟨r21, hc21, hf⟩ := bd_some hf
  refine cV_go (runRSc (As := [_]) C hK hP hZ hS wv_X1_46 hl (kc_X3_isUpright l D cA ad _ η F _  r21 hc21) rfl rfl rfl (Nat.le_of_ble_eq_true rfl) ⟨Nat.le_refl _, Nat.le_refl _⟩ dX1_portX_21) ?_
  refine lv_if_eq (tgt := 45) C.1 C.2.1 dX1_portX_24 (by decide) (fun c24 => ?_) (fun c24 => ?_)
  · have hf := br_p c24 hf
    refine lv_aload_n C.1 C.2.1 dX1_portX_45 rfl (lv_at hl 2 rfl) ?_
    refine lv_iload_n C.1 C.2.1 dX1_portX_46 rfl (lv_at hl 1 rfl) ?_
    refine lv_iload C.1 C.2.1 dX1_portX_47 (lv_at hl 0 rfl) ?_
    refine lv_iconst (v := (1 : Int32)) C.1 C.2.1 dX1_portX_49 (by decide) ?_
    refine lv_icmp_ne (tgt := 57) C.1 C.2.1 dX1_portX_50 (by decide) (fun c50 => ?_) (fun c50 => ?_)
    · have hf := br_n c50 hf
      refine lv_iconst (v := (0 : Int32)) C.1 C.2.1 dX1_portX_57 (by decide) ?_
      exact hB58 ls _ _ (lv_sub hl [] rfl) hf
    · have hf := br_p c50 hf
      refine lv_iconst (v := (2 : Int32)) C.1 C.2.1 dX1_portX_53 (by decide) ?_
      refine lv_goto (tgt := 58) C.1 C.2.1 dX1_portX_54 (by decide) ?_
      exact hB58 ls _ _ (lv_sub hl [] rfl) hf
  · have hf := br_n c24 hf
    refine lv_aload_n C.1 C.2.1 dX1_portX_27 rfl (lv_at hl 2 rfl) ?_
    refine lv_iload_n C.1 C.2.1 dX1_portX_28 rfl (lv_at hl 1 rfl) ?_
    refine lv_iconst (v := (0 : Int32)) C.1 C.2.1 dX1_portX_29 (by decide) ?_
    obtain ⟨r30, hc30, hf⟩ := bd_some hf
    refine cV_go (runRVc (As := [_, _]) C hK hP hZ hS wv_X1_40 hl (kc_X1_edge l D cA ad _ η F _ _  r30 hc30) (rcC 1 2 hK hP rfl rfl) rfl rfl rfl (Nat.le_of_ble_eq_true rfl) ⟨Nat.le_refl _, Nat.le_refl _⟩ dX1_portX_30) ?_
    refine lv_aload_n C.1 C.2.1 dX1_portX_33 rfl (lv_at hl 2 rfl) ?_
    refine lv_iload_n C.1 C.2.1 dX1_portX_34 rfl (lv_at hl 3 rfl) ?_
    refine lv_iconst (v := (3 : Int32)) C.1 C.2.1 dX1_portX_35 (by decide) ?_
    refine lv_iload_n C.1 C.2.1 dX1_portX_36 rfl (lv_at hl 4 rfl) ?_
    refine lv_imul C.1 C.2.1 dX1_portX_37 ?_
    refine lv_iconst (v := (2 : Int32)) C.1 C.2.1 dX1_portX_38 (by decide) ?_
    refine lv_iadd C.1 C.2.1 dX1_portX_39 ?_
    obtain ⟨r40, hc40, hf⟩ := bd_some hf
    refine cV_go (runRVc (As := [_, _]) C hK hP hZ hS wv_X1_50 hl (kc_X1_portDetail l D cA ad _ η F _ _  r40 hc40) (rcC 1 2 hK hP rfl rfl) rfl rfl rfl (Nat.le_of_ble_eq_true rfl) ⟨Nat.le_refl _, Nat.le_refl _⟩ dX1_portX_40) ?_
    refine lv_iadd C.1 C.2.1 dX1_portX_43 ?_
    exact KRc.iret C hr hlk (Option.some.inj hf) dX1_portX_44
def fc_X1_portY_L58 (F : Nat) (σ : CSt) (s0 : Int32) (s1 : Int32) : Option (Int32) :=
  bd (fc_X1_edge F σ s1 s0) (fun r58 => some r58)
def fc_X1_portY (F : Nat) (σ : CSt) (x1 : Int32) (x2 : Int32) : Option (Int32) :=
  bd (fc_X1_portDetail F σ x1 (((3 : Int32) * x2) + (0 : Int32))) (fun r7 => bd (fc_X1_portSide F σ x1 x2) (fun r14 => bd (fc_X3_isUpright F σ r14) (fun r21 => if r21 = 0 then (bd (fc_X1_edge F σ r7 (1 : Int32)) (fun r30 => bd (fc_X1_portDetail F σ x1 (((3 : Int32) * x2) + (2 : Int32))) (fun r40 => some (r30 + r40)))) else (if r14 = (2 : Int32) then (fc_X1_portY_L58 F σ (3 : Int32) r7) else (fc_X1_portY_L58 F σ (1 : Int32) r7)))))
set_option maxHeartbeats 4000000 in
set_option maxRecDepth 100000 in
theorem kc_X1_portY (l : Launch) (D : va_G) (cA : Nat → ClassId) (ad : Nat → Nat) (σ : CSt) (η : HS) (F : Nat) (z1 : Int32) (z2 : Int32) (r : Int32) (hf : fc_X1_portY F σ z1 z2 = some r) : KRc l D cA ad σ η yX1_portY cX1_portY 5 (some .int) (rmk 1 22) [.ref (ad 1), .int z1, .int z2] (QcV (.int r)) := by
  refine KRc.of (by decide) (Nat.le_of_ble_eq_true rfl) ?_
  intro p e s m below meth c C hr hlk hK hP hZ ls hl
  have hS : va_S NoA s.heap s.heap [] := va_S.rf
  have hl : lv_has ls 5 [(0, .ref (ad 1)), (1, .int z1), (2, .int z2)] := hl
  have hB58 : ∀ (ls : Array Slot) (s0 : Int32) (s1 : Int32), lv_has ls 5 [] → fc_X1_portY_L58 F σ s0 s1 = some r → WRc p l e 1 22 s m [.ref (ad 1), .int z1, .int z2] below meth c (QcV (.int r)) (F0 m 58 ls [.int s0, .int s1, .ref (ad 1)]) := by
    intro ls s0 s1 hl hf
    unfold fc_X1_portY_L58 at hf
    obtain ⟨r58, hc58, hf⟩ := bd_some hf
    refine cV_go (runRVc (As := [_, _]) C hK hP hZ hS wv_X1_40 hl (kc_X1_edge l D cA ad _ η F _ _  r58 hc58) (rcC 1 2 hK hP rfl rfl) rfl rfl rfl (Nat.le_of_ble_eq_true rfl) ⟨Nat.le_refl _, Nat.le_refl _⟩ dX1_portY_58) ?_
    exact KRc.iret C hr hlk (Option.some.inj hf) dX1_portY_61
  unfold fc_X1_portY at hf
  refine lv_aload_n C.1 C.2.1 dX1_portY_0 rfl (lv_at hl 0 rfl) ?_
  refine lv_iload_n C.1 C.2.1 dX1_portY_1 rfl (lv_at hl 1 rfl) ?_
  refine lv_iconst (v := (3 : Int32)) C.1 C.2.1 dX1_portY_2 (by decide) ?_
  refine lv_iload_n C.1 C.2.1 dX1_portY_3 rfl (lv_at hl 2 rfl) ?_
  refine lv_imul C.1 C.2.1 dX1_portY_4 ?_
  refine lv_iconst (v := (0 : Int32)) C.1 C.2.1 dX1_portY_5 (by decide) ?_
  refine lv_iadd C.1 C.2.1 dX1_portY_6 ?_
  obtain ⟨r7, hc7, hf⟩ := bd_some hf
  refine cV_go (runRVc (As := [_, _]) C hK hP hZ hS wv_X1_50 hl (kc_X1_portDetail l D cA ad _ η F _ _  r7 hc7) (rcC 1 2 hK hP rfl rfl) rfl rfl rfl (Nat.le_of_ble_eq_true rfl) ⟨Nat.le_refl _, Nat.le_refl _⟩ dX1_portY_7) ?_
  refine lv_istore_n (lv' := [(3, .int r7), (0, .ref (ad 1)), (1, .int z1), (2, .int z2)]) C.1 C.2.1 dX1_portY_10 rfl hl (by decide) rfl (fun ls hl => ?_)
  refine lv_aload_n C.1 C.2.1 dX1_portY_11 rfl (lv_at hl 1 rfl) ?_
  refine lv_iload_n C.1 C.2.1 dX1_portY_12 rfl (lv_at hl 2 rfl) ?_
  refine lv_iload_n C.1 C.2.1 dX1_portY_13 rfl (lv_at hl 3 rfl) ?_
  obtain ⟨r14, hc14, hf⟩ := bd_some hf
  refine cV_go (runRVc (As := [_, _]) C hK hP hZ hS wv_X1_53 hl (kc_X1_portSide l D cA ad _ η F _ _  r14 hc14) (rcC 1 2 hK hP rfl rfl) rfl rfl rfl (Nat.le_of_ble_eq_true rfl) ⟨Nat.le_refl _, Nat.le_refl _⟩ dX1_portY_14) ?_
  refine lv_istore (lv' := [(4, .int r14), (3, .int r7), (0, .ref (ad 1)), (1, .int z1), (2, .int z2)]) C.1 C.2.1 dX1_portY_17 hl (by decide) rfl (fun ls hl => ?_)
  refine lv_iload C.1 C.2.1 dX1_portY_19 (lv_at hl 0 rfl) ?_
  obtain ⟨r21, hc21, hf⟩ := bd_some hf
  refine cV_go (runRSc (As := [_]) C hK hP hZ hS wv_X1_46 hl (kc_X3_isUpright l D cA ad _ η F _  r21 hc21) rfl rfl rfl (Nat.le_of_ble_eq_true rfl) ⟨Nat.le_refl _, Nat.le_refl _⟩ dX1_portY_21) ?_
  refine lv_if_ne (tgt := 45) C.1 C.2.1 dX1_portY_24 (by decide) (fun c24 => ?_) (fun c24 => ?_)
  · have hf := br_n c24 hf
    refine lv_aload_n C.1 C.2.1 dX1_portY_45 rfl (lv_at hl 2 rfl) ?_
    refine lv_iload_n C.1 C.2.1 dX1_portY_46 rfl (lv_at hl 1 rfl) ?_
    refine lv_iload C.1 C.2.1 dX1_portY_47 (lv_at hl 0 rfl) ?_
    refine lv_iconst (v := (2 : Int32)) C.1 C.2.1 dX1_portY_49 (by decide) ?_
    refine lv_icmp_ne (tgt := 57) C.1 C.2.1 dX1_portY_50 (by decide) (fun c50 => ?_) (fun c50 => ?_)
    · have hf := br_n c50 hf
      refine lv_iconst (v := (1 : Int32)) C.1 C.2.1 dX1_portY_57 (by decide) ?_
      exact hB58 ls _ _ (lv_sub hl [] rfl) hf
    · have hf := br_p c50 hf
      refine lv_iconst (v := (3 : Int32)) C.1 C.2.1 dX1_portY_53 (by decide) ?_
      refine lv_goto (tgt := 58) C.1 C.2.1 dX1_portY_54 (by decide) ?_
      exact hB58 ls _ _ (lv_sub hl [] rfl) hf
  · have hf := br_p c24 hf
    refine lv_aload_n C.1 C.2.1 dX1_portY_27 rfl (lv_at hl 2 rfl) ?_
    refine lv_iload_n C.1 C.2.1 dX1_portY_28 rfl (lv_at hl 1 rfl) ?_
    refine lv_iconst (v := (1 : Int32)) C.1 C.2.1 dX1_portY_29 (by decide) ?_
    obtain ⟨r30, hc30, hf⟩ := bd_some hf
    refine cV_go (runRVc (As := [_, _]) C hK hP hZ hS wv_X1_40 hl (kc_X1_edge l D cA ad _ η F _ _  r30 hc30) (rcC 1 2 hK hP rfl rfl) rfl rfl rfl (Nat.le_of_ble_eq_true rfl) ⟨Nat.le_refl _, Nat.le_refl _⟩ dX1_portY_30) ?_
    refine lv_aload_n C.1 C.2.1 dX1_portY_33 rfl (lv_at hl 2 rfl) ?_
    refine lv_iload_n C.1 C.2.1 dX1_portY_34 rfl (lv_at hl 3 rfl) ?_
    refine lv_iconst (v := (3 : Int32)) C.1 C.2.1 dX1_portY_35 (by decide) ?_
    refine lv_iload_n C.1 C.2.1 dX1_portY_36 rfl (lv_at hl 4 rfl) ?_
    refine lv_imul C.1 C.2.1 dX1_portY_37 ?_
    refine lv_iconst (v := (2 : Int32)) C.1 C.2.1 dX1_portY_38 (by decide) ?_
    refine lv_iadd C.1 C.2.1 dX1_portY_39 ?_
    obtain ⟨r40, hc40, hf⟩ := bd_some hf
    refine cV_go (runRVc (As := [_, _]) C hK hP hZ hS wv_X1_50 hl (kc_X1_portDetail l D cA ad _ η F _ _  r40 hc40) (rcC 1 2 hK hP rfl rfl) rfl rfl rfl (Nat.le_of_ble_eq_true rfl) ⟨Nat.le_refl _, Nat.le_refl _⟩ dX1_portY_40) ?_
    refine lv_iadd C.1 C.2.1 dX1_portY_43 ?_
    exact KRc.iret C hr hlk (Option.some.inj hf) dX1_portY_44
def fc_X6_isLevel_L22 (F : Nat) (σ : CSt) (s0 : Int32) : Option (Int32) :=
  gd (s0 = 0 ∨ s0 = 1) (some s0)
def fc_X6_isLevel (F : Nat) (σ : CSt) (vx0 : RV) (x1 : Int32) : Option (Int32) :=
  gd (ix x1 (vx0.2.1) = true) (gd (ix (x1 + (1 : Int32)) (vx0.2.1) = true) (if (vx0.2.2.2 x1.toNatClampNeg) = (vx0.2.2.2 (x1 + (1 : Int32)).toNatClampNeg) then (fc_X6_isLevel_L22 F σ (1 : Int32)) else (fc_X6_isLevel_L22 F σ (0 : Int32))))
set_option maxHeartbeats 4000000 in
set_option maxRecDepth 100000 in
theorem kc_X6_isLevel (l : Launch) (D : va_G) (cA : Nat → ClassId) (ad : Nat → Nat) (σ : CSt) (η : HS) (F : Nat) (az0 : Nat) (vz0 : RV) (z1 : Int32) (hvz0 : isRt cA η az0 vz0) (r : Int32) (hf : fc_X6_isLevel F σ vz0 z1 = some r) : KRc l D cA ad σ η yX6_isLevel cX6_isLevel 2 (some .boolean) (rmk 0 0) [.ref az0, .int z1] (QcV (.int r)) := by
  refine KRc.of (by decide) (Nat.le_of_ble_eq_true rfl) ?_
  intro p e s m below meth c C hr hlk hK hP hZ ls hl
  have hS : va_S NoA s.heap s.heap [] := va_S.rf
  have hl : lv_has ls 2 [(0, .ref az0), (1, .int z1)] := hl
  have hB22 : ∀ (ls : Array Slot) (s0 : Int32), lv_has ls 2 [] → fc_X6_isLevel_L22 F σ s0 = some r → WRc p l e 0 0 s m [.ref az0, .int z1] below meth c (QcV (.int r)) (F0 m 22 ls [.int s0]) := by
    intro ls s0 hl hf
    unfold fc_X6_isLevel_L22 at hf
    obtain ⟨hz22, hf⟩ := gd_some hf
    exact KRc.zret C hr hlk hz22 (Option.some.inj hf) dX6_isLevel_22
  unfold fc_X6_isLevel at hf
  refine lv_aload_n C.1 C.2.1 dX6_isLevel_0 rfl (lv_at hl 0 rfl) ?_
  refine gp_ys C hK hP hvz0 wf_X6_17 dX6_isLevel_1 (fun q1 hq1 => ?_)
  refine lv_iload_n C.1 C.2.1 dX6_isLevel_4 rfl (lv_at hl 1 rfl) ?_
  obtain ⟨hi5, hf⟩ := gd_some hf
  refine lp_pa C hK hP hq1 hi5 dX6_isLevel_5 ?_
  refine lv_aload_n C.1 C.2.1 dX6_isLevel_6 rfl (lv_at hl 0 rfl) ?_
  refine gp_ys C hK hP hvz0 wf_X6_17 dX6_isLevel_7 (fun q7 hq7 => ?_)
  refine lv_iload_n C.1 C.2.1 dX6_isLevel_10 rfl (lv_at hl 1 rfl) ?_
  refine lv_iconst (v := (1 : Int32)) C.1 C.2.1 dX6_isLevel_11 (by decide) ?_
  refine lv_iadd C.1 C.2.1 dX6_isLevel_12 ?_
  obtain ⟨hi13, hf⟩ := gd_some hf
  refine lp_pa C hK hP hq7 hi13 dX6_isLevel_13 ?_
  refine lv_icmp_ne (tgt := 21) C.1 C.2.1 dX6_isLevel_14 (by decide) (fun c14 => ?_) (fun c14 => ?_)
  · have hf := br_n c14 hf
    refine lv_iconst (v := (0 : Int32)) C.1 C.2.1 dX6_isLevel_21 (by decide) ?_
    exact hB22 ls _ (lv_sub hl [] rfl) hf
  · have hf := br_p c14 hf
    refine lv_iconst (v := (1 : Int32)) C.1 C.2.1 dX6_isLevel_17 (by decide) ?_
    refine lv_goto (tgt := 22) C.1 C.2.1 dX6_isLevel_18 (by decide) ?_
    exact hB22 ls _ (lv_sub hl [] rfl) hf
def fc_X6_startOf_L45 (F : Nat) (σ : CSt) (s0 : Int32) : Option (Int32) :=
  some s0
def fc_X6_startOf (F : Nat) (σ : CSt) (vx0 : RV) (x1 : Int32) : Option (Int32) :=
  bd (fc_X6_isLevel F σ vx0 x1) (fun r2 => if r2 = 0 then (gd (ix x1 (vx0.2.1) = true) (gd (ix (x1 + (1 : Int32)) (vx0.2.1) = true) (fc_X6_startOf_L45 F σ (if (vx0.2.2.2 (x1 + (1 : Int32)).toNatClampNeg) < (vx0.2.2.2 x1.toNatClampNeg) then (vx0.2.2.2 (x1 + (1 : Int32)).toNatClampNeg) else (vx0.2.2.2 x1.toNatClampNeg))))) else (gd (ix x1 (vx0.2.1) = true) (gd (ix (x1 + (1 : Int32)) (vx0.2.1) = true) (fc_X6_startOf_L45 F σ (if (vx0.2.2.1 (x1 + (1 : Int32)).toNatClampNeg) < (vx0.2.2.1 x1.toNatClampNeg) then (vx0.2.2.1 (x1 + (1 : Int32)).toNatClampNeg) else (vx0.2.2.1 x1.toNatClampNeg))))))
set_option maxHeartbeats 4000000 in
set_option maxRecDepth 100000 in
theorem kc_X6_startOf (l : Launch) (D : va_G) (cA : Nat → ClassId) (ad : Nat → Nat) (σ : CSt) (η : HS) (F : Nat) (az0 : Nat) (vz0 : RV) (z1 : Int32) (hvz0 : isRt cA η az0 vz0) (r : Int32) (hf : fc_X6_startOf F σ vz0 z1 = some r) : KRc l D cA ad σ η yX6_startOf cX6_startOf 2 (some .int) (rmk 1 21) [.ref az0, .int z1] (QcV (.int r)) := by
  refine KRc.of (by decide) (Nat.le_of_ble_eq_true rfl) ?_
  intro p e s m below meth c C hr hlk hK hP hZ ls hl
  have hS : va_S NoA s.heap s.heap [] := va_S.rf
  have hl : lv_has ls 2 [(0, .ref az0), (1, .int z1)] := hl
  have hB45 : ∀ (ls : Array Slot) (s0 : Int32), lv_has ls 2 [] → fc_X6_startOf_L45 F σ s0 = some r → WRc p l e 1 21 s m [.ref az0, .int z1] below meth c (QcV (.int r)) (F0 m 45 ls [.int s0]) := by
    intro ls s0 hl hf
    unfold fc_X6_startOf_L45 at hf
    exact KRc.iret C hr hlk (Option.some.inj hf) dX6_startOf_45
  unfold fc_X6_startOf at hf
  refine lv_aload_n C.1 C.2.1 dX6_startOf_0 rfl (lv_at hl 0 rfl) ?_
  refine lv_iload_n C.1 C.2.1 dX6_startOf_1 rfl (lv_at hl 1 rfl) ?_
  obtain ⟨r2, hc2, hf⟩ := bd_some hf
  refine cV_go (runRVc (As := [_]) C hK hP hZ hS wv_X6_24 hl (kc_X6_isLevel l D cA ad _ η F _ _ _ hvz0 r2 hc2) (rcR hK hP hvz0) rfl rfl rfl (Nat.le_of_ble_eq_true rfl) ⟨Nat.le_refl _, Nat.le_refl _⟩ dX6_startOf_2) ?_
  refine lv_if_eq (tgt := 28) C.1 C.2.1 dX6_startOf_5 (by decide) (fun c5 => ?_) (fun c5 => ?_)
  · have hf := br_p c5 hf
    refine lv_aload_n C.1 C.2.1 dX6_startOf_28 rfl (lv_at hl 0 rfl) ?_
    refine gp_ys C hK hP hvz0 wf_X6_17 dX6_startOf_29 (fun q29 hq29 => ?_)
    refine lv_iload_n C.1 C.2.1 dX6_startOf_32 rfl (lv_at hl 1 rfl) ?_
    obtain ⟨hi33, hf⟩ := gd_some hf
    refine lp_pa C hK hP hq29 hi33 dX6_startOf_33 ?_
    refine lv_aload_n C.1 C.2.1 dX6_startOf_34 rfl (lv_at hl 0 rfl) ?_
    refine gp_ys C hK hP hvz0 wf_X6_17 dX6_startOf_35 (fun q35 hq35 => ?_)
    refine lv_iload_n C.1 C.2.1 dX6_startOf_38 rfl (lv_at hl 1 rfl) ?_
    refine lv_iconst (v := (1 : Int32)) C.1 C.2.1 dX6_startOf_39 (by decide) ?_
    refine lv_iadd C.1 C.2.1 dX6_startOf_40 ?_
    obtain ⟨hi41, hf⟩ := gd_some hf
    refine lp_pa C hK hP hq35 hi41 dX6_startOf_41 ?_
    refine va_mmin C.1 C.2.1 (by rw [C.2.2.1]; exact hl.1.symm) C.2.2.2.1 (C.2.2.2.2 _ wm_X6_28.1) (C.2.2.2.2 _ wm_X6_28.2.1) (C.2.2.2.2 _ wm_X6_28.2.2.1) (C.2.2.2.2 _ wm_X6_28.2.2.2) (Nat.le_of_ble_eq_true rfl) (Nat.le_of_ble_eq_true rfl) (Nat.le_refl _) (Nat.le_refl _) dX6_startOf_42 ?_
    exact hB45 ls _ (lv_sub hl [] rfl) hf
  · have hf := br_n c5 hf
    refine lv_aload_n C.1 C.2.1 dX6_startOf_8 rfl (lv_at hl 0 rfl) ?_
    refine gp_xs C hK hP hvz0 wf_X6_13 dX6_startOf_9 (fun q9 hq9 => ?_)
    refine lv_iload_n C.1 C.2.1 dX6_startOf_12 rfl (lv_at hl 1 rfl) ?_
    obtain ⟨hi13, hf⟩ := gd_some hf
    refine lp_pa C hK hP hq9 hi13 dX6_startOf_13 ?_
    refine lv_aload_n C.1 C.2.1 dX6_startOf_14 rfl (lv_at hl 0 rfl) ?_
    refine gp_xs C hK hP hvz0 wf_X6_13 dX6_startOf_15 (fun q15 hq15 => ?_)
    refine lv_iload_n C.1 C.2.1 dX6_startOf_18 rfl (lv_at hl 1 rfl) ?_
    refine lv_iconst (v := (1 : Int32)) C.1 C.2.1 dX6_startOf_19 (by decide) ?_
    refine lv_iadd C.1 C.2.1 dX6_startOf_20 ?_
    obtain ⟨hi21, hf⟩ := gd_some hf
    refine lp_pa C hK hP hq15 hi21 dX6_startOf_21 ?_
    refine va_mmin C.1 C.2.1 (by rw [C.2.2.1]; exact hl.1.symm) C.2.2.2.1 (C.2.2.2.2 _ wm_X6_28.1) (C.2.2.2.2 _ wm_X6_28.2.1) (C.2.2.2.2 _ wm_X6_28.2.2.1) (C.2.2.2.2 _ wm_X6_28.2.2.2) (Nat.le_of_ble_eq_true rfl) (Nat.le_of_ble_eq_true rfl) (Nat.le_refl _) (Nat.le_refl _) dX6_startOf_22 ?_
    refine lv_goto (tgt := 45) C.1 C.2.1 dX6_startOf_25 (by decide) ?_
    exact hB45 ls _ (lv_sub hl [] rfl) hf
def fc_X6_endOf_L45 (F : Nat) (σ : CSt) (s0 : Int32) : Option (Int32) :=
  some s0
def fc_X6_endOf (F : Nat) (σ : CSt) (vx0 : RV) (x1 : Int32) : Option (Int32) :=
  bd (fc_X6_isLevel F σ vx0 x1) (fun r2 => if r2 = 0 then (gd (ix x1 (vx0.2.1) = true) (gd (ix (x1 + (1 : Int32)) (vx0.2.1) = true) (fc_X6_endOf_L45 F σ (if (vx0.2.2.2 x1.toNatClampNeg) < (vx0.2.2.2 (x1 + (1 : Int32)).toNatClampNeg) then (vx0.2.2.2 (x1 + (1 : Int32)).toNatClampNeg) else (vx0.2.2.2 x1.toNatClampNeg))))) else (gd (ix x1 (vx0.2.1) = true) (gd (ix (x1 + (1 : Int32)) (vx0.2.1) = true) (fc_X6_endOf_L45 F σ (if (vx0.2.2.1 x1.toNatClampNeg) < (vx0.2.2.1 (x1 + (1 : Int32)).toNatClampNeg) then (vx0.2.2.1 (x1 + (1 : Int32)).toNatClampNeg) else (vx0.2.2.1 x1.toNatClampNeg))))))
set_option maxHeartbeats 4000000 in
set_option maxRecDepth 100000 in
theorem kc_X6_endOf (l : Launch) (D : va_G) (cA : Nat → ClassId) (ad : Nat → Nat) (σ : CSt) (η : HS) (F : Nat) (az0 : Nat) (vz0 : RV) (z1 : Int32) (hvz0 : isRt cA η az0 vz0) (r : Int32) (hf : fc_X6_endOf F σ vz0 z1 = some r) : KRc l D cA ad σ η yX6_endOf cX6_endOf 2 (some .int) (rmk 1 21) [.ref az0, .int z1] (QcV (.int r)) := by
  refine KRc.of (by decide) (Nat.le_of_ble_eq_true rfl) ?_
  intro p e s m below meth c C hr hlk hK hP hZ ls hl
  have hS : va_S NoA s.heap s.heap [] := va_S.rf
  have hl : lv_has ls 2 [(0, .ref az0), (1, .int z1)] := hl
  have hB45 : ∀ (ls : Array Slot) (s0 : Int32), lv_has ls 2 [] → fc_X6_endOf_L45 F σ s0 = some r → WRc p l e 1 21 s m [.ref az0, .int z1] below meth c (QcV (.int r)) (F0 m 45 ls [.int s0]) := by
    intro ls s0 hl hf
    unfold fc_X6_endOf_L45 at hf
    exact KRc.iret C hr hlk (Option.some.inj hf) dX6_endOf_45
  unfold fc_X6_endOf at hf
  refine lv_aload_n C.1 C.2.1 dX6_endOf_0 rfl (lv_at hl 0 rfl) ?_
  refine lv_iload_n C.1 C.2.1 dX6_endOf_1 rfl (lv_at hl 1 rfl) ?_
  obtain ⟨r2, hc2, hf⟩ := bd_some hf
  refine cV_go (runRVc (As := [_]) C hK hP hZ hS wv_X6_24 hl (kc_X6_isLevel l D cA ad _ η F _ _ _ hvz0 r2 hc2) (rcR hK hP hvz0) rfl rfl rfl (Nat.le_of_ble_eq_true rfl) ⟨Nat.le_refl _, Nat.le_refl _⟩ dX6_endOf_2) ?_
  refine lv_if_eq (tgt := 28) C.1 C.2.1 dX6_endOf_5 (by decide) (fun c5 => ?_) (fun c5 => ?_)
  · have hf := br_p c5 hf
    refine lv_aload_n C.1 C.2.1 dX6_endOf_28 rfl (lv_at hl 0 rfl) ?_
    refine gp_ys C hK hP hvz0 wf_X6_17 dX6_endOf_29 (fun q29 hq29 => ?_)
    refine lv_iload_n C.1 C.2.1 dX6_endOf_32 rfl (lv_at hl 1 rfl) ?_
    obtain ⟨hi33, hf⟩ := gd_some hf
    refine lp_pa C hK hP hq29 hi33 dX6_endOf_33 ?_
    refine lv_aload_n C.1 C.2.1 dX6_endOf_34 rfl (lv_at hl 0 rfl) ?_
    refine gp_ys C hK hP hvz0 wf_X6_17 dX6_endOf_35 (fun q35 hq35 => ?_)
    refine lv_iload_n C.1 C.2.1 dX6_endOf_38 rfl (lv_at hl 1 rfl) ?_
    refine lv_iconst (v := (1 : Int32)) C.1 C.2.1 dX6_endOf_39 (by decide) ?_
    refine lv_iadd C.1 C.2.1 dX6_endOf_40 ?_
    obtain ⟨hi41, hf⟩ := gd_some hf
    refine lp_pa C hK hP hq35 hi41 dX6_endOf_41 ?_
    refine va_mmax C.1 C.2.1 (by rw [C.2.2.1]; exact hl.1.symm) C.2.2.2.1 (C.2.2.2.2 _ wm_X6_34.1) (C.2.2.2.2 _ wm_X6_34.2.1) (C.2.2.2.2 _ wm_X6_34.2.2.1) (C.2.2.2.2 _ wm_X6_34.2.2.2) (Nat.le_of_ble_eq_true rfl) (Nat.le_of_ble_eq_true rfl) (Nat.le_refl _) (Nat.le_refl _) dX6_endOf_42 ?_
    exact hB45 ls _ (lv_sub hl [] rfl) hf
  · have hf := br_n c5 hf
    refine lv_aload_n C.1 C.2.1 dX6_endOf_8 rfl (lv_at hl 0 rfl) ?_
    refine gp_xs C hK hP hvz0 wf_X6_13 dX6_endOf_9 (fun q9 hq9 => ?_)
    refine lv_iload_n C.1 C.2.1 dX6_endOf_12 rfl (lv_at hl 1 rfl) ?_
    obtain ⟨hi13, hf⟩ := gd_some hf
    refine lp_pa C hK hP hq9 hi13 dX6_endOf_13 ?_
    refine lv_aload_n C.1 C.2.1 dX6_endOf_14 rfl (lv_at hl 0 rfl) ?_
    refine gp_xs C hK hP hvz0 wf_X6_13 dX6_endOf_15 (fun q15 hq15 => ?_)
    refine lv_iload_n C.1 C.2.1 dX6_endOf_18 rfl (lv_at hl 1 rfl) ?_
    refine lv_iconst (v := (1 : Int32)) C.1 C.2.1 dX6_endOf_19 (by decide) ?_
    refine lv_iadd C.1 C.2.1 dX6_endOf_20 ?_
    obtain ⟨hi21, hf⟩ := gd_some hf
    refine lp_pa C hK hP hq15 hi21 dX6_endOf_21 ?_
    refine va_mmax C.1 C.2.1 (by rw [C.2.2.1]; exact hl.1.symm) C.2.2.2.1 (C.2.2.2.2 _ wm_X6_34.1) (C.2.2.2.2 _ wm_X6_34.2.1) (C.2.2.2.2 _ wm_X6_34.2.2.1) (C.2.2.2.2 _ wm_X6_34.2.2.2) (Nat.le_of_ble_eq_true rfl) (Nat.le_of_ble_eq_true rfl) (Nat.le_refl _) (Nat.le_refl _) dX6_endOf_22 ?_
    refine lv_goto (tgt := 45) C.1 C.2.1 dX6_endOf_25 (by decide) ?_
    exact hB45 ls _ (lv_sub hl [] rfl) hf
def fc_X6_runsUp_L55 (F : Nat) (σ : CSt) (s0 : Int32) : Option (Int32) :=
  gd (s0 = 0 ∨ s0 = 1) (some s0)
def fc_X6_runsUp (F : Nat) (σ : CSt) (vx0 : RV) (x1 : Int32) : Option (Int32) :=
  bd (fc_X6_isLevel F σ vx0 x1) (fun r2 => if r2 = 0 then (gd (ix (x1 + (1 : Int32)) (vx0.2.1) = true) (gd (ix x1 (vx0.2.1) = true) (if (vx0.2.2.2 x1.toNatClampNeg) ≤ (vx0.2.2.2 (x1 + (1 : Int32)).toNatClampNeg) then (fc_X6_runsUp_L55 F σ (0 : Int32)) else (fc_X6_runsUp_L55 F σ (1 : Int32))))) else (gd (ix (x1 + (1 : Int32)) (vx0.2.1) = true) (gd (ix x1 (vx0.2.1) = true) (if (vx0.2.2.1 x1.toNatClampNeg) ≤ (vx0.2.2.1 (x1 + (1 : Int32)).toNatClampNeg) then (fc_X6_runsUp_L55 F σ (0 : Int32)) else (fc_X6_runsUp_L55 F σ (1 : Int32))))))
set_option maxHeartbeats 4000000 in
set_option maxRecDepth 100000 in
theorem kc_X6_runsUp (l : Launch) (D : va_G) (cA : Nat → ClassId) (ad : Nat → Nat) (σ : CSt) (η : HS) (F : Nat) (az0 : Nat) (vz0 : RV) (z1 : Int32) (hvz0 : isRt cA η az0 vz0) (r : Int32) (hf : fc_X6_runsUp F σ vz0 z1 = some r) : KRc l D cA ad σ η yX6_runsUp cX6_runsUp 2 (some .boolean) (rmk 1 21) [.ref az0, .int z1] (QcV (.int r)) := by
  refine KRc.of (by decide) (Nat.le_of_ble_eq_true rfl) ?_
  intro p e s m below meth c C hr hlk hK hP hZ ls hl
  have hS : va_S NoA s.heap s.heap [] := va_S.rf
  have hl : lv_has ls 2 [(0, .ref az0), (1, .int z1)] := hl
  have hB55 : ∀ (ls : Array Slot) (s0 : Int32), lv_has ls 2 [] → fc_X6_runsUp_L55 F σ s0 = some r → WRc p l e 1 21 s m [.ref az0, .int z1] below meth c (QcV (.int r)) (F0 m 55 ls [.int s0]) := by
    intro ls s0 hl hf
    unfold fc_X6_runsUp_L55 at hf
    obtain ⟨hz55, hf⟩ := gd_some hf
    exact KRc.zret C hr hlk hz55 (Option.some.inj hf) dX6_runsUp_55
  unfold fc_X6_runsUp at hf
  refine lv_aload_n C.1 C.2.1 dX6_runsUp_0 rfl (lv_at hl 0 rfl) ?_
  refine lv_iload_n C.1 C.2.1 dX6_runsUp_1 rfl (lv_at hl 1 rfl) ?_
  obtain ⟨r2, hc2, hf⟩ := bd_some hf
  refine cV_go (runRVc (As := [_]) C hK hP hZ hS wv_X6_24 hl (kc_X6_isLevel l D cA ad _ η F _ _ _ hvz0 r2 hc2) (rcR hK hP hvz0) rfl rfl rfl (Nat.le_of_ble_eq_true rfl) ⟨Nat.le_refl _, Nat.le_refl _⟩ dX6_runsUp_2) ?_
  refine lv_if_eq (tgt := 33) C.1 C.2.1 dX6_runsUp_5 (by decide) (fun c5 => ?_) (fun c5 => ?_)
  · have hf := br_p c5 hf
    refine lv_aload_n C.1 C.2.1 dX6_runsUp_33 rfl (lv_at hl 0 rfl) ?_
    refine gp_ys C hK hP hvz0 wf_X6_17 dX6_runsUp_34 (fun q34 hq34 => ?_)
    refine lv_iload_n C.1 C.2.1 dX6_runsUp_37 rfl (lv_at hl 1 rfl) ?_
    refine lv_iconst (v := (1 : Int32)) C.1 C.2.1 dX6_runsUp_38 (by decide) ?_
    refine lv_iadd C.1 C.2.1 dX6_runsUp_39 ?_
    obtain ⟨hi40, hf⟩ := gd_some hf
    refine lp_pa C hK hP hq34 hi40 dX6_runsUp_40 ?_
    refine lv_aload_n C.1 C.2.1 dX6_runsUp_41 rfl (lv_at hl 0 rfl) ?_
    refine gp_ys C hK hP hvz0 wf_X6_17 dX6_runsUp_42 (fun q42 hq42 => ?_)
    refine lv_iload_n C.1 C.2.1 dX6_runsUp_45 rfl (lv_at hl 1 rfl) ?_
    obtain ⟨hi46, hf⟩ := gd_some hf
    refine lp_pa C hK hP hq42 hi46 dX6_runsUp_46 ?_
    refine lv_icmp_ge (tgt := 54) C.1 C.2.1 dX6_runsUp_47 (by decide) (fun c47 => ?_) (fun c47 => ?_)
    · have hf := br_p c47 hf
      refine lv_iconst (v := (0 : Int32)) C.1 C.2.1 dX6_runsUp_54 (by decide) ?_
      exact hB55 ls _ (lv_sub hl [] rfl) hf
    · have hf := br_n c47 hf
      refine lv_iconst (v := (1 : Int32)) C.1 C.2.1 dX6_runsUp_50 (by decide) ?_
      refine lv_goto (tgt := 55) C.1 C.2.1 dX6_runsUp_51 (by decide) ?_
      exact hB55 ls _ (lv_sub hl [] rfl) hf
  · have hf := br_n c5 hf
    refine lv_aload_n C.1 C.2.1 dX6_runsUp_8 rfl (lv_at hl 0 rfl) ?_
    refine gp_xs C hK hP hvz0 wf_X6_13 dX6_runsUp_9 (fun q9 hq9 => ?_)
    refine lv_iload_n C.1 C.2.1 dX6_runsUp_12 rfl (lv_at hl 1 rfl) ?_
    refine lv_iconst (v := (1 : Int32)) C.1 C.2.1 dX6_runsUp_13 (by decide) ?_
    refine lv_iadd C.1 C.2.1 dX6_runsUp_14 ?_
    obtain ⟨hi15, hf⟩ := gd_some hf
    refine lp_pa C hK hP hq9 hi15 dX6_runsUp_15 ?_
    refine lv_aload_n C.1 C.2.1 dX6_runsUp_16 rfl (lv_at hl 0 rfl) ?_
    refine gp_xs C hK hP hvz0 wf_X6_13 dX6_runsUp_17 (fun q17 hq17 => ?_)
    refine lv_iload_n C.1 C.2.1 dX6_runsUp_20 rfl (lv_at hl 1 rfl) ?_
    obtain ⟨hi21, hf⟩ := gd_some hf
    refine lp_pa C hK hP hq17 hi21 dX6_runsUp_21 ?_
    refine lv_icmp_ge (tgt := 29) C.1 C.2.1 dX6_runsUp_22 (by decide) (fun c22 => ?_) (fun c22 => ?_)
    · have hf := br_p c22 hf
      refine lv_iconst (v := (0 : Int32)) C.1 C.2.1 dX6_runsUp_29 (by decide) ?_
      refine lv_goto (tgt := 55) C.1 C.2.1 dX6_runsUp_30 (by decide) ?_
      exact hB55 ls _ (lv_sub hl [] rfl) hf
    · have hf := br_n c22 hf
      refine lv_iconst (v := (1 : Int32)) C.1 C.2.1 dX6_runsUp_25 (by decide) ?_
      refine lv_goto (tgt := 55) C.1 C.2.1 dX6_runsUp_26 (by decide) ?_
      exact hB55 ls _ (lv_sub hl [] rfl) hf
def fc_X6_lineOf_L23 (F : Nat) (σ : CSt) (s0 : Int32) : Option (Int32) :=
  some s0
def fc_X6_lineOf (F : Nat) (σ : CSt) (vx0 : RV) (x1 : Int32) : Option (Int32) :=
  bd (fc_X6_isLevel F σ vx0 x1) (fun r2 => if r2 = 0 then (gd (ix x1 (vx0.2.1) = true) (fc_X6_lineOf_L23 F σ (vx0.2.2.1 x1.toNatClampNeg))) else (gd (ix x1 (vx0.2.1) = true) (fc_X6_lineOf_L23 F σ (vx0.2.2.2 x1.toNatClampNeg))))
set_option maxHeartbeats 4000000 in
set_option maxRecDepth 100000 in
theorem kc_X6_lineOf (l : Launch) (D : va_G) (cA : Nat → ClassId) (ad : Nat → Nat) (σ : CSt) (η : HS) (F : Nat) (az0 : Nat) (vz0 : RV) (z1 : Int32) (hvz0 : isRt cA η az0 vz0) (r : Int32) (hf : fc_X6_lineOf F σ vz0 z1 = some r) : KRc l D cA ad σ η yX6_lineOf cX6_lineOf 2 (some .int) (rmk 1 21) [.ref az0, .int z1] (QcV (.int r)) := by
  refine KRc.of (by decide) (Nat.le_of_ble_eq_true rfl) ?_
  intro p e s m below meth c C hr hlk hK hP hZ ls hl
  have hS : va_S NoA s.heap s.heap [] := va_S.rf
  have hl : lv_has ls 2 [(0, .ref az0), (1, .int z1)] := hl
  have hB23 : ∀ (ls : Array Slot) (s0 : Int32), lv_has ls 2 [] → fc_X6_lineOf_L23 F σ s0 = some r → WRc p l e 1 21 s m [.ref az0, .int z1] below meth c (QcV (.int r)) (F0 m 23 ls [.int s0]) := by
    intro ls s0 hl hf
    unfold fc_X6_lineOf_L23 at hf
    exact KRc.iret C hr hlk (Option.some.inj hf) dX6_lineOf_23
  unfold fc_X6_lineOf at hf
  refine lv_aload_n C.1 C.2.1 dX6_lineOf_0 rfl (lv_at hl 0 rfl) ?_
  refine lv_iload_n C.1 C.2.1 dX6_lineOf_1 rfl (lv_at hl 1 rfl) ?_
  obtain ⟨r2, hc2, hf⟩ := bd_some hf
  refine cV_go (runRVc (As := [_]) C hK hP hZ hS wv_X6_24 hl (kc_X6_isLevel l D cA ad _ η F _ _ _ hvz0 r2 hc2) (rcR hK hP hvz0) rfl rfl rfl (Nat.le_of_ble_eq_true rfl) ⟨Nat.le_refl _, Nat.le_refl _⟩ dX6_lineOf_2) ?_
  refine lv_if_eq (tgt := 17) C.1 C.2.1 dX6_lineOf_5 (by decide) (fun c5 => ?_) (fun c5 => ?_)
  · have hf := br_p c5 hf
    refine lv_aload_n C.1 C.2.1 dX6_lineOf_17 rfl (lv_at hl 0 rfl) ?_
    refine gp_xs C hK hP hvz0 wf_X6_13 dX6_lineOf_18 (fun q18 hq18 => ?_)
    refine lv_iload_n C.1 C.2.1 dX6_lineOf_21 rfl (lv_at hl 1 rfl) ?_
    obtain ⟨hi22, hf⟩ := gd_some hf
    refine lp_pa C hK hP hq18 hi22 dX6_lineOf_22 ?_
    exact hB23 ls _ (lv_sub hl [] rfl) hf
  · have hf := br_n c5 hf
    refine lv_aload_n C.1 C.2.1 dX6_lineOf_8 rfl (lv_at hl 0 rfl) ?_
    refine gp_ys C hK hP hvz0 wf_X6_17 dX6_lineOf_9 (fun q9 hq9 => ?_)
    refine lv_iload_n C.1 C.2.1 dX6_lineOf_12 rfl (lv_at hl 1 rfl) ?_
    obtain ⟨hi13, hf⟩ := gd_some hf
    refine lp_pa C hK hP hq9 hi13 dX6_lineOf_13 ?_
    refine lv_goto (tgt := 23) C.1 C.2.1 dX6_lineOf_14 (by decide) ?_
    exact hB23 ls _ (lv_sub hl [] rfl) hf
def fc_X1_firstBoxOn_L74 (F : Nat) (σ : CSt) (k3 : Int32 → Int32 → Int32 → Int32 → Int32 → Option (Int32)) (x1 : Int32) (x2 : Int32) (x3 : Int32) (x4 : Int32) (x5 : Int32) : Option (Int32) :=
  lt (x5 + (1 : Int32)) (fun x5_74 => k3 x1 x2 x3 x4 x5_74)
def fc_X1_firstBoxOn_L3_c (F : Nat) (σ : CSt) (k3 : Int32 → Int32 → Int32 → Int32 → Int32 → Option (Int32)) (x1 : Int32) (x2 : Int32) (x3 : Int32) (x4 : Int32) (x5 : Int32) : Option (Int32) :=
  if (cs_cb σ) ≤ x5 then (some (-1 : Int32)) else (lt ((4 : Int32) * x5) (fun x6_16 => gd (ix (x6_16 + (0 : Int32)) 32 = true) (if x3 < (cs_ce σ (x6_16 + (0 : Int32)).toNatClampNeg) then (fc_X1_firstBoxOn_L74 F σ k3 x1 x2 x3 x4 x5) else (gd (ix (x6_16 + (2 : Int32)) 32 = true) (if (cs_ce σ (x6_16 + (2 : Int32)).toNatClampNeg) < x1 then (fc_X1_firstBoxOn_L74 F σ k3 x1 x2 x3 x4 x5) else (gd (ix (x6_16 + (1 : Int32)) 32 = true) (if x4 < (cs_ce σ (x6_16 + (1 : Int32)).toNatClampNeg) then (fc_X1_firstBoxOn_L74 F σ k3 x1 x2 x3 x4 x5) else (gd (ix (x6_16 + (3 : Int32)) 32 = true) (if (cs_ce σ (x6_16 + (3 : Int32)).toNatClampNeg) < x2 then (fc_X1_firstBoxOn_L74 F σ k3 x1 x2 x3 x4 x5) else (some x5))))))))))
def fc_X1_firstBoxOn_L3 (F : Nat) (σ : CSt) (n : Nat) (x1 : Int32) (x2 : Int32) (x3 : Int32) (x4 : Int32) (x5 : Int32) : Option (Int32) := lpN (fun (k : Int32 × Int32 × Int32 × Int32 × Int32 → Option (Int32)) a => fc_X1_firstBoxOn_L3_c F σ (fun x1 x2 x3 x4 x5 => k (x1, x2, x3, x4, x5)) a.1 a.2.1 a.2.2.1 a.2.2.2.1 a.2.2.2.2) n (x1, x2, x3, x4, x5)
def fc_X1_firstBoxOn (F : Nat) (σ : CSt) (x1 : Int32) (x2 : Int32) (x3 : Int32) (x4 : Int32) : Option (Int32) :=
  fc_X1_firstBoxOn_L3 F σ F x1 x2 x3 x4 (0 : Int32)
set_option maxHeartbeats 4000000 in
set_option maxRecDepth 100000 in
theorem kc_X1_firstBoxOn (l : Launch) (D : va_G) (cA : Nat → ClassId) (ad : Nat → Nat) (σ : CSt) (η : HS) (F : Nat) (z1 : Int32) (z2 : Int32) (z3 : Int32) (z4 : Int32) (r : Int32) (hf : fc_X1_firstBoxOn F σ z1 z2 z3 z4 = some r) : KRc l D cA ad σ η yX1_firstBoxOn cX1_firstBoxOn 7 (some .int) (rmk 0 0) [.ref (ad 1), .int z1, .int z2, .int z3, .int z4] (QcV (.int r)) := by
  refine KRc.of (by decide) (Nat.le_of_ble_eq_true rfl) ?_
  intro p e s m below meth c C hr hlk hK hP hZ ls hl
  have hS : va_S NoA s.heap s.heap [] := va_S.rf
  have hl : lv_has ls 7 [(0, .ref (ad 1)), (1, .int z1), (2, .int z2), (3, .int z3), (4, .int z4)] := hl
  have hB3 : ∀ (n3 : Nat) (ls : Array Slot) (x1 : Int32) (x2 : Int32) (x3 : Int32) (x4 : Int32) (x5 : Int32), lv_has ls 7 [(0, .ref (ad 1)), (1, .int x1), (2, .int x2), (3, .int x3), (4, .int x4), (5, .int x5)] → fc_X1_firstBoxOn_L3 F σ n3 x1 x2 x3 x4 x5 = some r → WRc p l e 0 0 s m [.ref (ad 1), .int z1, .int z2, .int z3, .int z4] below meth c (QcV (.int r)) (F0 m 3 ls []) := by
    intro n3
    induction n3 with
    | zero =>
      intro ls x1 x2 x3 x4 x5 hl hf
      cases (show (none : Option _) = _ from hf)
    | succ n3 ih3 =>
      have hB74 : ∀ (ls : Array Slot) (x1 : Int32) (x2 : Int32) (x3 : Int32) (x4 : Int32) (x5 : Int32), lv_has ls 7 [(0, .ref (ad 1)), (1, .int x1), (2, .int x2), (3, .int x3), (4, .int x4), (5, .int x5)] → fc_X1_firstBoxOn_L74 F σ (fc_X1_firstBoxOn_L3 F σ n3) x1 x2 x3 x4 x5 = some r → WRc p l e 0 0 s m [.ref (ad 1), .int z1, .int z2, .int z3, .int z4] below meth c (QcV (.int r)) (F0 m 74 ls []) := by
        intro ls x1 x2 x3 x4 x5 hl hf
        unfold fc_X1_firstBoxOn_L74 at hf
        obtain ⟨x5_74, ex5_74, hf⟩ := lt_some hf
        refine lv_iinc (v := x5_74) (lv' := [(5, .int x5_74), (0, .ref (ad 1)), (1, .int x1), (2, .int x2), (3, .int x3), (4, .int x4)]) C.1 C.2.1 dX1_firstBoxOn_74 hl (k := 5) rfl (by rw [ex5_74]; rfl) (by decide) rfl (fun ls hl => ?_)
        refine lv_goto (tgt := 3) C.1 C.2.1 dX1_firstBoxOn_77 (by decide) ?_
        exact ih3 ls _ _ _ _ _ (lv_sub hl [1, 2, 3, 4, 5, 0] rfl) hf
      intro ls x1 x2 x3 x4 x5 hl hf
      have hf : fc_X1_firstBoxOn_L3_c F σ (fc_X1_firstBoxOn_L3 F σ n3) x1 x2 x3 x4 x5 = some r := hf
      unfold fc_X1_firstBoxOn_L3_c at hf
      refine lv_iload C.1 C.2.1 dX1_firstBoxOn_3 (lv_at hl 5 rfl) ?_
      refine lv_aload_n C.1 C.2.1 dX1_firstBoxOn_5 rfl (lv_at hl 0 rfl) ?_
      refine gc_cv_boxes C hK hP wf_X1_28 dX1_firstBoxOn_6 ?_
      refine lv_icmp_ge (tgt := 80) C.1 C.2.1 dX1_firstBoxOn_9 (by decide) (fun c9 => ?_) (fun c9 => ?_)
      · have hf := br_p c9 hf
        refine lv_iconst (v := (-1 : Int32)) C.1 C.2.1 dX1_firstBoxOn_80 (by decide) ?_
        exact KRc.iret C hr hlk (Option.some.inj hf) dX1_firstBoxOn_81
      · have hf := br_n c9 hf
        refine lv_iconst (v := (4 : Int32)) C.1 C.2.1 dX1_firstBoxOn_12 (by decide) ?_
        refine lv_iload C.1 C.2.1 dX1_firstBoxOn_13 (lv_at hl 5 rfl) ?_
        refine lv_imul C.1 C.2.1 dX1_firstBoxOn_15 ?_
        obtain ⟨x6_16, ex6_16, hf⟩ := lt_some hf
        refine lv_tope ex6_16 ?_
        refine lv_istore (lv' := [(6, .int x6_16), (0, .ref (ad 1)), (1, .int x1), (2, .int x2), (3, .int x3), (4, .int x4), (5, .int x5)]) C.1 C.2.1 dX1_firstBoxOn_16 hl (by decide) rfl (fun ls hl => ?_)
        refine lv_iload_n C.1 C.2.1 dX1_firstBoxOn_18 rfl (lv_at hl 4 rfl) ?_
        refine lv_aload_n C.1 C.2.1 dX1_firstBoxOn_19 rfl (lv_at hl 1 rfl) ?_
        refine gc_cv_edges C hK hP wf_X1_15 dX1_firstBoxOn_20 ?_
        refine lv_iload C.1 C.2.1 dX1_firstBoxOn_23 (lv_at hl 0 rfl) ?_
        refine lv_iconst (v := (0 : Int32)) C.1 C.2.1 dX1_firstBoxOn_25 (by decide) ?_
        refine lv_iadd C.1 C.2.1 dX1_firstBoxOn_26 ?_
        obtain ⟨hi27, hf⟩ := gd_some hf
        refine lc_ce C hK hP hi27 dX1_firstBoxOn_27 ?_
        refine lv_icmp_lt (tgt := 74) C.1 C.2.1 dX1_firstBoxOn_28 (by decide) (fun c28 => ?_) (fun c28 => ?_)
        · have hf := br_p c28 hf
          exact hB74 ls _ _ _ _ _ (lv_sub hl [1, 2, 3, 4, 5, 6] rfl) hf
        · have hf := br_n c28 hf
          refine lv_iload_n C.1 C.2.1 dX1_firstBoxOn_31 rfl (lv_at hl 2 rfl) ?_
          refine lv_aload_n C.1 C.2.1 dX1_firstBoxOn_32 rfl (lv_at hl 1 rfl) ?_
          refine gc_cv_edges C hK hP wf_X1_15 dX1_firstBoxOn_33 ?_
          refine lv_iload C.1 C.2.1 dX1_firstBoxOn_36 (lv_at hl 0 rfl) ?_
          refine lv_iconst (v := (2 : Int32)) C.1 C.2.1 dX1_firstBoxOn_38 (by decide) ?_
          refine lv_iadd C.1 C.2.1 dX1_firstBoxOn_39 ?_
          obtain ⟨hi40, hf⟩ := gd_some hf
          refine lc_ce C hK hP hi40 dX1_firstBoxOn_40 ?_
          refine lv_icmp_gt (tgt := 74) C.1 C.2.1 dX1_firstBoxOn_41 (by decide) (fun c41 => ?_) (fun c41 => ?_)
          · have hf := br_p c41 hf
            exact hB74 ls _ _ _ _ _ (lv_sub hl [1, 2, 3, 4, 5, 6] rfl) hf
          · have hf := br_n c41 hf
            refine lv_iload C.1 C.2.1 dX1_firstBoxOn_44 (lv_at hl 5 rfl) ?_
            refine lv_aload_n C.1 C.2.1 dX1_firstBoxOn_46 rfl (lv_at hl 1 rfl) ?_
            refine gc_cv_edges C hK hP wf_X1_15 dX1_firstBoxOn_47 ?_
            refine lv_iload C.1 C.2.1 dX1_firstBoxOn_50 (lv_at hl 0 rfl) ?_
            refine lv_iconst (v := (1 : Int32)) C.1 C.2.1 dX1_firstBoxOn_52 (by decide) ?_
            refine lv_iadd C.1 C.2.1 dX1_firstBoxOn_53 ?_
            obtain ⟨hi54, hf⟩ := gd_some hf
            refine lc_ce C hK hP hi54 dX1_firstBoxOn_54 ?_
            refine lv_icmp_lt (tgt := 74) C.1 C.2.1 dX1_firstBoxOn_55 (by decide) (fun c55 => ?_) (fun c55 => ?_)
            · have hf := br_p c55 hf
              exact hB74 ls _ _ _ _ _ (lv_sub hl [1, 2, 3, 4, 5, 6] rfl) hf
            · have hf := br_n c55 hf
              refine lv_iload_n C.1 C.2.1 dX1_firstBoxOn_58 rfl (lv_at hl 3 rfl) ?_
              refine lv_aload_n C.1 C.2.1 dX1_firstBoxOn_59 rfl (lv_at hl 1 rfl) ?_
              refine gc_cv_edges C hK hP wf_X1_15 dX1_firstBoxOn_60 ?_
              refine lv_iload C.1 C.2.1 dX1_firstBoxOn_63 (lv_at hl 0 rfl) ?_
              refine lv_iconst (v := (3 : Int32)) C.1 C.2.1 dX1_firstBoxOn_65 (by decide) ?_
              refine lv_iadd C.1 C.2.1 dX1_firstBoxOn_66 ?_
              obtain ⟨hi67, hf⟩ := gd_some hf
              refine lc_ce C hK hP hi67 dX1_firstBoxOn_67 ?_
              refine lv_icmp_gt (tgt := 74) C.1 C.2.1 dX1_firstBoxOn_68 (by decide) (fun c68 => ?_) (fun c68 => ?_)
              · have hf := br_p c68 hf
                exact hB74 ls _ _ _ _ _ (lv_sub hl [1, 2, 3, 4, 5, 6] rfl) hf
              · have hf := br_n c68 hf
                refine lv_iload C.1 C.2.1 dX1_firstBoxOn_71 (lv_at hl 6 rfl) ?_
                exact KRc.iret C hr hlk (Option.some.inj hf) dX1_firstBoxOn_73
  unfold fc_X1_firstBoxOn at hf
  refine lv_iconst (v := (0 : Int32)) C.1 C.2.1 dX1_firstBoxOn_0 (by decide) ?_
  refine lv_istore (lv' := [(5, .int (0 : Int32)), (0, .ref (ad 1)), (1, .int z1), (2, .int z2), (3, .int z3), (4, .int z4)]) C.1 C.2.1 dX1_firstBoxOn_1 hl (by decide) rfl (fun ls hl => ?_)
  exact hB3 F ls _ _ _ _ _ (lv_sub hl [1, 2, 3, 4, 5, 0] rfl) hf
def fc_X1_isBlocked_L143 (F : Nat) (σ : CSt) (s0 : Int32) : Option (Int32) :=
  gd (s0 = 0 ∨ s0 = 1) (some s0)
def fc_X1_isBlocked_L130 (F : Nat) (σ : CSt) (s0 : Int32) : Option (Int32) :=
  if s0 = (-1 : Int32) then (fc_X1_isBlocked_L143 F σ (0 : Int32)) else (fc_X1_isBlocked_L143 F σ (1 : Int32))
def fc_X1_isBlocked_L90 (F : Nat) (σ : CSt) (vx1 : RV) (x2 : Int32) (x3 : Int32) (x4 : Int32) : Option (Int32) :=
  bd (fc_X6_lineOf F σ vx1 x2) (fun r92 => bd (fc_X6_isLevel F σ vx1 x2) (fun r99 => if r99 = 0 then (bd (fc_X1_firstBoxOn F σ r92 x3 r92 x4) (fun r127 => fc_X1_isBlocked_L130 F σ r127)) else (bd (fc_X1_firstBoxOn F σ x3 r92 x4 r92) (fun r113 => fc_X1_isBlocked_L130 F σ r113))))
def fc_X1_isBlocked_L87 (F : Nat) (σ : CSt) (vx1 : RV) (x2 : Int32) (x3 : Int32) (x4 : Int32) : Option (Int32) :=
  lt (x3 + (1 : Int32)) (fun x3_87 => fc_X1_isBlocked_L90 F σ vx1 x2 x3_87 x4)
def fc_X1_isBlocked_L69 (F : Nat) (σ : CSt) (vx1 : RV) (x2 : Int32) (x3 : Int32) (x4 : Int32) (x5 : Int32) (x6 : Int32) (x7 : Int32) : Option (Int32) :=
  if x5 = 0 then (if x6 = 0 then (fc_X1_isBlocked_L90 F σ vx1 x2 x3 x4) else (fc_X1_isBlocked_L87 F σ vx1 x2 x3 x4)) else (if x7 = 0 then (fc_X1_isBlocked_L90 F σ vx1 x2 x3 x4) else (fc_X1_isBlocked_L87 F σ vx1 x2 x3 x4))
def fc_X1_isBlocked_L66 (F : Nat) (σ : CSt) (vx1 : RV) (x2 : Int32) (x3 : Int32) (x4 : Int32) (x5 : Int32) (x6 : Int32) (x7 : Int32) : Option (Int32) :=
  lt (x4 + (-1 : Int32)) (fun x4_66 => fc_X1_isBlocked_L69 F σ vx1 x2 x3 x4_66 x5 x6 x7)
def fc_X1_isBlocked_L46 (F : Nat) (σ : CSt) (vx1 : RV) (x2 : Int32) (x3 : Int32) (x4 : Int32) (x5 : Int32) (x6 : Int32) (s0 : Int32) : Option (Int32) :=
  if x5 = 0 then (if s0 = 0 then (fc_X1_isBlocked_L69 F σ vx1 x2 x3 x4 x5 x6 s0) else (fc_X1_isBlocked_L66 F σ vx1 x2 x3 x4 x5 x6 s0)) else (if x6 = 0 then (fc_X1_isBlocked_L69 F σ vx1 x2 x3 x4 x5 x6 s0) else (fc_X1_isBlocked_L66 F σ vx1 x2 x3 x4 x5 x6 s0))
def fc_X1_isBlocked_L29 (F : Nat) (σ : CSt) (vx1 : RV) (x2 : Int32) (x3 : Int32) (x4 : Int32) (x5 : Int32) (s0 : Int32) : Option (Int32) :=
  bd (fc_X6_segments F σ vx1) (fun r33 => if x2 = (r33 - (1 : Int32)) then (fc_X1_isBlocked_L46 F σ vx1 x2 x3 x4 x5 s0 (1 : Int32)) else (fc_X1_isBlocked_L46 F σ vx1 x2 x3 x4 x5 s0 (0 : Int32)))
def fc_X1_isBlocked (F : Nat) (σ : CSt) (vx1 : RV) (x2 : Int32) : Option (Int32) :=
  bd (fc_X6_startOf F σ vx1 x2) (fun r2 => bd (fc_X6_endOf F σ vx1 x2) (fun r8 => bd (fc_X6_runsUp F σ vx1 x2) (fun r15 => if x2 = 0 then (fc_X1_isBlocked_L29 F σ vx1 x2 r2 r8 r15 (1 : Int32)) else (fc_X1_isBlocked_L29 F σ vx1 x2 r2 r8 r15 (0 : Int32)))))
set_option maxHeartbeats 4000000 in
set_option maxRecDepth 100000 in
theorem kc_X1_isBlocked (l : Launch) (D : va_G) (cA : Nat → ClassId) (ad : Nat → Nat) (σ : CSt) (η : HS) (F : Nat) (az1 : Nat) (vz1 : RV) (z2 : Int32) (hvz1 : isRt cA η az1 vz1) (r : Int32) (hf : fc_X1_isBlocked F σ vz1 z2 = some r) : KRc l D cA ad σ η yX1_isBlocked cX1_isBlocked 10 (some .boolean) (rmk 2 42) [.ref (ad 1), .ref az1, .int z2] (QcV (.int r)) := by
  refine KRc.of (by decide) (Nat.le_of_ble_eq_true rfl) ?_
  intro p e s m below meth c C hr hlk hK hP hZ ls hl
  have hS : va_S NoA s.heap s.heap [] := va_S.rf
  have hl : lv_has ls 10 [(0, .ref (ad 1)), (1, .ref az1), (2, .int z2)] := hl
  have hB143 : ∀ (ls : Array Slot) (s0 : Int32), lv_has ls 10 [] → fc_X1_isBlocked_L143 F σ s0 = some r → WRc p l e 2 42 s m [.ref (ad 1), .ref az1, .int z2] below meth c (QcV (.int r)) (F0 m 143 ls [.int s0]) := by
    intro ls s0 hl hf
    unfold fc_X1_isBlocked_L143 at hf
    obtain ⟨hz143, hf⟩ := gd_some hf
    exact KRc.zret C hr hlk hz143 (Option.some.inj hf) dX1_isBlocked_143
  have hB130 : ∀ (ls : Array Slot) (s0 : Int32), lv_has ls 10 [] → fc_X1_isBlocked_L130 F σ s0 = some r → WRc p l e 2 42 s m [.ref (ad 1), .ref az1, .int z2] below meth c (QcV (.int r)) (F0 m 130 ls [.int s0]) := by
    intro ls s0 hl hf
    unfold fc_X1_isBlocked_L130 at hf
    refine lv_istore (lv' := [(9, .int s0)]) C.1 C.2.1 dX1_isBlocked_130 hl (by decide) rfl (fun ls hl => ?_)
    refine lv_iload C.1 C.2.1 dX1_isBlocked_132 (lv_at hl 0 rfl) ?_
    refine lv_iconst (v := (-1 : Int32)) C.1 C.2.1 dX1_isBlocked_134 (by decide) ?_
    refine lv_icmp_eq (tgt := 142) C.1 C.2.1 dX1_isBlocked_135 (by decide) (fun c135 => ?_) (fun c135 => ?_)
    · have hf := br_p c135 hf
      refine lv_iconst (v := (0 : Int32)) C.1 C.2.1 dX1_isBlocked_142 (by decide) ?_
      exact hB143 ls _ (lv_sub hl [] rfl) hf
    · have hf := br_n c135 hf
      refine lv_iconst (v := (1 : Int32)) C.1 C.2.1 dX1_isBlocked_138 (by decide) ?_
      refine lv_goto (tgt := 143) C.1 C.2.1 dX1_isBlocked_139 (by decide) ?_
      exact hB143 ls _ (lv_sub hl [] rfl) hf
  have hB90 : ∀ (ls : Array Slot) (ax1 : Nat) (vx1 : RV) (x2 : Int32) (x3 : Int32) (x4 : Int32), isRt cA η ax1 vx1 → lv_has ls 10 [(0, .ref (ad 1)), (1, .ref ax1), (2, .int x2), (3, .int x3), (4, .int x4)] → fc_X1_isBlocked_L90 F σ vx1 x2 x3 x4 = some r → WRc p l e 2 42 s m [.ref (ad 1), .ref az1, .int z2] below meth c (QcV (.int r)) (F0 m 90 ls []) := by
    intro ls ax1 vx1 x2 x3 x4 hvx1 hl hf
    unfold fc_X1_isBlocked_L90 at hf
    refine lv_aload_n C.1 C.2.1 dX1_isBlocked_90 rfl (lv_at hl 1 rfl) ?_
    refine lv_iload_n C.1 C.2.1 dX1_isBlocked_91 rfl (lv_at hl 2 rfl) ?_
    obtain ⟨r92, hc92, hf⟩ := bd_some hf
    refine cV_go (runRVc (As := [_]) C hK hP hZ hS wv_X1_89 hl (kc_X6_lineOf l D cA ad _ η F _ _ _ hvx1 r92 hc92) (rcR hK hP hvx1) rfl rfl rfl (Nat.le_of_ble_eq_true rfl) ⟨Nat.le_refl _, Nat.le_refl _⟩ dX1_isBlocked_92) ?_
    refine lv_istore (lv' := [(8, .int r92), (0, .ref (ad 1)), (1, .ref ax1), (2, .int x2), (3, .int x3), (4, .int x4)]) C.1 C.2.1 dX1_isBlocked_95 hl (by decide) rfl (fun ls hl => ?_)
    refine lv_aload_n C.1 C.2.1 dX1_isBlocked_97 rfl (lv_at hl 2 rfl) ?_
    refine lv_iload_n C.1 C.2.1 dX1_isBlocked_98 rfl (lv_at hl 3 rfl) ?_
    obtain ⟨r99, hc99, hf⟩ := bd_some hf
    refine cV_go (runRVc (As := [_]) C hK hP hZ hS wv_X1_92 hl (kc_X6_isLevel l D cA ad _ η F _ _ _ hvx1 r99 hc99) (rcR hK hP hvx1) rfl rfl rfl (Nat.le_of_ble_eq_true rfl) ⟨Nat.le_refl _, Nat.le_refl _⟩ dX1_isBlocked_99) ?_
    refine lv_if_eq (tgt := 119) C.1 C.2.1 dX1_isBlocked_102 (by decide) (fun c102 => ?_) (fun c102 => ?_)
    · have hf := br_p c102 hf
      refine lv_aload_n C.1 C.2.1 dX1_isBlocked_119 rfl (lv_at hl 1 rfl) ?_
      refine lv_iload C.1 C.2.1 dX1_isBlocked_120 (lv_at hl 0 rfl) ?_
      refine lv_iload_n C.1 C.2.1 dX1_isBlocked_122 rfl (lv_at hl 4 rfl) ?_
      refine lv_iload C.1 C.2.1 dX1_isBlocked_123 (lv_at hl 0 rfl) ?_
      refine lv_iload C.1 C.2.1 dX1_isBlocked_125 (lv_at hl 5 rfl) ?_
      obtain ⟨r127, hc127, hf⟩ := bd_some hf
      refine cV_go (runRVc (As := [_, _, _, _]) C hK hP hZ hS wv_X1_95 hl (kc_X1_firstBoxOn l D cA ad _ η F _ _ _ _  r127 hc127) (rcC 1 2 hK hP rfl rfl) rfl rfl rfl (Nat.le_of_ble_eq_true rfl) ⟨Nat.le_refl _, Nat.le_refl _⟩ dX1_isBlocked_127) ?_
      exact hB130 ls _ (lv_sub hl [] rfl) hf
    · have hf := br_n c102 hf
      refine lv_aload_n C.1 C.2.1 dX1_isBlocked_105 rfl (lv_at hl 1 rfl) ?_
      refine lv_iload_n C.1 C.2.1 dX1_isBlocked_106 rfl (lv_at hl 4 rfl) ?_
      refine lv_iload C.1 C.2.1 dX1_isBlocked_107 (lv_at hl 0 rfl) ?_
      refine lv_iload C.1 C.2.1 dX1_isBlocked_109 (lv_at hl 5 rfl) ?_
      refine lv_iload C.1 C.2.1 dX1_isBlocked_111 (lv_at hl 0 rfl) ?_
      obtain ⟨r113, hc113, hf⟩ := bd_some hf
      refine cV_go (runRVc (As := [_, _, _, _]) C hK hP hZ hS wv_X1_95 hl (kc_X1_firstBoxOn l D cA ad _ η F _ _ _ _  r113 hc113) (rcC 1 2 hK hP rfl rfl) rfl rfl rfl (Nat.le_of_ble_eq_true rfl) ⟨Nat.le_refl _, Nat.le_refl _⟩ dX1_isBlocked_113) ?_
      refine lv_goto (tgt := 130) C.1 C.2.1 dX1_isBlocked_116 (by decide) ?_
      exact hB130 ls _ (lv_sub hl [] rfl) hf
  have hB87 : ∀ (ls : Array Slot) (ax1 : Nat) (vx1 : RV) (x2 : Int32) (x3 : Int32) (x4 : Int32), isRt cA η ax1 vx1 → lv_has ls 10 [(0, .ref (ad 1)), (1, .ref ax1), (2, .int x2), (3, .int x3), (4, .int x4)] → fc_X1_isBlocked_L87 F σ vx1 x2 x3 x4 = some r → WRc p l e 2 42 s m [.ref (ad 1), .ref az1, .int z2] below meth c (QcV (.int r)) (F0 m 87 ls []) := by
    intro ls ax1 vx1 x2 x3 x4 hvx1 hl hf
    unfold fc_X1_isBlocked_L87 at hf
    obtain ⟨x3_87, ex3_87, hf⟩ := lt_some hf
    refine lv_iinc (v := x3_87) (lv' := [(3, .int x3_87), (0, .ref (ad 1)), (1, .ref ax1), (2, .int x2), (4, .int x4)]) C.1 C.2.1 dX1_isBlocked_87 hl (k := 3) rfl (by rw [ex3_87]; rfl) (by decide) rfl (fun ls hl => ?_)
    exact hB90 ls _ _ _ _ _ hvx1 (lv_sub hl [1, 2, 3, 0, 4] rfl) hf
  have hB69 : ∀ (ls : Array Slot) (ax1 : Nat) (vx1 : RV) (x2 : Int32) (x3 : Int32) (x4 : Int32) (x5 : Int32) (x6 : Int32) (x7 : Int32), isRt cA η ax1 vx1 → lv_has ls 10 [(0, .ref (ad 1)), (1, .ref ax1), (2, .int x2), (3, .int x3), (4, .int x4), (5, .int x5), (6, .int x6), (7, .int x7)] → fc_X1_isBlocked_L69 F σ vx1 x2 x3 x4 x5 x6 x7 = some r → WRc p l e 2 42 s m [.ref (ad 1), .ref az1, .int z2] below meth c (QcV (.int r)) (F0 m 69 ls []) := by
    intro ls ax1 vx1 x2 x3 x4 x5 x6 x7 hvx1 hl hf
    unfold fc_X1_isBlocked_L69 at hf
    refine lv_iload C.1 C.2.1 dX1_isBlocked_69 (lv_at hl 5 rfl) ?_
    refine lv_if_eq (tgt := 82) C.1 C.2.1 dX1_isBlocked_71 (by decide) (fun c71 => ?_) (fun c71 => ?_)
    · have hf := br_p c71 hf
      refine lv_iload C.1 C.2.1 dX1_isBlocked_82 (lv_at hl 6 rfl) ?_
      refine lv_if_eq (tgt := 90) C.1 C.2.1 dX1_isBlocked_84 (by decide) (fun c84 => ?_) (fun c84 => ?_)
      · have hf := br_p c84 hf
        exact hB90 ls _ _ _ _ _ hvx1 (lv_sub hl [0, 1, 2, 3, 4] rfl) hf
      · have hf := br_n c84 hf
        exact hB87 ls _ _ _ _ _ hvx1 (lv_sub hl [0, 1, 2, 3, 4] rfl) hf
    · have hf := br_n c71 hf
      refine lv_iload C.1 C.2.1 dX1_isBlocked_74 (lv_at hl 7 rfl) ?_
      refine lv_if_eq (tgt := 90) C.1 C.2.1 dX1_isBlocked_76 (by decide) (fun c76 => ?_) (fun c76 => ?_)
      · have hf := br_p c76 hf
        exact hB90 ls _ _ _ _ _ hvx1 (lv_sub hl [0, 1, 2, 3, 4] rfl) hf
      · have hf := br_n c76 hf
        refine lv_goto (tgt := 87) C.1 C.2.1 dX1_isBlocked_79 (by decide) ?_
        exact hB87 ls _ _ _ _ _ hvx1 (lv_sub hl [0, 1, 2, 3, 4] rfl) hf
  have hB66 : ∀ (ls : Array Slot) (ax1 : Nat) (vx1 : RV) (x2 : Int32) (x3 : Int32) (x4 : Int32) (x5 : Int32) (x6 : Int32) (x7 : Int32), isRt cA η ax1 vx1 → lv_has ls 10 [(0, .ref (ad 1)), (1, .ref ax1), (2, .int x2), (3, .int x3), (4, .int x4), (5, .int x5), (6, .int x6), (7, .int x7)] → fc_X1_isBlocked_L66 F σ vx1 x2 x3 x4 x5 x6 x7 = some r → WRc p l e 2 42 s m [.ref (ad 1), .ref az1, .int z2] below meth c (QcV (.int r)) (F0 m 66 ls []) := by
    intro ls ax1 vx1 x2 x3 x4 x5 x6 x7 hvx1 hl hf
    unfold fc_X1_isBlocked_L66 at hf
    obtain ⟨x4_66, ex4_66, hf⟩ := lt_some hf
    refine lv_iinc (v := x4_66) (lv' := [(4, .int x4_66), (0, .ref (ad 1)), (1, .ref ax1), (2, .int x2), (3, .int x3), (5, .int x5), (6, .int x6), (7, .int x7)]) C.1 C.2.1 dX1_isBlocked_66 hl (k := 4) rfl (by rw [ex4_66]; rfl) (by decide) rfl (fun ls hl => ?_)
    exact hB69 ls _ _ _ _ _ _ _ _ hvx1 (lv_sub hl [1, 2, 3, 4, 0, 5, 6, 7] rfl) hf
  have hB46 : ∀ (ls : Array Slot) (ax1 : Nat) (vx1 : RV) (x2 : Int32) (x3 : Int32) (x4 : Int32) (x5 : Int32) (x6 : Int32) (s0 : Int32), isRt cA η ax1 vx1 → lv_has ls 10 [(0, .ref (ad 1)), (1, .ref ax1), (2, .int x2), (3, .int x3), (4, .int x4), (5, .int x5), (6, .int x6)] → fc_X1_isBlocked_L46 F σ vx1 x2 x3 x4 x5 x6 s0 = some r → WRc p l e 2 42 s m [.ref (ad 1), .ref az1, .int z2] below meth c (QcV (.int r)) (F0 m 46 ls [.int s0]) := by
    intro ls ax1 vx1 x2 x3 x4 x5 x6 s0 hvx1 hl hf
    unfold fc_X1_isBlocked_L46 at hf
    refine lv_istore (lv' := [(7, .int s0), (0, .ref (ad 1)), (1, .ref ax1), (2, .int x2), (3, .int x3), (4, .int x4), (5, .int x5), (6, .int x6)]) C.1 C.2.1 dX1_isBlocked_46 hl (by decide) rfl (fun ls hl => ?_)
    refine lv_iload C.1 C.2.1 dX1_isBlocked_48 (lv_at hl 6 rfl) ?_
    refine lv_if_eq (tgt := 61) C.1 C.2.1 dX1_isBlocked_50 (by decide) (fun c50 => ?_) (fun c50 => ?_)
    · have hf := br_p c50 hf
      refine lv_iload C.1 C.2.1 dX1_isBlocked_61 (lv_at hl 0 rfl) ?_
      refine lv_if_eq (tgt := 69) C.1 C.2.1 dX1_isBlocked_63 (by decide) (fun c63 => ?_) (fun c63 => ?_)
      · have hf := br_p c63 hf
        exact hB69 ls _ _ _ _ _ _ _ _ hvx1 (lv_sub hl [1, 2, 3, 4, 5, 6, 7, 0] rfl) hf
      · have hf := br_n c63 hf
        exact hB66 ls _ _ _ _ _ _ _ _ hvx1 (lv_sub hl [1, 2, 3, 4, 5, 6, 7, 0] rfl) hf
    · have hf := br_n c50 hf
      refine lv_iload C.1 C.2.1 dX1_isBlocked_53 (lv_at hl 7 rfl) ?_
      refine lv_if_eq (tgt := 69) C.1 C.2.1 dX1_isBlocked_55 (by decide) (fun c55 => ?_) (fun c55 => ?_)
      · have hf := br_p c55 hf
        exact hB69 ls _ _ _ _ _ _ _ _ hvx1 (lv_sub hl [1, 2, 3, 4, 5, 6, 7, 0] rfl) hf
      · have hf := br_n c55 hf
        refine lv_goto (tgt := 66) C.1 C.2.1 dX1_isBlocked_58 (by decide) ?_
        exact hB66 ls _ _ _ _ _ _ _ _ hvx1 (lv_sub hl [1, 2, 3, 4, 5, 6, 7, 0] rfl) hf
  have hB29 : ∀ (ls : Array Slot) (ax1 : Nat) (vx1 : RV) (x2 : Int32) (x3 : Int32) (x4 : Int32) (x5 : Int32) (s0 : Int32), isRt cA η ax1 vx1 → lv_has ls 10 [(0, .ref (ad 1)), (1, .ref ax1), (2, .int x2), (3, .int x3), (4, .int x4), (5, .int x5)] → fc_X1_isBlocked_L29 F σ vx1 x2 x3 x4 x5 s0 = some r → WRc p l e 2 42 s m [.ref (ad 1), .ref az1, .int z2] below meth c (QcV (.int r)) (F0 m 29 ls [.int s0]) := by
    intro ls ax1 vx1 x2 x3 x4 x5 s0 hvx1 hl hf
    unfold fc_X1_isBlocked_L29 at hf
    refine lv_istore (lv' := [(6, .int s0), (0, .ref (ad 1)), (1, .ref ax1), (2, .int x2), (3, .int x3), (4, .int x4), (5, .int x5)]) C.1 C.2.1 dX1_isBlocked_29 hl (by decide) rfl (fun ls hl => ?_)
    refine lv_iload_n C.1 C.2.1 dX1_isBlocked_31 rfl (lv_at hl 3 rfl) ?_
    refine lv_aload_n C.1 C.2.1 dX1_isBlocked_32 rfl (lv_at hl 2 rfl) ?_
    obtain ⟨r33, hc33, hf⟩ := bd_some hf
    refine cV_go (runRVc (As := []) C hK hP hZ hS wv_X1_59 hl (kc_X6_segments l D cA ad _ η F _ _ hvx1 r33 hc33) (rcR hK hP hvx1) rfl rfl rfl (Nat.le_of_ble_eq_true rfl) ⟨Nat.le_refl _, Nat.le_refl _⟩ dX1_isBlocked_33) ?_
    refine lv_iconst (v := (1 : Int32)) C.1 C.2.1 dX1_isBlocked_36 (by decide) ?_
    refine lv_isub C.1 C.2.1 dX1_isBlocked_37 ?_
    refine lv_icmp_ne (tgt := 45) C.1 C.2.1 dX1_isBlocked_38 (by decide) (fun c38 => ?_) (fun c38 => ?_)
    · have hf := br_n c38 hf
      refine lv_iconst (v := (0 : Int32)) C.1 C.2.1 dX1_isBlocked_45 (by decide) ?_
      exact hB46 ls _ _ _ _ _ _ _ _ hvx1 (lv_sub hl [1, 2, 3, 4, 5, 6, 0] rfl) hf
    · have hf := br_p c38 hf
      refine lv_iconst (v := (1 : Int32)) C.1 C.2.1 dX1_isBlocked_41 (by decide) ?_
      refine lv_goto (tgt := 46) C.1 C.2.1 dX1_isBlocked_42 (by decide) ?_
      exact hB46 ls _ _ _ _ _ _ _ _ hvx1 (lv_sub hl [1, 2, 3, 4, 5, 6, 0] rfl) hf
  unfold fc_X1_isBlocked at hf
  refine lv_aload_n C.1 C.2.1 dX1_isBlocked_0 rfl (lv_at hl 1 rfl) ?_
  refine lv_iload_n C.1 C.2.1 dX1_isBlocked_1 rfl (lv_at hl 2 rfl) ?_
  obtain ⟨r2, hc2, hf⟩ := bd_some hf
  refine cV_go (runRVc (As := [_]) C hK hP hZ hS wv_X1_79 hl (kc_X6_startOf l D cA ad _ η F _ _ _ hvz1 r2 hc2) (rcR hK hP hvz1) rfl rfl rfl (Nat.le_of_ble_eq_true rfl) ⟨Nat.le_refl _, Nat.le_refl _⟩ dX1_isBlocked_2) ?_
  refine lv_istore_n (lv' := [(3, .int r2), (0, .ref (ad 1)), (1, .ref az1), (2, .int z2)]) C.1 C.2.1 dX1_isBlocked_5 rfl hl (by decide) rfl (fun ls hl => ?_)
  refine lv_aload_n C.1 C.2.1 dX1_isBlocked_6 rfl (lv_at hl 2 rfl) ?_
  refine lv_iload_n C.1 C.2.1 dX1_isBlocked_7 rfl (lv_at hl 3 rfl) ?_
  obtain ⟨r8, hc8, hf⟩ := bd_some hf
  refine cV_go (runRVc (As := [_]) C hK hP hZ hS wv_X1_83 hl (kc_X6_endOf l D cA ad _ η F _ _ _ hvz1 r8 hc8) (rcR hK hP hvz1) rfl rfl rfl (Nat.le_of_ble_eq_true rfl) ⟨Nat.le_refl _, Nat.le_refl _⟩ dX1_isBlocked_8) ?_
  refine lv_istore (lv' := [(4, .int r8), (3, .int r2), (0, .ref (ad 1)), (1, .ref az1), (2, .int z2)]) C.1 C.2.1 dX1_isBlocked_11 hl (by decide) rfl (fun ls hl => ?_)
  refine lv_aload_n C.1 C.2.1 dX1_isBlocked_13 rfl (lv_at hl 3 rfl) ?_
  refine lv_iload_n C.1 C.2.1 dX1_isBlocked_14 rfl (lv_at hl 4 rfl) ?_
  obtain ⟨r15, hc15, hf⟩ := bd_some hf
  refine cV_go (runRVc (As := [_]) C hK hP hZ hS wv_X1_86 hl (kc_X6_runsUp l D cA ad _ η F _ _ _ hvz1 r15 hc15) (rcR hK hP hvz1) rfl rfl rfl (Nat.le_of_ble_eq_true rfl) ⟨Nat.le_refl _, Nat.le_refl _⟩ dX1_isBlocked_15) ?_
  refine lv_istore (lv' := [(5, .int r15), (4, .int r8), (3, .int r2), (0, .ref (ad 1)), (1, .ref az1), (2, .int z2)]) C.1 C.2.1 dX1_isBlocked_18 hl (by decide) rfl (fun ls hl => ?_)
  refine lv_iload_n C.1 C.2.1 dX1_isBlocked_20 rfl (lv_at hl 5 rfl) ?_
  refine lv_if_ne (tgt := 28) C.1 C.2.1 dX1_isBlocked_21 (by decide) (fun c21 => ?_) (fun c21 => ?_)
  · have hf := br_n c21 hf
    refine lv_iconst (v := (0 : Int32)) C.1 C.2.1 dX1_isBlocked_28 (by decide) ?_
    exact hB29 ls _ _ _ _ _ _ _ hvz1 (lv_sub hl [3, 4, 5, 2, 1, 0] rfl) hf
  · have hf := br_p c21 hf
    refine lv_iconst (v := (1 : Int32)) C.1 C.2.1 dX1_isBlocked_24 (by decide) ?_
    refine lv_goto (tgt := 29) C.1 C.2.1 dX1_isBlocked_25 (by decide) ?_
    exact hB29 ls _ _ _ _ _ _ _ hvz1 (lv_sub hl [3, 4, 5, 2, 1, 0] rfl) hf
def fc_X1_isTouched_L83_c (F : Nat) (σ : CSt) (k83 : RV → Int32 → Int32 → Option (Int32)) (vx2 : RV) (x3 : Int32) (x4 : Int32) : Option (Int32) :=
  if x3 ≤ x4 then (some (0 : Int32)) else (bd (fc_X1_isBlocked F σ vx2 x4) (fun r93 => if r93 = 0 then (lt (x4 + (1 : Int32)) (fun x4_101 => k83 vx2 x3 x4_101)) else (some (1 : Int32))))
def fc_X1_isTouched_L83 (F : Nat) (σ : CSt) (n : Nat) (vx2 : RV) (x3 : Int32) (x4 : Int32) : Option (Int32) := lpN (fun (k : RV × Int32 × Int32 → Option (Int32)) a => fc_X1_isTouched_L83_c F σ (fun vx2 x3 x4 => k (vx2, x3, x4)) a.1 a.2.1 a.2.2) n (vx2, x3, x4)
def fc_X1_isTouched_L78 (F : Nat) (σ : CSt) : Option (Int32) :=
  some (1 : Int32)
def fc_X1_isTouched (F : Nat) (σ : CSt) (x1 : Int32) : Option (Int32) :=
  gd (ix x1 10 = true) (mo (cs_cr σ x1.toNatClampNeg) (some (1 : Int32)) (fun v5 => bd (fc_X6_segments F σ v5) (fun r14 => gd (ix (0 : Int32) (v5.2.1) = true) (bd (fc_X1_portX F σ x1 (0 : Int32)) (fun r27 => if (v5.2.2.1 (0 : Int32).toNatClampNeg) = r27 then (gd (ix (0 : Int32) (v5.2.1) = true) (bd (fc_X1_portY F σ x1 (0 : Int32)) (fun r42 => if (v5.2.2.2 (0 : Int32).toNatClampNeg) = r42 then (gd (ix r14 (v5.2.1) = true) (bd (fc_X1_portX F σ x1 (1 : Int32)) (fun r57 => if (v5.2.2.1 r14.toNatClampNeg) = r57 then (gd (ix r14 (v5.2.1) = true) (bd (fc_X1_portY F σ x1 (1 : Int32)) (fun r72 => if (v5.2.2.2 r14.toNatClampNeg) = r72 then (fc_X1_isTouched_L83 F σ F v5 r14 (0 : Int32)) else (fc_X1_isTouched_L78 F σ)))) else (fc_X1_isTouched_L78 F σ)))) else (fc_X1_isTouched_L78 F σ)))) else (fc_X1_isTouched_L78 F σ))))))
set_option maxHeartbeats 4000000 in
set_option maxRecDepth 100000 in
theorem kc_X1_isTouched (l : Launch) (D : va_G) (cA : Nat → ClassId) (ad : Nat → Nat) (σ : CSt) (η : HS) (F : Nat) (z1 : Int32) (r : Int32) (hf : fc_X1_isTouched F σ z1 = some r) : KRc l D cA ad σ η yX1_isTouched cX1_isTouched 5 (some .boolean) (rmk 3 71) [.ref (ad 1), .int z1] (QcV (.int r)) := by
  refine KRc.of (by decide) (Nat.le_of_ble_eq_true rfl) ?_
  intro p e s m below meth c C hr hlk hK hP hZ ls hl
  have hS : va_S NoA s.heap s.heap [] := va_S.rf
  have hl : lv_has ls 5 [(0, .ref (ad 1)), (1, .int z1)] := hl
  have hB83 : ∀ (n83 : Nat) (ls : Array Slot) (ax2 : Nat) (vx2 : RV) (x3 : Int32) (x4 : Int32), isRt cA η ax2 vx2 → lv_has ls 5 [(0, .ref (ad 1)), (2, .ref ax2), (3, .int x3), (4, .int x4)] → fc_X1_isTouched_L83 F σ n83 vx2 x3 x4 = some r → WRc p l e 3 71 s m [.ref (ad 1), .int z1] below meth c (QcV (.int r)) (F0 m 83 ls []) := by
    intro n83
    induction n83 with
    | zero =>
      intro ls ax2 vx2 x3 x4 hvx2 hl hf
      cases (show (none : Option _) = _ from hf)
    | succ n83 ih83 =>
      intro ls ax2 vx2 x3 x4 hvx2 hl hf
      have hf : fc_X1_isTouched_L83_c F σ (fc_X1_isTouched_L83 F σ n83) vx2 x3 x4 = some r := hf
      unfold fc_X1_isTouched_L83_c at hf
      refine lv_iload C.1 C.2.1 dX1_isTouched_83 (lv_at hl 3 rfl) ?_
      refine lv_iload_n C.1 C.2.1 dX1_isTouched_85 rfl (lv_at hl 2 rfl) ?_
      refine lv_icmp_ge (tgt := 107) C.1 C.2.1 dX1_isTouched_86 (by decide) (fun c86 => ?_) (fun c86 => ?_)
      · have hf := br_p c86 hf
        refine lv_iconst (v := (0 : Int32)) C.1 C.2.1 dX1_isTouched_107 (by decide) ?_
        exact KRc.zret C hr hlk (by decide) (Option.some.inj hf) dX1_isTouched_108
      · have hf := br_n c86 hf
        refine lv_aload_n C.1 C.2.1 dX1_isTouched_89 rfl (lv_at hl 0 rfl) ?_
        refine lv_aload_n C.1 C.2.1 dX1_isTouched_90 rfl (lv_at hl 1 rfl) ?_
        refine lv_iload C.1 C.2.1 dX1_isTouched_91 (lv_at hl 3 rfl) ?_
        obtain ⟨r93, hc93, hf⟩ := bd_some hf
        refine cV_go (runRVc (As := [_, _]) C hK hP hZ hS wv_X1_75 hl (kc_X1_isBlocked l D cA ad _ η F _ _ _ hvx2 r93 hc93) (rcC 1 2 hK hP rfl rfl) rfl rfl rfl (Nat.le_of_ble_eq_true rfl) ⟨Nat.le_refl _, Nat.le_refl _⟩ dX1_isTouched_93) ?_
        refine lv_if_eq (tgt := 101) C.1 C.2.1 dX1_isTouched_96 (by decide) (fun c96 => ?_) (fun c96 => ?_)
        · have hf := br_p c96 hf
          obtain ⟨x4_101, ex4_101, hf⟩ := lt_some hf
          refine lv_iinc (v := x4_101) (lv' := [(4, .int x4_101), (0, .ref (ad 1)), (2, .ref ax2), (3, .int x3)]) C.1 C.2.1 dX1_isTouched_101 hl (k := 3) rfl (by rw [ex4_101]; rfl) (by decide) rfl (fun ls hl => ?_)
          refine lv_goto (tgt := 83) C.1 C.2.1 dX1_isTouched_104 (by decide) ?_
          exact ih83 ls _ _ _ _ hvx2 (lv_sub hl [1, 2, 3, 0] rfl) hf
        · have hf := br_n c96 hf
          refine lv_iconst (v := (1 : Int32)) C.1 C.2.1 dX1_isTouched_99 (by decide) ?_
          exact KRc.zret C hr hlk (by decide) (Option.some.inj hf) dX1_isTouched_100
  have hB78 : ∀ (ls : Array Slot), lv_has ls 5 [] → fc_X1_isTouched_L78 F σ = some r → WRc p l e 3 71 s m [.ref (ad 1), .int z1] below meth c (QcV (.int r)) (F0 m 78 ls []) := by
    intro ls hl hf
    unfold fc_X1_isTouched_L78 at hf
    refine lv_iconst (v := (1 : Int32)) C.1 C.2.1 dX1_isTouched_78 (by decide) ?_
    exact KRc.zret C hr hlk (by decide) (Option.some.inj hf) dX1_isTouched_79
  unfold fc_X1_isTouched at hf
  refine lv_aload_n C.1 C.2.1 dX1_isTouched_0 rfl (lv_at hl 0 rfl) ?_
  refine gc_cv_routes C hK hP wf_X1_24 dX1_isTouched_1 ?_
  refine lv_iload_n C.1 C.2.1 dX1_isTouched_4 rfl (lv_at hl 1 rfl) ?_
  obtain ⟨hi5, hf⟩ := gd_some hf
  refine lr_cr C hK hP hi5 dX1_isTouched_5 (fun hn5 => ?_) (fun a5 v5 he5 hv5 => ?_)
  · have hf := mo_n hn5 hf
    refine lv_astore_nN (lv' := [(2, .null), (0, .ref (ad 1)), (1, .int z1)]) C.1 C.2.1 dX1_isTouched_6 rfl hl (by decide) rfl (fun ls hl => ?_)
    refine lv_aload_nN C.1 C.2.1 dX1_isTouched_7 rfl (lv_at hl 0 rfl) ?_
    refine lv_ifnonnullN C.1 C.2.1 dX1_isTouched_8 ?_
    refine lv_iconst (v := (1 : Int32)) C.1 C.2.1 dX1_isTouched_11 (by decide) ?_
    exact KRc.zret C hr hlk (by decide) (Option.some.inj hf) dX1_isTouched_12
  · have hf := mo_s he5 hf
    refine lv_astore_n (lv' := [(2, .ref a5), (0, .ref (ad 1)), (1, .int z1)]) C.1 C.2.1 dX1_isTouched_6 rfl hl (by decide) rfl (fun ls hl => ?_)
    refine lv_aload_n C.1 C.2.1 dX1_isTouched_7 rfl (lv_at hl 0 rfl) ?_
    refine lv_ifnonnull (tgt := 13) C.1 C.2.1 dX1_isTouched_8 (by decide) ?_
    refine lv_aload_n C.1 C.2.1 dX1_isTouched_13 rfl (lv_at hl 0 rfl) ?_
    obtain ⟨r14, hc14, hf⟩ := bd_some hf
    refine cV_go (runRVc (As := []) C hK hP hZ hS wv_X1_59 hl (kc_X6_segments l D cA ad _ η F _ _ hv5 r14 hc14) (rcR hK hP hv5) rfl rfl rfl (Nat.le_of_ble_eq_true rfl) ⟨Nat.le_refl _, Nat.le_refl _⟩ dX1_isTouched_14) ?_
    refine lv_istore_n (lv' := [(3, .int r14), (2, .ref a5), (0, .ref (ad 1)), (1, .int z1)]) C.1 C.2.1 dX1_isTouched_17 rfl hl (by decide) rfl (fun ls hl => ?_)
    refine lv_aload_n C.1 C.2.1 dX1_isTouched_18 rfl (lv_at hl 1 rfl) ?_
    refine gp_xs C hK hP hv5 wf_X1_63 dX1_isTouched_19 (fun q19 hq19 => ?_)
    refine lv_iconst (v := (0 : Int32)) C.1 C.2.1 dX1_isTouched_22 (by decide) ?_
    obtain ⟨hi23, hf⟩ := gd_some hf
    refine lp_pa C hK hP hq19 hi23 dX1_isTouched_23 ?_
    refine lv_aload_n C.1 C.2.1 dX1_isTouched_24 rfl (lv_at hl 2 rfl) ?_
    refine lv_iload_n C.1 C.2.1 dX1_isTouched_25 rfl (lv_at hl 3 rfl) ?_
    refine lv_iconst (v := (0 : Int32)) C.1 C.2.1 dX1_isTouched_26 (by decide) ?_
    obtain ⟨r27, hc27, hf⟩ := bd_some hf
    refine cV_go (runRVc (As := [_, _]) C hK hP hZ hS wv_X1_66 hl (kc_X1_portX l D cA ad _ η F _ _  r27 hc27) (rcC 1 2 hK hP rfl rfl) rfl rfl rfl (Nat.le_of_ble_eq_true rfl) ⟨Nat.le_refl _, Nat.le_refl _⟩ dX1_isTouched_27) ?_
    refine lv_icmp_ne (tgt := 78) C.1 C.2.1 dX1_isTouched_30 (by decide) (fun c30 => ?_) (fun c30 => ?_)
    · have hf := br_n c30 hf
      exact hB78 ls (lv_sub hl [] rfl) hf
    · have hf := br_p c30 hf
      refine lv_aload_n C.1 C.2.1 dX1_isTouched_33 rfl (lv_at hl 1 rfl) ?_
      refine gp_ys C hK hP hv5 wf_X1_69 dX1_isTouched_34 (fun q34 hq34 => ?_)
      refine lv_iconst (v := (0 : Int32)) C.1 C.2.1 dX1_isTouched_37 (by decide) ?_
      obtain ⟨hi38, hf⟩ := gd_some hf
      refine lp_pa C hK hP hq34 hi38 dX1_isTouched_38 ?_
      refine lv_aload_n C.1 C.2.1 dX1_isTouched_39 rfl (lv_at hl 2 rfl) ?_
      refine lv_iload_n C.1 C.2.1 dX1_isTouched_40 rfl (lv_at hl 3 rfl) ?_
      refine lv_iconst (v := (0 : Int32)) C.1 C.2.1 dX1_isTouched_41 (by decide) ?_
      obtain ⟨r42, hc42, hf⟩ := bd_some hf
      refine cV_go (runRVc (As := [_, _]) C hK hP hZ hS wv_X1_72 hl (kc_X1_portY l D cA ad _ η F _ _  r42 hc42) (rcC 1 2 hK hP rfl rfl) rfl rfl rfl (Nat.le_of_ble_eq_true rfl) ⟨Nat.le_refl _, Nat.le_refl _⟩ dX1_isTouched_42) ?_
      refine lv_icmp_ne (tgt := 78) C.1 C.2.1 dX1_isTouched_45 (by decide) (fun c45 => ?_) (fun c45 => ?_)
      · have hf := br_n c45 hf
        exact hB78 ls (lv_sub hl [] rfl) hf
      · have hf := br_p c45 hf
        refine lv_aload_n C.1 C.2.1 dX1_isTouched_48 rfl (lv_at hl 1 rfl) ?_
        refine gp_xs C hK hP hv5 wf_X1_63 dX1_isTouched_49 (fun q49 hq49 => ?_)
        refine lv_iload_n C.1 C.2.1 dX1_isTouched_52 rfl (lv_at hl 0 rfl) ?_
        obtain ⟨hi53, hf⟩ := gd_some hf
        refine lp_pa C hK hP hq49 hi53 dX1_isTouched_53 ?_
        refine lv_aload_n C.1 C.2.1 dX1_isTouched_54 rfl (lv_at hl 2 rfl) ?_
        refine lv_iload_n C.1 C.2.1 dX1_isTouched_55 rfl (lv_at hl 3 rfl) ?_
        refine lv_iconst (v := (1 : Int32)) C.1 C.2.1 dX1_isTouched_56 (by decide) ?_
        obtain ⟨r57, hc57, hf⟩ := bd_some hf
        refine cV_go (runRVc (As := [_, _]) C hK hP hZ hS wv_X1_66 hl (kc_X1_portX l D cA ad _ η F _ _  r57 hc57) (rcC 1 2 hK hP rfl rfl) rfl rfl rfl (Nat.le_of_ble_eq_true rfl) ⟨Nat.le_refl _, Nat.le_refl _⟩ dX1_isTouched_57) ?_
        refine lv_icmp_ne (tgt := 78) C.1 C.2.1 dX1_isTouched_60 (by decide) (fun c60 => ?_) (fun c60 => ?_)
        · have hf := br_n c60 hf
          exact hB78 ls (lv_sub hl [] rfl) hf
        · have hf := br_p c60 hf
          refine lv_aload_n C.1 C.2.1 dX1_isTouched_63 rfl (lv_at hl 1 rfl) ?_
          refine gp_ys C hK hP hv5 wf_X1_69 dX1_isTouched_64 (fun q64 hq64 => ?_)
          refine lv_iload_n C.1 C.2.1 dX1_isTouched_67 rfl (lv_at hl 0 rfl) ?_
          obtain ⟨hi68, hf⟩ := gd_some hf
          refine lp_pa C hK hP hq64 hi68 dX1_isTouched_68 ?_
          refine lv_aload_n C.1 C.2.1 dX1_isTouched_69 rfl (lv_at hl 2 rfl) ?_
          refine lv_iload_n C.1 C.2.1 dX1_isTouched_70 rfl (lv_at hl 3 rfl) ?_
          refine lv_iconst (v := (1 : Int32)) C.1 C.2.1 dX1_isTouched_71 (by decide) ?_
          obtain ⟨r72, hc72, hf⟩ := bd_some hf
          refine cV_go (runRVc (As := [_, _]) C hK hP hZ hS wv_X1_72 hl (kc_X1_portY l D cA ad _ η F _ _  r72 hc72) (rcC 1 2 hK hP rfl rfl) rfl rfl rfl (Nat.le_of_ble_eq_true rfl) ⟨Nat.le_refl _, Nat.le_refl _⟩ dX1_isTouched_72) ?_
          refine lv_icmp_eq (tgt := 80) C.1 C.2.1 dX1_isTouched_75 (by decide) (fun c75 => ?_) (fun c75 => ?_)
          · have hf := br_p c75 hf
            refine lv_iconst (v := (0 : Int32)) C.1 C.2.1 dX1_isTouched_80 (by decide) ?_
            refine lv_istore (lv' := [(4, .int (0 : Int32)), (3, .int r14), (2, .ref a5), (0, .ref (ad 1)), (1, .int z1)]) C.1 C.2.1 dX1_isTouched_81 hl (by decide) rfl (fun ls hl => ?_)
            exact hB83 F ls _ _ _ _ hv5 (lv_sub hl [3, 2, 1, 0] rfl) hf
          · have hf := br_n c75 hf
            exact hB78 ls (lv_sub hl [] rfl) hf
def fc_X1_touchedConnectors_L23 (F : Nat) (σ : CSt) (k4 : Int32 → Int32 → Option (Int32)) (x1 : Int32) (x2 : Int32) : Option (Int32) :=
  lt (x2 + (1 : Int32)) (fun x2_23 => k4 x1 x2_23)
def fc_X1_touchedConnectors_L4_c (F : Nat) (σ : CSt) (k4 : Int32 → Int32 → Option (Int32)) (x1 : Int32) (x2 : Int32) : Option (Int32) :=
  if (cs_cc σ) ≤ x2 then (some x1) else (bd (fc_X1_isTouched F σ x2) (fun r14 => if r14 = 0 then (fc_X1_touchedConnectors_L23 F σ k4 x1 x2) else (lt (x1 + (1 : Int32)) (fun x1_20 => fc_X1_touchedConnectors_L23 F σ k4 x1_20 x2))))
def fc_X1_touchedConnectors_L4 (F : Nat) (σ : CSt) (n : Nat) (x1 : Int32) (x2 : Int32) : Option (Int32) := lpN (fun (k : Int32 × Int32 → Option (Int32)) a => fc_X1_touchedConnectors_L4_c F σ (fun x1 x2 => k (x1, x2)) a.1 a.2) n (x1, x2)
def fc_X1_touchedConnectors (F : Nat) (σ : CSt) : Option (Int32) :=
  fc_X1_touchedConnectors_L4 F σ F (0 : Int32) (0 : Int32)
set_option maxHeartbeats 4000000 in
set_option maxRecDepth 100000 in
theorem kc_X1_touchedConnectors (l : Launch) (D : va_G) (cA : Nat → ClassId) (ad : Nat → Nat) (σ : CSt) (η : HS) (F : Nat)  (r : Int32) (hf : fc_X1_touchedConnectors F σ = some r) : KRc l D cA ad σ η yX1_touchedConnectors cX1_touchedConnectors 3 (some .int) (rmk 4 95) [.ref (ad 1)] (QcV (.int r)) := by
  refine KRc.of (by decide) (Nat.le_of_ble_eq_true rfl) ?_
  intro p e s m below meth c C hr hlk hK hP hZ ls hl
  have hS : va_S NoA s.heap s.heap [] := va_S.rf
  have hl : lv_has ls 3 [(0, .ref (ad 1))] := hl
  have hB4 : ∀ (n4 : Nat) (ls : Array Slot) (x1 : Int32) (x2 : Int32), lv_has ls 3 [(0, .ref (ad 1)), (1, .int x1), (2, .int x2)] → fc_X1_touchedConnectors_L4 F σ n4 x1 x2 = some r → WRc p l e 4 95 s m [.ref (ad 1)] below meth c (QcV (.int r)) (F0 m 4 ls []) := by
    intro n4
    induction n4 with
    | zero =>
      intro ls x1 x2 hl hf
      cases (show (none : Option _) = _ from hf)
    | succ n4 ih4 =>
      have hB23 : ∀ (ls : Array Slot) (x1 : Int32) (x2 : Int32), lv_has ls 3 [(0, .ref (ad 1)), (1, .int x1), (2, .int x2)] → fc_X1_touchedConnectors_L23 F σ (fc_X1_touchedConnectors_L4 F σ n4) x1 x2 = some r → WRc p l e 4 95 s m [.ref (ad 1)] below meth c (QcV (.int r)) (F0 m 23 ls []) := by
        intro ls x1 x2 hl hf
        unfold fc_X1_touchedConnectors_L23 at hf
        obtain ⟨x2_23, ex2_23, hf⟩ := lt_some hf
        refine lv_iinc (v := x2_23) (lv' := [(2, .int x2_23), (0, .ref (ad 1)), (1, .int x1)]) C.1 C.2.1 dX1_touchedConnectors_23 hl (k := 2) rfl (by rw [ex2_23]; rfl) (by decide) rfl (fun ls hl => ?_)
        refine lv_goto (tgt := 4) C.1 C.2.1 dX1_touchedConnectors_26 (by decide) ?_
        exact ih4 ls _ _ (lv_sub hl [1, 2, 0] rfl) hf
      intro ls x1 x2 hl hf
      have hf : fc_X1_touchedConnectors_L4_c F σ (fc_X1_touchedConnectors_L4 F σ n4) x1 x2 = some r := hf
      unfold fc_X1_touchedConnectors_L4_c at hf
      refine lv_iload_n C.1 C.2.1 dX1_touchedConnectors_4 rfl (lv_at hl 2 rfl) ?_
      refine lv_aload_n C.1 C.2.1 dX1_touchedConnectors_5 rfl (lv_at hl 0 rfl) ?_
      refine gc_cv_connectors C hK hP wf_X1_31 dX1_touchedConnectors_6 ?_
      refine lv_icmp_ge (tgt := 29) C.1 C.2.1 dX1_touchedConnectors_9 (by decide) (fun c9 => ?_) (fun c9 => ?_)
      · have hf := br_p c9 hf
        refine lv_iload_n C.1 C.2.1 dX1_touchedConnectors_29 rfl (lv_at hl 1 rfl) ?_
        exact KRc.iret C hr hlk (Option.some.inj hf) dX1_touchedConnectors_30
      · have hf := br_n c9 hf
        refine lv_aload_n C.1 C.2.1 dX1_touchedConnectors_12 rfl (lv_at hl 0 rfl) ?_
        refine lv_iload_n C.1 C.2.1 dX1_touchedConnectors_13 rfl (lv_at hl 2 rfl) ?_
        obtain ⟨r14, hc14, hf⟩ := bd_some hf
        refine cV_go (runRVc (As := [_]) C hK hP hZ hS wv_X1_99 hl (kc_X1_isTouched l D cA ad _ η F _  r14 hc14) (rcC 1 2 hK hP rfl rfl) rfl rfl rfl (Nat.le_of_ble_eq_true rfl) ⟨Nat.le_refl _, Nat.le_refl _⟩ dX1_touchedConnectors_14) ?_
        refine lv_if_eq (tgt := 23) C.1 C.2.1 dX1_touchedConnectors_17 (by decide) (fun c17 => ?_) (fun c17 => ?_)
        · have hf := br_p c17 hf
          exact hB23 ls _ _ (lv_sub hl [0, 1, 2] rfl) hf
        · have hf := br_n c17 hf
          obtain ⟨x1_20, ex1_20, hf⟩ := lt_some hf
          refine lv_iinc (v := x1_20) (lv' := [(1, .int x1_20), (0, .ref (ad 1)), (2, .int x2)]) C.1 C.2.1 dX1_touchedConnectors_20 hl (k := 1) rfl (by rw [ex1_20]; rfl) (by decide) rfl (fun ls hl => ?_)
          exact hB23 ls _ _ (lv_sub hl [1, 0, 2] rfl) hf
  unfold fc_X1_touchedConnectors at hf
  refine lv_iconst (v := (0 : Int32)) C.1 C.2.1 dX1_touchedConnectors_0 (by decide) ?_
  refine lv_istore_n (lv' := [(1, .int (0 : Int32)), (0, .ref (ad 1))]) C.1 C.2.1 dX1_touchedConnectors_1 rfl hl (by decide) rfl (fun ls hl => ?_)
  refine lv_iconst (v := (0 : Int32)) C.1 C.2.1 dX1_touchedConnectors_2 (by decide) ?_
  refine lv_istore_n (lv' := [(2, .int (0 : Int32)), (1, .int (0 : Int32)), (0, .ref (ad 1))]) C.1 C.2.1 dX1_touchedConnectors_3 rfl hl (by decide) rfl (fun ls hl => ?_)
  exact hB4 F ls _ _ (lv_sub hl [2, 1, 0] rfl) hf
def fc_X1_connectorsWithoutRoute_L24 (F : Nat) (σ : CSt) (k4 : Int32 → Int32 → Option (Int32)) (x1 : Int32) (x2 : Int32) : Option (Int32) :=
  lt (x2 + (1 : Int32)) (fun x2_24 => k4 x1 x2_24)
def fc_X1_connectorsWithoutRoute_L4_c (F : Nat) (σ : CSt) (k4 : Int32 → Int32 → Option (Int32)) (x1 : Int32) (x2 : Int32) : Option (Int32) :=
  if (cs_cc σ) ≤ x2 then (some x1) else (gd (ix x2 10 = true) (mo (cs_cr σ x2.toNatClampNeg) (lt (x1 + (1 : Int32)) (fun x1_21 => fc_X1_connectorsWithoutRoute_L24 F σ k4 x1_21 x2)) (fun v17 => fc_X1_connectorsWithoutRoute_L24 F σ k4 x1 x2)))
def fc_X1_connectorsWithoutRoute_L4 (F : Nat) (σ : CSt) (n : Nat) (x1 : Int32) (x2 : Int32) : Option (Int32) := lpN (fun (k : Int32 × Int32 → Option (Int32)) a => fc_X1_connectorsWithoutRoute_L4_c F σ (fun x1 x2 => k (x1, x2)) a.1 a.2) n (x1, x2)
def fc_X1_connectorsWithoutRoute (F : Nat) (σ : CSt) : Option (Int32) :=
  fc_X1_connectorsWithoutRoute_L4 F σ F (0 : Int32) (0 : Int32)
set_option maxHeartbeats 4000000 in
set_option maxRecDepth 100000 in
theorem kc_X1_connectorsWithoutRoute (l : Launch) (D : va_G) (cA : Nat → ClassId) (ad : Nat → Nat) (σ : CSt) (η : HS) (F : Nat)  (r : Int32) (hf : fc_X1_connectorsWithoutRoute F σ = some r) : KRc l D cA ad σ η yX1_connectorsWithoutRoute cX1_connectorsWithoutRoute 3 (some .int) (rmk 0 0) [.ref (ad 1)] (QcV (.int r)) := by
  refine KRc.of (by decide) (Nat.le_of_ble_eq_true rfl) ?_
  intro p e s m below meth c C hr hlk hK hP hZ ls hl
  have hS : va_S NoA s.heap s.heap [] := va_S.rf
  have hl : lv_has ls 3 [(0, .ref (ad 1))] := hl
  have hB4 : ∀ (n4 : Nat) (ls : Array Slot) (x1 : Int32) (x2 : Int32), lv_has ls 3 [(0, .ref (ad 1)), (1, .int x1), (2, .int x2)] → fc_X1_connectorsWithoutRoute_L4 F σ n4 x1 x2 = some r → WRc p l e 0 0 s m [.ref (ad 1)] below meth c (QcV (.int r)) (F0 m 4 ls []) := by
    intro n4
    induction n4 with
    | zero =>
      intro ls x1 x2 hl hf
      cases (show (none : Option _) = _ from hf)
    | succ n4 ih4 =>
      have hB24 : ∀ (ls : Array Slot) (x1 : Int32) (x2 : Int32), lv_has ls 3 [(0, .ref (ad 1)), (1, .int x1), (2, .int x2)] → fc_X1_connectorsWithoutRoute_L24 F σ (fc_X1_connectorsWithoutRoute_L4 F σ n4) x1 x2 = some r → WRc p l e 0 0 s m [.ref (ad 1)] below meth c (QcV (.int r)) (F0 m 24 ls []) := by
        intro ls x1 x2 hl hf
        unfold fc_X1_connectorsWithoutRoute_L24 at hf
        obtain ⟨x2_24, ex2_24, hf⟩ := lt_some hf
        refine lv_iinc (v := x2_24) (lv' := [(2, .int x2_24), (0, .ref (ad 1)), (1, .int x1)]) C.1 C.2.1 dX1_connectorsWithoutRoute_24 hl (k := 2) rfl (by rw [ex2_24]; rfl) (by decide) rfl (fun ls hl => ?_)
        refine lv_goto (tgt := 4) C.1 C.2.1 dX1_connectorsWithoutRoute_27 (by decide) ?_
        exact ih4 ls _ _ (lv_sub hl [1, 2, 0] rfl) hf
      intro ls x1 x2 hl hf
      have hf : fc_X1_connectorsWithoutRoute_L4_c F σ (fc_X1_connectorsWithoutRoute_L4 F σ n4) x1 x2 = some r := hf
      unfold fc_X1_connectorsWithoutRoute_L4_c at hf
      refine lv_iload_n C.1 C.2.1 dX1_connectorsWithoutRoute_4 rfl (lv_at hl 2 rfl) ?_
      refine lv_aload_n C.1 C.2.1 dX1_connectorsWithoutRoute_5 rfl (lv_at hl 0 rfl) ?_
      refine gc_cv_connectors C hK hP wf_X1_31 dX1_connectorsWithoutRoute_6 ?_
      refine lv_icmp_ge (tgt := 30) C.1 C.2.1 dX1_connectorsWithoutRoute_9 (by decide) (fun c9 => ?_) (fun c9 => ?_)
      · have hf := br_p c9 hf
        refine lv_iload_n C.1 C.2.1 dX1_connectorsWithoutRoute_30 rfl (lv_at hl 1 rfl) ?_
        exact KRc.iret C hr hlk (Option.some.inj hf) dX1_connectorsWithoutRoute_31
      · have hf := br_n c9 hf
        refine lv_aload_n C.1 C.2.1 dX1_connectorsWithoutRoute_12 rfl (lv_at hl 0 rfl) ?_
        refine gc_cv_routes C hK hP wf_X1_24 dX1_connectorsWithoutRoute_13 ?_
        refine lv_iload_n C.1 C.2.1 dX1_connectorsWithoutRoute_16 rfl (lv_at hl 2 rfl) ?_
        obtain ⟨hi17, hf⟩ := gd_some hf
        refine lr_cr C hK hP hi17 dX1_connectorsWithoutRoute_17 (fun hn17 => ?_) (fun a17 v17 he17 hv17 => ?_)
        · have hf := mo_n hn17 hf
          refine lv_ifnonnullN C.1 C.2.1 dX1_connectorsWithoutRoute_18 ?_
          obtain ⟨x1_21, ex1_21, hf⟩ := lt_some hf
          refine lv_iinc (v := x1_21) (lv' := [(1, .int x1_21), (0, .ref (ad 1)), (2, .int x2)]) C.1 C.2.1 dX1_connectorsWithoutRoute_21 hl (k := 1) rfl (by rw [ex1_21]; rfl) (by decide) rfl (fun ls hl => ?_)
          exact hB24 ls _ _ (lv_sub hl [1, 0, 2] rfl) hf
        · have hf := mo_s he17 hf
          refine lv_ifnonnull (tgt := 24) C.1 C.2.1 dX1_connectorsWithoutRoute_18 (by decide) ?_
          exact hB24 ls _ _ (lv_sub hl [0, 1, 2] rfl) hf
  unfold fc_X1_connectorsWithoutRoute at hf
  refine lv_iconst (v := (0 : Int32)) C.1 C.2.1 dX1_connectorsWithoutRoute_0 (by decide) ?_
  refine lv_istore_n (lv' := [(1, .int (0 : Int32)), (0, .ref (ad 1))]) C.1 C.2.1 dX1_connectorsWithoutRoute_1 rfl hl (by decide) rfl (fun ls hl => ?_)
  refine lv_iconst (v := (0 : Int32)) C.1 C.2.1 dX1_connectorsWithoutRoute_2 (by decide) ?_
  refine lv_istore_n (lv' := [(2, .int (0 : Int32)), (1, .int (0 : Int32)), (0, .ref (ad 1))]) C.1 C.2.1 dX1_connectorsWithoutRoute_3 rfl hl (by decide) rfl (fun ls hl => ?_)
  exact hB4 F ls _ _ (lv_sub hl [2, 1, 0] rfl) hf
def fc_X1_connectorsAt_L35 (F : Nat) (σ : CSt) (k4 : Int32 → Int32 → Int32 → Option (Int32)) (x1 : Int32) (x2 : Int32) (x3 : Int32) : Option (Int32) :=
  lt (x3 + (1 : Int32)) (fun x3_35 => k4 x1 x2 x3_35)
def fc_X1_connectorsAt_L32 (F : Nat) (σ : CSt) (k4 : Int32 → Int32 → Int32 → Option (Int32)) (x1 : Int32) (x2 : Int32) (x3 : Int32) : Option (Int32) :=
  lt (x2 + (1 : Int32)) (fun x2_32 => fc_X1_connectorsAt_L35 F σ k4 x1 x2_32 x3)
def fc_X1_connectorsAt_L4_c (F : Nat) (σ : CSt) (k4 : Int32 → Int32 → Int32 → Option (Int32)) (x1 : Int32) (x2 : Int32) (x3 : Int32) : Option (Int32) :=
  if (cs_cc σ) ≤ x3 then (some x2) else (bd (fc_X1_portDetail F σ x3 (0 : Int32)) (fun r15 => if r15 = x1 then (fc_X1_connectorsAt_L32 F σ k4 x1 x2 x3) else (bd (fc_X1_portDetail F σ x3 (3 : Int32)) (fun r25 => if r25 = x1 then (fc_X1_connectorsAt_L32 F σ k4 x1 x2 x3) else (fc_X1_connectorsAt_L35 F σ k4 x1 x2 x3)))))
def fc_X1_connectorsAt_L4 (F : Nat) (σ : CSt) (n : Nat) (x1 : Int32) (x2 : Int32) (x3 : Int32) : Option (Int32) := lpN (fun (k : Int32 × Int32 × Int32 → Option (Int32)) a => fc_X1_connectorsAt_L4_c F σ (fun x1 x2 x3 => k (x1, x2, x3)) a.1 a.2.1 a.2.2) n (x1, x2, x3)
def fc_X1_connectorsAt (F : Nat) (σ : CSt) (x1 : Int32) : Option (Int32) :=
  fc_X1_connectorsAt_L4 F σ F x1 (0 : Int32) (0 : Int32)
set_option maxHeartbeats 4000000 in
set_option maxRecDepth 100000 in
theorem kc_X1_connectorsAt (l : Launch) (D : va_G) (cA : Nat → ClassId) (ad : Nat → Nat) (σ : CSt) (η : HS) (F : Nat) (z1 : Int32) (r : Int32) (hf : fc_X1_connectorsAt F σ z1 = some r) : KRc l D cA ad σ η yX1_connectorsAt cX1_connectorsAt 4 (some .int) (rmk 1 22) [.ref (ad 1), .int z1] (QcV (.int r)) := by
  refine KRc.of (by decide) (Nat.le_of_ble_eq_true rfl) ?_
  intro p e s m below meth c C hr hlk hK hP hZ ls hl
  have hS : va_S NoA s.heap s.heap [] := va_S.rf
  have hl : lv_has ls 4 [(0, .ref (ad 1)), (1, .int z1)] := hl
  have hB4 : ∀ (n4 : Nat) (ls : Array Slot) (x1 : Int32) (x2 : Int32) (x3 : Int32), lv_has ls 4 [(0, .ref (ad 1)), (1, .int x1), (2, .int x2), (3, .int x3)] → fc_X1_connectorsAt_L4 F σ n4 x1 x2 x3 = some r → WRc p l e 1 22 s m [.ref (ad 1), .int z1] below meth c (QcV (.int r)) (F0 m 4 ls []) := by
    intro n4
    induction n4 with
    | zero =>
      intro ls x1 x2 x3 hl hf
      cases (show (none : Option _) = _ from hf)
    | succ n4 ih4 =>
      have hB35 : ∀ (ls : Array Slot) (x1 : Int32) (x2 : Int32) (x3 : Int32), lv_has ls 4 [(0, .ref (ad 1)), (1, .int x1), (2, .int x2), (3, .int x3)] → fc_X1_connectorsAt_L35 F σ (fc_X1_connectorsAt_L4 F σ n4) x1 x2 x3 = some r → WRc p l e 1 22 s m [.ref (ad 1), .int z1] below meth c (QcV (.int r)) (F0 m 35 ls []) := by
        intro ls x1 x2 x3 hl hf
        unfold fc_X1_connectorsAt_L35 at hf
        obtain ⟨x3_35, ex3_35, hf⟩ := lt_some hf
        refine lv_iinc (v := x3_35) (lv' := [(3, .int x3_35), (0, .ref (ad 1)), (1, .int x1), (2, .int x2)]) C.1 C.2.1 dX1_connectorsAt_35 hl (k := 3) rfl (by rw [ex3_35]; rfl) (by decide) rfl (fun ls hl => ?_)
        refine lv_goto (tgt := 4) C.1 C.2.1 dX1_connectorsAt_38 (by decide) ?_
        exact ih4 ls _ _ _ (lv_sub hl [1, 2, 3, 0] rfl) hf
      have hB32 : ∀ (ls : Array Slot) (x1 : Int32) (x2 : Int32) (x3 : Int32), lv_has ls 4 [(0, .ref (ad 1)), (1, .int x1), (2, .int x2), (3, .int x3)] → fc_X1_connectorsAt_L32 F σ (fc_X1_connectorsAt_L4 F σ n4) x1 x2 x3 = some r → WRc p l e 1 22 s m [.ref (ad 1), .int z1] below meth c (QcV (.int r)) (F0 m 32 ls []) := by
        intro ls x1 x2 x3 hl hf
        unfold fc_X1_connectorsAt_L32 at hf
        obtain ⟨x2_32, ex2_32, hf⟩ := lt_some hf
        refine lv_iinc (v := x2_32) (lv' := [(2, .int x2_32), (0, .ref (ad 1)), (1, .int x1), (3, .int x3)]) C.1 C.2.1 dX1_connectorsAt_32 hl (k := 2) rfl (by rw [ex2_32]; rfl) (by decide) rfl (fun ls hl => ?_)
        exact hB35 ls _ _ _ (lv_sub hl [1, 2, 0, 3] rfl) hf
      intro ls x1 x2 x3 hl hf
      have hf : fc_X1_connectorsAt_L4_c F σ (fc_X1_connectorsAt_L4 F σ n4) x1 x2 x3 = some r := hf
      unfold fc_X1_connectorsAt_L4_c at hf
      refine lv_iload_n C.1 C.2.1 dX1_connectorsAt_4 rfl (lv_at hl 3 rfl) ?_
      refine lv_aload_n C.1 C.2.1 dX1_connectorsAt_5 rfl (lv_at hl 0 rfl) ?_
      refine gc_cv_connectors C hK hP wf_X1_31 dX1_connectorsAt_6 ?_
      refine lv_icmp_ge (tgt := 41) C.1 C.2.1 dX1_connectorsAt_9 (by decide) (fun c9 => ?_) (fun c9 => ?_)
      · have hf := br_p c9 hf
        refine lv_iload_n C.1 C.2.1 dX1_connectorsAt_41 rfl (lv_at hl 2 rfl) ?_
        exact KRc.iret C hr hlk (Option.some.inj hf) dX1_connectorsAt_42
      · have hf := br_n c9 hf
        refine lv_aload_n C.1 C.2.1 dX1_connectorsAt_12 rfl (lv_at hl 0 rfl) ?_
        refine lv_iload_n C.1 C.2.1 dX1_connectorsAt_13 rfl (lv_at hl 3 rfl) ?_
        refine lv_iconst (v := (0 : Int32)) C.1 C.2.1 dX1_connectorsAt_14 (by decide) ?_
        obtain ⟨r15, hc15, hf⟩ := bd_some hf
        refine cV_go (runRVc (As := [_, _]) C hK hP hZ hS wv_X1_50 hl (kc_X1_portDetail l D cA ad _ η F _ _  r15 hc15) (rcC 1 2 hK hP rfl rfl) rfl rfl rfl (Nat.le_of_ble_eq_true rfl) ⟨Nat.le_refl _, Nat.le_refl _⟩ dX1_connectorsAt_15) ?_
        refine lv_iload_n C.1 C.2.1 dX1_connectorsAt_18 rfl (lv_at hl 1 rfl) ?_
        refine lv_icmp_eq (tgt := 32) C.1 C.2.1 dX1_connectorsAt_19 (by decide) (fun c19 => ?_) (fun c19 => ?_)
        · have hf := br_p c19 hf
          exact hB32 ls _ _ _ (lv_sub hl [0, 1, 2, 3] rfl) hf
        · have hf := br_n c19 hf
          refine lv_aload_n C.1 C.2.1 dX1_connectorsAt_22 rfl (lv_at hl 0 rfl) ?_
          refine lv_iload_n C.1 C.2.1 dX1_connectorsAt_23 rfl (lv_at hl 3 rfl) ?_
          refine lv_iconst (v := (3 : Int32)) C.1 C.2.1 dX1_connectorsAt_24 (by decide) ?_
          obtain ⟨r25, hc25, hf⟩ := bd_some hf
          refine cV_go (runRVc (As := [_, _]) C hK hP hZ hS wv_X1_50 hl (kc_X1_portDetail l D cA ad _ η F _ _  r25 hc25) (rcC 1 2 hK hP rfl rfl) rfl rfl rfl (Nat.le_of_ble_eq_true rfl) ⟨Nat.le_refl _, Nat.le_refl _⟩ dX1_connectorsAt_25) ?_
          refine lv_iload_n C.1 C.2.1 dX1_connectorsAt_28 rfl (lv_at hl 1 rfl) ?_
          refine lv_icmp_ne (tgt := 35) C.1 C.2.1 dX1_connectorsAt_29 (by decide) (fun c29 => ?_) (fun c29 => ?_)
          · have hf := br_n c29 hf
            exact hB35 ls _ _ _ (lv_sub hl [0, 1, 2, 3] rfl) hf
          · have hf := br_p c29 hf
            exact hB32 ls _ _ _ (lv_sub hl [0, 1, 2, 3] rfl) hf
  unfold fc_X1_connectorsAt at hf
  refine lv_iconst (v := (0 : Int32)) C.1 C.2.1 dX1_connectorsAt_0 (by decide) ?_
  refine lv_istore_n (lv' := [(2, .int (0 : Int32)), (0, .ref (ad 1)), (1, .int z1)]) C.1 C.2.1 dX1_connectorsAt_1 rfl hl (by decide) rfl (fun ls hl => ?_)
  refine lv_iconst (v := (0 : Int32)) C.1 C.2.1 dX1_connectorsAt_2 (by decide) ?_
  refine lv_istore_n (lv' := [(3, .int (0 : Int32)), (2, .int (0 : Int32)), (0, .ref (ad 1)), (1, .int z1)]) C.1 C.2.1 dX1_connectorsAt_3 rfl hl (by decide) rfl (fun ls hl => ?_)
  exact hB4 F ls _ _ _ (lv_sub hl [2, 3, 1, 0] rfl) hf
def fc_X9_box_L53 (F : Nat) (σ : CSt) (s0 : Int32) : Option (Int32) :=
  some s0
def fc_X9_box (F : Nat) (σ : CSt) (x1 : Int32) (x2 : Int32) : Option (Int32) :=
  bd (fc_X1_hasBox F σ x1) (fun r5 => if r5 = 0 then (some (-1001 : Int32)) else (bd (fc_X9_isWithin F σ x2 (0 : Int32) (4 : Int32)) (fun r18 => if r18 = 0 then (some (-1002 : Int32)) else (if (4 : Int32) ≤ x2 then (bd (fc_X1_connectorsAt F σ x1) (fun r50 => fc_X9_box_L53 F σ r50)) else (bd (fc_X1_edge F σ x1 x2) (fun r39 => fc_X9_box_L53 F σ r39))))))
set_option maxHeartbeats 4000000 in
set_option maxRecDepth 100000 in
theorem kc_X9_box (l : Launch) (D : va_G) (cA : Nat → ClassId) (ad : Nat → Nat) (σ : CSt) (η : HS) (F : Nat) (z1 : Int32) (z2 : Int32) (r : Int32) (hf : fc_X9_box F σ z1 z2 = some r) : KRc l D cA ad σ η yX9_box cX9_box 3 (some .int) (rmk 2 45) [.ref (ad 0), .int z1, .int z2] (QcV (.int r)) := by
  refine KRc.of (by decide) (Nat.le_of_ble_eq_true rfl) ?_
  intro p e s m below meth c C hr hlk hK hP hZ ls hl
  have hS : va_S NoA s.heap s.heap [] := va_S.rf
  have hl : lv_has ls 3 [(0, .ref (ad 0)), (1, .int z1), (2, .int z2)] := hl
  have hB53 : ∀ (ls : Array Slot) (s0 : Int32), lv_has ls 3 [] → fc_X9_box_L53 F σ s0 = some r → WRc p l e 2 45 s m [.ref (ad 0), .int z1, .int z2] below meth c (QcV (.int r)) (F0 m 53 ls [.int s0]) := by
    intro ls s0 hl hf
    unfold fc_X9_box_L53 at hf
    exact KRc.iret C hr hlk (Option.some.inj hf) dX9_box_53
  unfold fc_X9_box at hf
  refine lv_aload_n C.1 C.2.1 dX9_box_0 rfl (lv_at hl 0 rfl) ?_
  refine gc_R_canvas C hK hP wf_X9_10 dX9_box_1 ?_
  refine lv_iload_n C.1 C.2.1 dX9_box_4 rfl (lv_at hl 1 rfl) ?_
  obtain ⟨r5, hc5, hf⟩ := bd_some hf
  refine cV_go (runRVc (As := [_]) C hK hP hZ hS wv_X9_70 hl (kc_X1_hasBox l D cA ad _ η F _  r5 hc5) (rcC 1 2 hK hP rfl rfl) rfl rfl rfl (Nat.le_of_ble_eq_true rfl) ⟨Nat.le_refl _, Nat.le_refl _⟩ dX9_box_5) ?_
  refine lv_if_ne (tgt := 15) C.1 C.2.1 dX9_box_8 (by decide) (fun c8 => ?_) (fun c8 => ?_)
  · have hf := br_n c8 hf
    refine lv_iload_n C.1 C.2.1 dX9_box_15 rfl (lv_at hl 2 rfl) ?_
    refine lv_iconst (v := (0 : Int32)) C.1 C.2.1 dX9_box_16 (by decide) ?_
    refine lv_iconst (v := (4 : Int32)) C.1 C.2.1 dX9_box_17 (by decide) ?_
    obtain ⟨r18, hc18, hf⟩ := bd_some hf
    refine cV_go (runRSc (As := [_, _, _]) C hK hP hZ hS wv_X9_74 hl (kc_X9_isWithin l D cA ad _ η F _ _ _  r18 hc18) rfl rfl rfl (Nat.le_of_ble_eq_true rfl) ⟨Nat.le_refl _, Nat.le_refl _⟩ dX9_box_18) ?_
    refine lv_if_ne (tgt := 28) C.1 C.2.1 dX9_box_21 (by decide) (fun c21 => ?_) (fun c21 => ?_)
    · have hf := br_n c21 hf
      refine lv_iload_n C.1 C.2.1 dX9_box_28 rfl (lv_at hl 2 rfl) ?_
      refine lv_iconst (v := (4 : Int32)) C.1 C.2.1 dX9_box_29 (by decide) ?_
      refine lv_icmp_ge (tgt := 45) C.1 C.2.1 dX9_box_30 (by decide) (fun c30 => ?_) (fun c30 => ?_)
      · have hf := br_p c30 hf
        refine lv_aload_n C.1 C.2.1 dX9_box_45 rfl (lv_at hl 0 rfl) ?_
        refine gc_R_canvas C hK hP wf_X9_10 dX9_box_46 ?_
        refine lv_iload_n C.1 C.2.1 dX9_box_49 rfl (lv_at hl 1 rfl) ?_
        obtain ⟨r50, hc50, hf⟩ := bd_some hf
        refine cV_go (runRVc (As := [_]) C hK hP hZ hS wv_X9_89 hl (kc_X1_connectorsAt l D cA ad _ η F _  r50 hc50) (rcC 1 2 hK hP rfl rfl) rfl rfl rfl (Nat.le_of_ble_eq_true rfl) ⟨Nat.le_refl _, Nat.le_refl _⟩ dX9_box_50) ?_
        exact hB53 ls _ (lv_sub hl [] rfl) hf
      · have hf := br_n c30 hf
        refine lv_aload_n C.1 C.2.1 dX9_box_33 rfl (lv_at hl 0 rfl) ?_
        refine gc_R_canvas C hK hP wf_X9_10 dX9_box_34 ?_
        refine lv_iload_n C.1 C.2.1 dX9_box_37 rfl (lv_at hl 1 rfl) ?_
        refine lv_iload_n C.1 C.2.1 dX9_box_38 rfl (lv_at hl 2 rfl) ?_
        obtain ⟨r39, hc39, hf⟩ := bd_some hf
        refine cV_go (runRVc (As := [_, _]) C hK hP hZ hS wv_X9_78 hl (kc_X1_edge l D cA ad _ η F _ _  r39 hc39) (rcC 1 2 hK hP rfl rfl) rfl rfl rfl (Nat.le_of_ble_eq_true rfl) ⟨Nat.le_refl _, Nat.le_refl _⟩ dX9_box_39) ?_
        refine lv_goto (tgt := 53) C.1 C.2.1 dX9_box_42 (by decide) ?_
        exact hB53 ls _ (lv_sub hl [] rfl) hf
    · have hf := br_p c21 hf
      refine lv_sipush (v := (-1002 : Int32)) C.1 C.2.1 dX9_box_24 (by decide) ?_
      exact KRc.iret C hr hlk (Option.some.inj hf) dX9_box_27
  · have hf := br_p c8 hf
    refine lv_sipush (v := (-1001 : Int32)) C.1 C.2.1 dX9_box_11 (by decide) ?_
    exact KRc.iret C hr hlk (Option.some.inj hf) dX9_box_14
def fc_X9_blocker_L48 (F : Nat) (σ : CSt) (s0 : Int32) : Option (Int32) :=
  some s0
def fc_X9_blocker_L20 (F : Nat) (σ : CSt) : Option (Int32) :=
  some (-1002 : Int32)
def fc_X9_blocker (F : Nat) (σ : CSt) (x1 : Int32) (x2 : Int32) : Option (Int32) :=
  bd (fc_X9_isWithin F σ x1 (0 : Int32) (99 : Int32)) (fun r4 => if r4 = 0 then (fc_X9_blocker_L20 F σ) else (bd (fc_X9_isWithin F σ x2 (0 : Int32) (99 : Int32)) (fun r14 => if r14 = 0 then (fc_X9_blocker_L20 F σ) else (bd (fc_X1_firstBoxOn F σ x1 x2 x1 x2) (fun r32 => if r32 = (-1 : Int32) then (fc_X9_blocker_L48 F σ (-1000 : Int32)) else (fc_X9_blocker_L48 F σ r32))))))
set_option maxHeartbeats 4000000 in
set_option maxRecDepth 100000 in
theorem kc_X9_blocker (l : Launch) (D : va_G) (cA : Nat → ClassId) (ad : Nat → Nat) (σ : CSt) (η : HS) (F : Nat) (z1 : Int32) (z2 : Int32) (r : Int32) (hf : fc_X9_blocker F σ z1 z2 = some r) : KRc l D cA ad σ η yX9_blocker cX9_blocker 4 (some .int) (rmk 1 26) [.ref (ad 0), .int z1, .int z2] (QcV (.int r)) := by
  refine KRc.of (by decide) (Nat.le_of_ble_eq_true rfl) ?_
  intro p e s m below meth c C hr hlk hK hP hZ ls hl
  have hS : va_S NoA s.heap s.heap [] := va_S.rf
  have hl : lv_has ls 4 [(0, .ref (ad 0)), (1, .int z1), (2, .int z2)] := hl
  have hB48 : ∀ (ls : Array Slot) (s0 : Int32), lv_has ls 4 [] → fc_X9_blocker_L48 F σ s0 = some r → WRc p l e 1 26 s m [.ref (ad 0), .int z1, .int z2] below meth c (QcV (.int r)) (F0 m 48 ls [.int s0]) := by
    intro ls s0 hl hf
    unfold fc_X9_blocker_L48 at hf
    exact KRc.iret C hr hlk (Option.some.inj hf) dX9_blocker_48
  have hB20 : ∀ (ls : Array Slot), lv_has ls 4 [] → fc_X9_blocker_L20 F σ = some r → WRc p l e 1 26 s m [.ref (ad 0), .int z1, .int z2] below meth c (QcV (.int r)) (F0 m 20 ls []) := by
    intro ls hl hf
    unfold fc_X9_blocker_L20 at hf
    refine lv_sipush (v := (-1002 : Int32)) C.1 C.2.1 dX9_blocker_20 (by decide) ?_
    exact KRc.iret C hr hlk (Option.some.inj hf) dX9_blocker_23
  unfold fc_X9_blocker at hf
  refine lv_iload_n C.1 C.2.1 dX9_blocker_0 rfl (lv_at hl 1 rfl) ?_
  refine lv_iconst (v := (0 : Int32)) C.1 C.2.1 dX9_blocker_1 (by decide) ?_
  refine lv_bipush (v := (99 : Int32)) C.1 C.2.1 dX9_blocker_2 (by decide) ?_
  obtain ⟨r4, hc4, hf⟩ := bd_some hf
  refine cV_go (runRSc (As := [_, _, _]) C hK hP hZ hS wv_X9_74 hl (kc_X9_isWithin l D cA ad _ η F _ _ _  r4 hc4) rfl rfl rfl (Nat.le_of_ble_eq_true rfl) ⟨Nat.le_refl _, Nat.le_refl _⟩ dX9_blocker_4) ?_
  refine lv_if_eq (tgt := 20) C.1 C.2.1 dX9_blocker_7 (by decide) (fun c7 => ?_) (fun c7 => ?_)
  · have hf := br_p c7 hf
    exact hB20 ls (lv_sub hl [] rfl) hf
  · have hf := br_n c7 hf
    refine lv_iload_n C.1 C.2.1 dX9_blocker_10 rfl (lv_at hl 2 rfl) ?_
    refine lv_iconst (v := (0 : Int32)) C.1 C.2.1 dX9_blocker_11 (by decide) ?_
    refine lv_bipush (v := (99 : Int32)) C.1 C.2.1 dX9_blocker_12 (by decide) ?_
    obtain ⟨r14, hc14, hf⟩ := bd_some hf
    refine cV_go (runRSc (As := [_, _, _]) C hK hP hZ hS wv_X9_74 hl (kc_X9_isWithin l D cA ad _ η F _ _ _  r14 hc14) rfl rfl rfl (Nat.le_of_ble_eq_true rfl) ⟨Nat.le_refl _, Nat.le_refl _⟩ dX9_blocker_14) ?_
    refine lv_if_ne (tgt := 24) C.1 C.2.1 dX9_blocker_17 (by decide) (fun c17 => ?_) (fun c17 => ?_)
    · have hf := br_n c17 hf
      refine lv_aload_n C.1 C.2.1 dX9_blocker_24 rfl (lv_at hl 0 rfl) ?_
      refine gc_R_canvas C hK hP wf_X9_10 dX9_blocker_25 ?_
      refine lv_iload_n C.1 C.2.1 dX9_blocker_28 rfl (lv_at hl 1 rfl) ?_
      refine lv_iload_n C.1 C.2.1 dX9_blocker_29 rfl (lv_at hl 2 rfl) ?_
      refine lv_iload_n C.1 C.2.1 dX9_blocker_30 rfl (lv_at hl 1 rfl) ?_
      refine lv_iload_n C.1 C.2.1 dX9_blocker_31 rfl (lv_at hl 2 rfl) ?_
      obtain ⟨r32, hc32, hf⟩ := bd_some hf
      refine cV_go (runRVc (As := [_, _, _, _]) C hK hP hZ hS wv_X9_93 hl (kc_X1_firstBoxOn l D cA ad _ η F _ _ _ _  r32 hc32) (rcC 1 2 hK hP rfl rfl) rfl rfl rfl (Nat.le_of_ble_eq_true rfl) ⟨Nat.le_refl _, Nat.le_refl _⟩ dX9_blocker_32) ?_
      refine lv_istore_n (lv' := [(3, .int r32), (0, .ref (ad 0)), (1, .int z1), (2, .int z2)]) C.1 C.2.1 dX9_blocker_35 rfl hl (by decide) rfl (fun ls hl => ?_)
      refine lv_iload_n C.1 C.2.1 dX9_blocker_36 rfl (lv_at hl 0 rfl) ?_
      refine lv_iconst (v := (-1 : Int32)) C.1 C.2.1 dX9_blocker_37 (by decide) ?_
      refine lv_icmp_ne (tgt := 47) C.1 C.2.1 dX9_blocker_38 (by decide) (fun c38 => ?_) (fun c38 => ?_)
      · have hf := br_n c38 hf
        refine lv_iload_n C.1 C.2.1 dX9_blocker_47 rfl (lv_at hl 0 rfl) ?_
        exact hB48 ls _ (lv_sub hl [] rfl) hf
      · have hf := br_p c38 hf
        refine lv_sipush (v := (-1000 : Int32)) C.1 C.2.1 dX9_blocker_41 (by decide) ?_
        refine lv_goto (tgt := 48) C.1 C.2.1 dX9_blocker_44 (by decide) ?_
        exact hB48 ls _ (lv_sub hl [] rfl) hf
    · have hf := br_p c17 hf
      exact hB20 ls (lv_sub hl [] rfl) hf
def fc_X1_hasPort_L64 (F : Nat) (σ : CSt) (s0 : Int32) : Option (Int32) :=
  gd (s0 = 0 ∨ s0 = 1) (some s0)
def fc_X1_hasPort_L51 (F : Nat) (σ : CSt) (x3 : Int32) (s0 : Int32) : Option (Int32) :=
  if s0 < x3 then (fc_X1_hasPort_L64 F σ (0 : Int32)) else (fc_X1_hasPort_L64 F σ (1 : Int32))
def fc_X1_hasPort_L13 (F : Nat) (σ : CSt) : Option (Int32) :=
  some (0 : Int32)
def fc_X1_hasPort (F : Nat) (σ : CSt) (x1 : Int32) (x2 : Int32) (x3 : Int32) : Option (Int32) :=
  if x2 < 0 then (fc_X1_hasPort_L13 F σ) else (if (4 : Int32) ≤ x2 then (fc_X1_hasPort_L13 F σ) else (if 0 ≤ x3 then (bd (fc_X3_isUpright F σ x2) (fun r16 => if r16 = 0 then (bd (fc_X1_edge F σ x1 (3 : Int32)) (fun r41 => bd (fc_X1_edge F σ x1 (1 : Int32)) (fun r47 => fc_X1_hasPort_L51 F σ x3 (r41 - r47)))) else (bd (fc_X1_edge F σ x1 (2 : Int32)) (fun r25 => bd (fc_X1_edge F σ x1 (0 : Int32)) (fun r31 => fc_X1_hasPort_L51 F σ x3 (r25 - r31)))))) else (fc_X1_hasPort_L13 F σ)))
set_option maxHeartbeats 4000000 in
set_option maxRecDepth 100000 in
theorem kc_X1_hasPort (l : Launch) (D : va_G) (cA : Nat → ClassId) (ad : Nat → Nat) (σ : CSt) (η : HS) (F : Nat) (z1 : Int32) (z2 : Int32) (z3 : Int32) (r : Int32) (hf : fc_X1_hasPort F σ z1 z2 z3 = some r) : KRc l D cA ad σ η yX1_hasPort cX1_hasPort 5 (some .boolean) (rmk 1 22) [.ref (ad 1), .int z1, .int z2, .int z3] (QcV (.int r)) := by
  refine KRc.of (by decide) (Nat.le_of_ble_eq_true rfl) ?_
  intro p e s m below meth c C hr hlk hK hP hZ ls hl
  have hS : va_S NoA s.heap s.heap [] := va_S.rf
  have hl : lv_has ls 5 [(0, .ref (ad 1)), (1, .int z1), (2, .int z2), (3, .int z3)] := hl
  have hB64 : ∀ (ls : Array Slot) (s0 : Int32), lv_has ls 5 [] → fc_X1_hasPort_L64 F σ s0 = some r → WRc p l e 1 22 s m [.ref (ad 1), .int z1, .int z2, .int z3] below meth c (QcV (.int r)) (F0 m 64 ls [.int s0]) := by
    intro ls s0 hl hf
    unfold fc_X1_hasPort_L64 at hf
    obtain ⟨hz64, hf⟩ := gd_some hf
    exact KRc.zret C hr hlk hz64 (Option.some.inj hf) dX1_hasPort_64
  have hB51 : ∀ (ls : Array Slot) (x3 : Int32) (s0 : Int32), lv_has ls 5 [(3, .int x3)] → fc_X1_hasPort_L51 F σ x3 s0 = some r → WRc p l e 1 22 s m [.ref (ad 1), .int z1, .int z2, .int z3] below meth c (QcV (.int r)) (F0 m 51 ls [.int s0]) := by
    intro ls x3 s0 hl hf
    unfold fc_X1_hasPort_L51 at hf
    refine lv_istore (lv' := [(4, .int s0), (3, .int x3)]) C.1 C.2.1 dX1_hasPort_51 hl (by decide) rfl (fun ls hl => ?_)
    refine lv_iload_n C.1 C.2.1 dX1_hasPort_53 rfl (lv_at hl 1 rfl) ?_
    refine lv_iload C.1 C.2.1 dX1_hasPort_54 (lv_at hl 0 rfl) ?_
    refine lv_icmp_gt (tgt := 63) C.1 C.2.1 dX1_hasPort_56 (by decide) (fun c56 => ?_) (fun c56 => ?_)
    · have hf := br_p c56 hf
      refine lv_iconst (v := (0 : Int32)) C.1 C.2.1 dX1_hasPort_63 (by decide) ?_
      exact hB64 ls _ (lv_sub hl [] rfl) hf
    · have hf := br_n c56 hf
      refine lv_iconst (v := (1 : Int32)) C.1 C.2.1 dX1_hasPort_59 (by decide) ?_
      refine lv_goto (tgt := 64) C.1 C.2.1 dX1_hasPort_60 (by decide) ?_
      exact hB64 ls _ (lv_sub hl [] rfl) hf
  have hB13 : ∀ (ls : Array Slot), lv_has ls 5 [] → fc_X1_hasPort_L13 F σ = some r → WRc p l e 1 22 s m [.ref (ad 1), .int z1, .int z2, .int z3] below meth c (QcV (.int r)) (F0 m 13 ls []) := by
    intro ls hl hf
    unfold fc_X1_hasPort_L13 at hf
    refine lv_iconst (v := (0 : Int32)) C.1 C.2.1 dX1_hasPort_13 (by decide) ?_
    exact KRc.zret C hr hlk (by decide) (Option.some.inj hf) dX1_hasPort_14
  unfold fc_X1_hasPort at hf
  refine lv_iload_n C.1 C.2.1 dX1_hasPort_0 rfl (lv_at hl 2 rfl) ?_
  refine lv_if_lt (tgt := 13) C.1 C.2.1 dX1_hasPort_1 (by decide) (fun c1 => ?_) (fun c1 => ?_)
  · have hf := br_p c1 hf
    exact hB13 ls (lv_sub hl [] rfl) hf
  · have hf := br_n c1 hf
    refine lv_iload_n C.1 C.2.1 dX1_hasPort_4 rfl (lv_at hl 2 rfl) ?_
    refine lv_iconst (v := (4 : Int32)) C.1 C.2.1 dX1_hasPort_5 (by decide) ?_
    refine lv_icmp_ge (tgt := 13) C.1 C.2.1 dX1_hasPort_6 (by decide) (fun c6 => ?_) (fun c6 => ?_)
    · have hf := br_p c6 hf
      exact hB13 ls (lv_sub hl [] rfl) hf
    · have hf := br_n c6 hf
      refine lv_iload_n C.1 C.2.1 dX1_hasPort_9 rfl (lv_at hl 3 rfl) ?_
      refine lv_if_ge (tgt := 15) C.1 C.2.1 dX1_hasPort_10 (by decide) (fun c10 => ?_) (fun c10 => ?_)
      · have hf := br_p c10 hf
        refine lv_iload_n C.1 C.2.1 dX1_hasPort_15 rfl (lv_at hl 2 rfl) ?_
        obtain ⟨r16, hc16, hf⟩ := bd_some hf
        refine cV_go (runRSc (As := [_]) C hK hP hZ hS wv_X1_46 hl (kc_X3_isUpright l D cA ad _ η F _  r16 hc16) rfl rfl rfl (Nat.le_of_ble_eq_true rfl) ⟨Nat.le_refl _, Nat.le_refl _⟩ dX1_hasPort_16) ?_
        refine lv_if_eq (tgt := 38) C.1 C.2.1 dX1_hasPort_19 (by decide) (fun c19 => ?_) (fun c19 => ?_)
        · have hf := br_p c19 hf
          refine lv_aload_n C.1 C.2.1 dX1_hasPort_38 rfl (lv_at hl 0 rfl) ?_
          refine lv_iload_n C.1 C.2.1 dX1_hasPort_39 rfl (lv_at hl 1 rfl) ?_
          refine lv_iconst (v := (3 : Int32)) C.1 C.2.1 dX1_hasPort_40 (by decide) ?_
          obtain ⟨r41, hc41, hf⟩ := bd_some hf
          refine cV_go (runRVc (As := [_, _]) C hK hP hZ hS wv_X1_40 hl (kc_X1_edge l D cA ad _ η F _ _  r41 hc41) (rcC 1 2 hK hP rfl rfl) rfl rfl rfl (Nat.le_of_ble_eq_true rfl) ⟨Nat.le_refl _, Nat.le_refl _⟩ dX1_hasPort_41) ?_
          refine lv_aload_n C.1 C.2.1 dX1_hasPort_44 rfl (lv_at hl 0 rfl) ?_
          refine lv_iload_n C.1 C.2.1 dX1_hasPort_45 rfl (lv_at hl 1 rfl) ?_
          refine lv_iconst (v := (1 : Int32)) C.1 C.2.1 dX1_hasPort_46 (by decide) ?_
          obtain ⟨r47, hc47, hf⟩ := bd_some hf
          refine cV_go (runRVc (As := [_, _]) C hK hP hZ hS wv_X1_40 hl (kc_X1_edge l D cA ad _ η F _ _  r47 hc47) (rcC 1 2 hK hP rfl rfl) rfl rfl rfl (Nat.le_of_ble_eq_true rfl) ⟨Nat.le_refl _, Nat.le_refl _⟩ dX1_hasPort_47) ?_
          refine lv_isub C.1 C.2.1 dX1_hasPort_50 ?_
          exact hB51 ls _ _ (lv_sub hl [3] rfl) hf
        · have hf := br_n c19 hf
          refine lv_aload_n C.1 C.2.1 dX1_hasPort_22 rfl (lv_at hl 0 rfl) ?_
          refine lv_iload_n C.1 C.2.1 dX1_hasPort_23 rfl (lv_at hl 1 rfl) ?_
          refine lv_iconst (v := (2 : Int32)) C.1 C.2.1 dX1_hasPort_24 (by decide) ?_
          obtain ⟨r25, hc25, hf⟩ := bd_some hf
          refine cV_go (runRVc (As := [_, _]) C hK hP hZ hS wv_X1_40 hl (kc_X1_edge l D cA ad _ η F _ _  r25 hc25) (rcC 1 2 hK hP rfl rfl) rfl rfl rfl (Nat.le_of_ble_eq_true rfl) ⟨Nat.le_refl _, Nat.le_refl _⟩ dX1_hasPort_25) ?_
          refine lv_aload_n C.1 C.2.1 dX1_hasPort_28 rfl (lv_at hl 0 rfl) ?_
          refine lv_iload_n C.1 C.2.1 dX1_hasPort_29 rfl (lv_at hl 1 rfl) ?_
          refine lv_iconst (v := (0 : Int32)) C.1 C.2.1 dX1_hasPort_30 (by decide) ?_
          obtain ⟨r31, hc31, hf⟩ := bd_some hf
          refine cV_go (runRVc (As := [_, _]) C hK hP hZ hS wv_X1_40 hl (kc_X1_edge l D cA ad _ η F _ _  r31 hc31) (rcC 1 2 hK hP rfl rfl) rfl rfl rfl (Nat.le_of_ble_eq_true rfl) ⟨Nat.le_refl _, Nat.le_refl _⟩ dX1_hasPort_31) ?_
          refine lv_isub C.1 C.2.1 dX1_hasPort_34 ?_
          refine lv_goto (tgt := 51) C.1 C.2.1 dX1_hasPort_35 (by decide) ?_
          exact hB51 ls _ _ (lv_sub hl [3] rfl) hf
      · have hf := br_n c10 hf
        exact hB13 ls (lv_sub hl [] rfl) hf
def fc_X1_putPort (F : Nat) (σ : CSt) (x1 : Int32) (x2 : Int32) (x3 : Int32) (x4 : Int32) (x5 : Int32) : Option (CSt) :=
  lt (((6 : Int32) * x1) + ((3 : Int32) * x2)) (fun x6_8 => gd (ix (x6_8 + (0 : Int32)) 60 = true) (lt (sc_cq σ (x6_8 + (0 : Int32)) x3) (fun σ19 => gd (ix (x6_8 + (1 : Int32)) 60 = true) (lt (sc_cq σ19 (x6_8 + (1 : Int32)) x4) (fun σ30 => gd (ix (x6_8 + (2 : Int32)) 60 = true) (lt (sc_cq σ30 (x6_8 + (2 : Int32)) x5) (fun σ41 => some σ41)))))))
set_option maxHeartbeats 4000000 in
set_option maxRecDepth 100000 in
theorem kc_X1_putPort (l : Launch) (D : va_G) (cA : Nat → ClassId) (ad : Nat → Nat) (σ0 : CSt) (η : HS) (F : Nat) (z1 : Int32) (z2 : Int32) (z3 : Int32) (z4 : Int32) (z5 : Int32) (σr : CSt) (hf : fc_X1_putPort F σ0 z1 z2 z3 z4 z5 = some σr) : KC l D cA ad σ0 η yX1_putPort cX1_putPort 7 none (rmk 0 0) [.ref (ad 1), .int z1, .int z2, .int z3, .int z4, .int z5] none σr := by
  refine KC.of (by decide) (Nat.le_of_ble_eq_true rfl) ?_
  intro p e s m below meth c A hAe hA C hr hlk hK hP hD hS hZ ls hl
  have hl : lv_has ls 7 [(0, .ref (ad 1)), (1, .int z1), (2, .int z2), (3, .int z3), (4, .int z4), (5, .int z5)] := hl
  unfold fc_X1_putPort at hf
  refine lv_bipush (v := (6 : Int32)) C.1 C.2.1 dX1_putPort_0 (by decide) ?_
  refine lv_iload_n C.1 C.2.1 dX1_putPort_2 rfl (lv_at hl 1 rfl) ?_
  refine lv_imul C.1 C.2.1 dX1_putPort_3 ?_
  refine lv_iconst (v := (3 : Int32)) C.1 C.2.1 dX1_putPort_4 (by decide) ?_
  refine lv_iload_n C.1 C.2.1 dX1_putPort_5 rfl (lv_at hl 2 rfl) ?_
  refine lv_imul C.1 C.2.1 dX1_putPort_6 ?_
  refine lv_iadd C.1 C.2.1 dX1_putPort_7 ?_
  obtain ⟨x6_8, ex6_8, hf⟩ := lt_some hf
  refine lv_tope ex6_8 ?_
  refine lv_istore (lv' := [(6, .int x6_8), (0, .ref (ad 1)), (1, .int z1), (2, .int z2), (3, .int z3), (4, .int z4), (5, .int z5)]) C.1 C.2.1 dX1_putPort_8 hl (by decide) rfl (fun ls hl => ?_)
  refine lv_aload_n C.1 C.2.1 dX1_putPort_10 rfl (lv_at hl 1 rfl) ?_
  refine gc_cv_ports C hK hP wf_X1_19 dX1_putPort_11 ?_
  refine lv_iload C.1 C.2.1 dX1_putPort_14 (lv_at hl 0 rfl) ?_
  refine lv_iconst (v := (0 : Int32)) C.1 C.2.1 dX1_putPort_16 (by decide) ?_
  refine lv_iadd C.1 C.2.1 dX1_putPort_17 ?_
  refine lv_iload_n C.1 C.2.1 dX1_putPort_18 rfl (lv_at hl 4 rfl) ?_
  obtain ⟨hi19, hf⟩ := gd_some hf
  replace hf := lt_e hf
  refine uc_cq C hK hP hD hS hi19 dX1_putPort_19 (fun H locs hP hD hS => ?_)
  refine lv_aload_n C.1 C.2.1 dX1_putPort_20 rfl (lv_at hl 1 rfl) ?_
  refine gc_cv_ports C hK hP wf_X1_19 dX1_putPort_21 ?_
  refine lv_iload C.1 C.2.1 dX1_putPort_24 (lv_at hl 0 rfl) ?_
  refine lv_iconst (v := (1 : Int32)) C.1 C.2.1 dX1_putPort_26 (by decide) ?_
  refine lv_iadd C.1 C.2.1 dX1_putPort_27 ?_
  refine lv_iload C.1 C.2.1 dX1_putPort_28 (lv_at hl 5 rfl) ?_
  obtain ⟨hi30, hf⟩ := gd_some hf
  replace hf := lt_e hf
  refine uc_cq C hK hP hD hS hi30 dX1_putPort_30 (fun H locs hP hD hS => ?_)
  refine lv_aload_n C.1 C.2.1 dX1_putPort_31 rfl (lv_at hl 1 rfl) ?_
  refine gc_cv_ports C hK hP wf_X1_19 dX1_putPort_32 ?_
  refine lv_iload C.1 C.2.1 dX1_putPort_35 (lv_at hl 0 rfl) ?_
  refine lv_iconst (v := (2 : Int32)) C.1 C.2.1 dX1_putPort_37 (by decide) ?_
  refine lv_iadd C.1 C.2.1 dX1_putPort_38 ?_
  refine lv_iload C.1 C.2.1 dX1_putPort_39 (lv_at hl 6 rfl) ?_
  obtain ⟨hi41, hf⟩ := gd_some hf
  replace hf := lt_e hf
  refine uc_cq C hK hP hD hS hi41 dX1_putPort_41 (fun H locs hP hD hS => ?_)
  obtain rfl := Option.some.inj hf
  exact KC.vret C hr hlk hK hAe hP hD hS rfl dX1_putPort_42
def fc_X1_hasConnector_L17 (F : Nat) (σ : CSt) (s0 : Int32) : Option (Int32) :=
  gd (s0 = 0 ∨ s0 = 1) (some s0)
def fc_X1_hasConnector_L16 (F : Nat) (σ : CSt) : Option (Int32) :=
  fc_X1_hasConnector_L17 F σ (0 : Int32)
def fc_X1_hasConnector (F : Nat) (σ : CSt) (x1 : Int32) : Option (Int32) :=
  if x1 < 0 then (fc_X1_hasConnector_L16 F σ) else (if (cs_cc σ) ≤ x1 then (fc_X1_hasConnector_L16 F σ) else (fc_X1_hasConnector_L17 F σ (1 : Int32)))
set_option maxHeartbeats 4000000 in
set_option maxRecDepth 100000 in
theorem kc_X1_hasConnector (l : Launch) (D : va_G) (cA : Nat → ClassId) (ad : Nat → Nat) (σ : CSt) (η : HS) (F : Nat) (z1 : Int32) (r : Int32) (hf : fc_X1_hasConnector F σ z1 = some r) : KRc l D cA ad σ η yX1_hasConnector cX1_hasConnector 2 (some .boolean) (rmk 0 0) [.ref (ad 1), .int z1] (QcV (.int r)) := by
  refine KRc.of (by decide) (Nat.le_of_ble_eq_true rfl) ?_
  intro p e s m below meth c C hr hlk hK hP hZ ls hl
  have hS : va_S NoA s.heap s.heap [] := va_S.rf
  have hl : lv_has ls 2 [(0, .ref (ad 1)), (1, .int z1)] := hl
  have hB17 : ∀ (ls : Array Slot) (s0 : Int32), lv_has ls 2 [] → fc_X1_hasConnector_L17 F σ s0 = some r → WRc p l e 0 0 s m [.ref (ad 1), .int z1] below meth c (QcV (.int r)) (F0 m 17 ls [.int s0]) := by
    intro ls s0 hl hf
    unfold fc_X1_hasConnector_L17 at hf
    obtain ⟨hz17, hf⟩ := gd_some hf
    exact KRc.zret C hr hlk hz17 (Option.some.inj hf) dX1_hasConnector_17
  have hB16 : ∀ (ls : Array Slot), lv_has ls 2 [] → fc_X1_hasConnector_L16 F σ = some r → WRc p l e 0 0 s m [.ref (ad 1), .int z1] below meth c (QcV (.int r)) (F0 m 16 ls []) := by
    intro ls hl hf
    unfold fc_X1_hasConnector_L16 at hf
    refine lv_iconst (v := (0 : Int32)) C.1 C.2.1 dX1_hasConnector_16 (by decide) ?_
    exact hB17 ls _ (lv_sub hl [] rfl) hf
  unfold fc_X1_hasConnector at hf
  refine lv_iload_n C.1 C.2.1 dX1_hasConnector_0 rfl (lv_at hl 1 rfl) ?_
  refine lv_if_lt (tgt := 16) C.1 C.2.1 dX1_hasConnector_1 (by decide) (fun c1 => ?_) (fun c1 => ?_)
  · have hf := br_p c1 hf
    exact hB16 ls (lv_sub hl [] rfl) hf
  · have hf := br_n c1 hf
    refine lv_iload_n C.1 C.2.1 dX1_hasConnector_4 rfl (lv_at hl 1 rfl) ?_
    refine lv_aload_n C.1 C.2.1 dX1_hasConnector_5 rfl (lv_at hl 0 rfl) ?_
    refine gc_cv_connectors C hK hP wf_X1_31 dX1_hasConnector_6 ?_
    refine lv_icmp_ge (tgt := 16) C.1 C.2.1 dX1_hasConnector_9 (by decide) (fun c9 => ?_) (fun c9 => ?_)
    · have hf := br_p c9 hf
      exact hB16 ls (lv_sub hl [] rfl) hf
    · have hf := br_n c9 hf
      refine lv_iconst (v := (1 : Int32)) C.1 C.2.1 dX1_hasConnector_12 (by decide) ?_
      refine lv_goto (tgt := 17) C.1 C.2.1 dX1_hasConnector_13 (by decide) ?_
      exact hB17 ls _ (lv_sub hl [] rfl) hf
def fc_X1_costOfRoutes_L32 (F : Nat) (σ : CSt) (k4 : Int32 → Int32 → Option (Int32)) (x2 : Int32) (s0 : Int32) (s1 : Int32) : Option (Int32) :=
  lt (s1 + s0) (fun x1_33 => lt (x2 + (1 : Int32)) (fun x2_34 => k4 x1_33 x2_34))
def fc_X1_costOfRoutes_L4_c (F : Nat) (σ : CSt) (k4 : Int32 → Int32 → Option (Int32)) (x1 : Int32) (x2 : Int32) : Option (Int32) :=
  if (cs_cc σ) ≤ x2 then (some x1) else (gd (ix x2 10 = true) (mo (cs_cr σ x2.toNatClampNeg) (fc_X1_costOfRoutes_L32 F σ k4 x2 (0 : Int32) x1) (fun v17 => fc_X1_costOfRoutes_L32 F σ k4 x2 (v17.1) x1)))
def fc_X1_costOfRoutes_L4 (F : Nat) (σ : CSt) (n : Nat) (x1 : Int32) (x2 : Int32) : Option (Int32) := lpN (fun (k : Int32 × Int32 → Option (Int32)) a => fc_X1_costOfRoutes_L4_c F σ (fun x1 x2 => k (x1, x2)) a.1 a.2) n (x1, x2)
def fc_X1_costOfRoutes (F : Nat) (σ : CSt) : Option (Int32) :=
  fc_X1_costOfRoutes_L4 F σ F (0 : Int32) (0 : Int32)
set_option maxHeartbeats 4000000 in
set_option maxRecDepth 100000 in
theorem kc_X1_costOfRoutes (l : Launch) (D : va_G) (cA : Nat → ClassId) (ad : Nat → Nat) (σ : CSt) (η : HS) (F : Nat)  (r : Int32) (hf : fc_X1_costOfRoutes F σ = some r) : KRc l D cA ad σ η yX1_costOfRoutes cX1_costOfRoutes 4 (some .int) (rmk 0 0) [.ref (ad 1)] (QcV (.int r)) := by
  refine KRc.of (by decide) (Nat.le_of_ble_eq_true rfl) ?_
  intro p e s m below meth c C hr hlk hK hP hZ ls hl
  have hS : va_S NoA s.heap s.heap [] := va_S.rf
  have hl : lv_has ls 4 [(0, .ref (ad 1))] := hl
  have hB4 : ∀ (n4 : Nat) (ls : Array Slot) (x1 : Int32) (x2 : Int32), lv_has ls 4 [(0, .ref (ad 1)), (1, .int x1), (2, .int x2)] → fc_X1_costOfRoutes_L4 F σ n4 x1 x2 = some r → WRc p l e 0 0 s m [.ref (ad 1)] below meth c (QcV (.int r)) (F0 m 4 ls []) := by
    intro n4
    induction n4 with
    | zero =>
      intro ls x1 x2 hl hf
      cases (show (none : Option _) = _ from hf)
    | succ n4 ih4 =>
      have hB32 : ∀ (ls : Array Slot) (x2 : Int32) (s0 : Int32) (s1 : Int32), lv_has ls 4 [(0, .ref (ad 1)), (2, .int x2)] → fc_X1_costOfRoutes_L32 F σ (fc_X1_costOfRoutes_L4 F σ n4) x2 s0 s1 = some r → WRc p l e 0 0 s m [.ref (ad 1)] below meth c (QcV (.int r)) (F0 m 32 ls [.int s0, .int s1]) := by
        intro ls x2 s0 s1 hl hf
        unfold fc_X1_costOfRoutes_L32 at hf
        refine lv_iadd C.1 C.2.1 dX1_costOfRoutes_32 ?_
        obtain ⟨x1_33, ex1_33, hf⟩ := lt_some hf
        refine lv_tope ex1_33 ?_
        refine lv_istore_n (lv' := [(1, .int x1_33), (0, .ref (ad 1)), (2, .int x2)]) C.1 C.2.1 dX1_costOfRoutes_33 rfl hl (by decide) rfl (fun ls hl => ?_)
        obtain ⟨x2_34, ex2_34, hf⟩ := lt_some hf
        refine lv_iinc (v := x2_34) (lv' := [(2, .int x2_34), (1, .int x1_33), (0, .ref (ad 1))]) C.1 C.2.1 dX1_costOfRoutes_34 hl (k := 2) rfl (by rw [ex2_34]; rfl) (by decide) rfl (fun ls hl => ?_)
        refine lv_goto (tgt := 4) C.1 C.2.1 dX1_costOfRoutes_37 (by decide) ?_
        exact ih4 ls _ _ (lv_sub hl [2, 1, 0] rfl) hf
      intro ls x1 x2 hl hf
      have hf : fc_X1_costOfRoutes_L4_c F σ (fc_X1_costOfRoutes_L4 F σ n4) x1 x2 = some r := hf
      unfold fc_X1_costOfRoutes_L4_c at hf
      refine lv_iload_n C.1 C.2.1 dX1_costOfRoutes_4 rfl (lv_at hl 2 rfl) ?_
      refine lv_aload_n C.1 C.2.1 dX1_costOfRoutes_5 rfl (lv_at hl 0 rfl) ?_
      refine gc_cv_connectors C hK hP wf_X1_31 dX1_costOfRoutes_6 ?_
      refine lv_icmp_ge (tgt := 40) C.1 C.2.1 dX1_costOfRoutes_9 (by decide) (fun c9 => ?_) (fun c9 => ?_)
      · have hf := br_p c9 hf
        refine lv_iload_n C.1 C.2.1 dX1_costOfRoutes_40 rfl (lv_at hl 1 rfl) ?_
        exact KRc.iret C hr hlk (Option.some.inj hf) dX1_costOfRoutes_41
      · have hf := br_n c9 hf
        refine lv_aload_n C.1 C.2.1 dX1_costOfRoutes_12 rfl (lv_at hl 0 rfl) ?_
        refine gc_cv_routes C hK hP wf_X1_24 dX1_costOfRoutes_13 ?_
        refine lv_iload_n C.1 C.2.1 dX1_costOfRoutes_16 rfl (lv_at hl 2 rfl) ?_
        obtain ⟨hi17, hf⟩ := gd_some hf
        refine lr_cr C hK hP hi17 dX1_costOfRoutes_17 (fun hn17 => ?_) (fun a17 v17 he17 hv17 => ?_)
        · have hf := mo_n hn17 hf
          refine lv_astore_nN (lv' := [(3, .null), (0, .ref (ad 1)), (1, .int x1), (2, .int x2)]) C.1 C.2.1 dX1_costOfRoutes_18 rfl hl (by decide) rfl (fun ls hl => ?_)
          refine lv_iload_n C.1 C.2.1 dX1_costOfRoutes_19 rfl (lv_at hl 2 rfl) ?_
          refine lv_aload_nN C.1 C.2.1 dX1_costOfRoutes_20 rfl (lv_at hl 0 rfl) ?_
          refine lv_ifnonnullN C.1 C.2.1 dX1_costOfRoutes_21 ?_
          refine lv_iconst (v := (0 : Int32)) C.1 C.2.1 dX1_costOfRoutes_24 (by decide) ?_
          refine lv_goto (tgt := 32) C.1 C.2.1 dX1_costOfRoutes_25 (by decide) ?_
          exact hB32 ls _ _ _ (lv_sub hl [1, 3] rfl) hf
        · have hf := mo_s he17 hf
          refine lv_astore_n (lv' := [(3, .ref a17), (0, .ref (ad 1)), (1, .int x1), (2, .int x2)]) C.1 C.2.1 dX1_costOfRoutes_18 rfl hl (by decide) rfl (fun ls hl => ?_)
          refine lv_iload_n C.1 C.2.1 dX1_costOfRoutes_19 rfl (lv_at hl 2 rfl) ?_
          refine lv_aload_n C.1 C.2.1 dX1_costOfRoutes_20 rfl (lv_at hl 0 rfl) ?_
          refine lv_ifnonnull (tgt := 28) C.1 C.2.1 dX1_costOfRoutes_21 (by decide) ?_
          refine lv_aload_n C.1 C.2.1 dX1_costOfRoutes_28 rfl (lv_at hl 0 rfl) ?_
          refine gp_cost C hK hP hv17 wf_X1_102 dX1_costOfRoutes_29 ?_
          exact hB32 ls _ _ _ (lv_sub hl [1, 3] rfl) hf
  unfold fc_X1_costOfRoutes at hf
  refine lv_iconst (v := (0 : Int32)) C.1 C.2.1 dX1_costOfRoutes_0 (by decide) ?_
  refine lv_istore_n (lv' := [(1, .int (0 : Int32)), (0, .ref (ad 1))]) C.1 C.2.1 dX1_costOfRoutes_1 rfl hl (by decide) rfl (fun ls hl => ?_)
  refine lv_iconst (v := (0 : Int32)) C.1 C.2.1 dX1_costOfRoutes_2 (by decide) ?_
  refine lv_istore_n (lv' := [(2, .int (0 : Int32)), (1, .int (0 : Int32)), (0, .ref (ad 1))]) C.1 C.2.1 dX1_costOfRoutes_3 rfl hl (by decide) rfl (fun ls hl => ?_)
  exact hB4 F ls _ _ (lv_sub hl [2, 1, 0] rfl) hf
def fc_X6_isInside_L23 (F : Nat) (σ : CSt) (s0 : Int32) : Option (Int32) :=
  gd (s0 = 0 ∨ s0 = 1) (some s0)
def fc_X6_isInside_L22 (F : Nat) (σ : CSt) : Option (Int32) :=
  fc_X6_isInside_L23 F σ (0 : Int32)
def fc_X6_isInside (F : Nat) (σ : CSt) (vx0 : RV) (x1 : Int32) (x2 : Int32) : Option (Int32) :=
  bd (fc_X6_startOf F σ vx0 x2) (fun r3 => if x1 ≤ r3 then (fc_X6_isInside_L22 F σ) else (bd (fc_X6_endOf F σ vx0 x2) (fun r12 => if r12 ≤ x1 then (fc_X6_isInside_L22 F σ) else (fc_X6_isInside_L23 F σ (1 : Int32)))))
set_option maxHeartbeats 4000000 in
set_option maxRecDepth 100000 in
theorem kc_X6_isInside (l : Launch) (D : va_G) (cA : Nat → ClassId) (ad : Nat → Nat) (σ : CSt) (η : HS) (F : Nat) (az0 : Nat) (vz0 : RV) (z1 : Int32) (z2 : Int32) (hvz0 : isRt cA η az0 vz0) (r : Int32) (hf : fc_X6_isInside F σ vz0 z1 z2 = some r) : KRc l D cA ad σ η yX6_isInside cX6_isInside 3 (some .boolean) (rmk 2 42) [.ref az0, .int z1, .int z2] (QcV (.int r)) := by
  refine KRc.of (by decide) (Nat.le_of_ble_eq_true rfl) ?_
  intro p e s m below meth c C hr hlk hK hP hZ ls hl
  have hS : va_S NoA s.heap s.heap [] := va_S.rf
  have hl : lv_has ls 3 [(0, .ref az0), (1, .int z1), (2, .int z2)] := hl
  have hB23 : ∀ (ls : Array Slot) (s0 : Int32), lv_has ls 3 [] → fc_X6_isInside_L23 F σ s0 = some r → WRc p l e 2 42 s m [.ref az0, .int z1, .int z2] below meth c (QcV (.int r)) (F0 m 23 ls [.int s0]) := by
    intro ls s0 hl hf
    unfold fc_X6_isInside_L23 at hf
    obtain ⟨hz23, hf⟩ := gd_some hf
    exact KRc.zret C hr hlk hz23 (Option.some.inj hf) dX6_isInside_23
  have hB22 : ∀ (ls : Array Slot), lv_has ls 3 [] → fc_X6_isInside_L22 F σ = some r → WRc p l e 2 42 s m [.ref az0, .int z1, .int z2] below meth c (QcV (.int r)) (F0 m 22 ls []) := by
    intro ls hl hf
    unfold fc_X6_isInside_L22 at hf
    refine lv_iconst (v := (0 : Int32)) C.1 C.2.1 dX6_isInside_22 (by decide) ?_
    exact hB23 ls _ (lv_sub hl [] rfl) hf
  unfold fc_X6_isInside at hf
  refine lv_iload_n C.1 C.2.1 dX6_isInside_0 rfl (lv_at hl 1 rfl) ?_
  refine lv_aload_n C.1 C.2.1 dX6_isInside_1 rfl (lv_at hl 0 rfl) ?_
  refine lv_iload_n C.1 C.2.1 dX6_isInside_2 rfl (lv_at hl 2 rfl) ?_
  obtain ⟨r3, hc3, hf⟩ := bd_some hf
  refine cV_go (runRVc (As := [_]) C hK hP hZ hS wv_X6_41 hl (kc_X6_startOf l D cA ad _ η F _ _ _ hvz0 r3 hc3) (rcR hK hP hvz0) rfl rfl rfl (Nat.le_of_ble_eq_true rfl) ⟨Nat.le_refl _, Nat.le_refl _⟩ dX6_isInside_3) ?_
  refine lv_icmp_le (tgt := 22) C.1 C.2.1 dX6_isInside_6 (by decide) (fun c6 => ?_) (fun c6 => ?_)
  · have hf := br_p c6 hf
    exact hB22 ls (lv_sub hl [] rfl) hf
  · have hf := br_n c6 hf
    refine lv_iload_n C.1 C.2.1 dX6_isInside_9 rfl (lv_at hl 1 rfl) ?_
    refine lv_aload_n C.1 C.2.1 dX6_isInside_10 rfl (lv_at hl 0 rfl) ?_
    refine lv_iload_n C.1 C.2.1 dX6_isInside_11 rfl (lv_at hl 2 rfl) ?_
    obtain ⟨r12, hc12, hf⟩ := bd_some hf
    refine cV_go (runRVc (As := [_]) C hK hP hZ hS wv_X6_37 hl (kc_X6_endOf l D cA ad _ η F _ _ _ hvz0 r12 hc12) (rcR hK hP hvz0) rfl rfl rfl (Nat.le_of_ble_eq_true rfl) ⟨Nat.le_refl _, Nat.le_refl _⟩ dX6_isInside_12) ?_
    refine lv_icmp_ge (tgt := 22) C.1 C.2.1 dX6_isInside_15 (by decide) (fun c15 => ?_) (fun c15 => ?_)
    · have hf := br_p c15 hf
      exact hB22 ls (lv_sub hl [] rfl) hf
    · have hf := br_n c15 hf
      refine lv_iconst (v := (1 : Int32)) C.1 C.2.1 dX6_isInside_18 (by decide) ?_
      refine lv_goto (tgt := 23) C.1 C.2.1 dX6_isInside_19 (by decide) ?_
      exact hB23 ls _ (lv_sub hl [] rfl) hf
def fc_X6_crossingsWith_L69 (F : Nat) (σ : CSt) (k4 : RV → RV → Int32 → Int32 → Option (Int32)) (k15 : RV → RV → Int32 → Int32 → Int32 → Option (Int32)) (vx0 : RV) (vx1 : RV) (x2 : Int32) (x3 : Int32) (x4 : Int32) : Option (Int32) :=
  lt (x4 + (1 : Int32)) (fun x4_69 => k15 vx0 vx1 x2 x3 x4_69)
def fc_X6_crossingsWith_L15_c (F : Nat) (σ : CSt) (k4 : RV → RV → Int32 → Int32 → Option (Int32)) (k15 : RV → RV → Int32 → Int32 → Int32 → Option (Int32)) (vx0 : RV) (vx1 : RV) (x2 : Int32) (x3 : Int32) (x4 : Int32) : Option (Int32) :=
  bd (fc_X6_segments F σ vx1) (fun r18 => if r18 ≤ x4 then (lt (x3 + (1 : Int32)) (fun x3_75 => k4 vx0 vx1 x2 x3_75)) else (bd (fc_X6_isLevel F σ vx0 x3) (fun r26 => bd (fc_X6_isLevel F σ vx1 x4) (fun r32 => if r26 = r32 then (fc_X6_crossingsWith_L69 F σ k4 k15 vx0 vx1 x2 x3 x4) else (bd (fc_X6_lineOf F σ vx1 x4) (fun r42 => bd (fc_X6_isInside F σ vx0 r42 x3) (fun r46 => if r46 = 0 then (fc_X6_crossingsWith_L69 F σ k4 k15 vx0 vx1 x2 x3 x4) else (bd (fc_X6_lineOf F σ vx0 x3) (fun r55 => bd (fc_X6_isInside F σ vx1 r55 x4) (fun r60 => if r60 = 0 then (fc_X6_crossingsWith_L69 F σ k4 k15 vx0 vx1 x2 x3 x4) else (lt (x2 + (1 : Int32)) (fun x2_66 => fc_X6_crossingsWith_L69 F σ k4 k15 vx0 vx1 x2_66 x3 x4))))))))))))
def fc_X6_crossingsWith_L15 (F : Nat) (σ : CSt) (k4 : RV → RV → Int32 → Int32 → Option (Int32)) (n : Nat) (vx0 : RV) (vx1 : RV) (x2 : Int32) (x3 : Int32) (x4 : Int32) : Option (Int32) := lpN (fun (k : RV × RV × Int32 × Int32 × Int32 → Option (Int32)) a => fc_X6_crossingsWith_L15_c F σ k4 (fun vx0 vx1 x2 x3 x4 => k (vx0, vx1, x2, x3, x4)) a.1 a.2.1 a.2.2.1 a.2.2.2.1 a.2.2.2.2) n (vx0, vx1, x2, x3, x4)
def fc_X6_crossingsWith_L4_c (F : Nat) (σ : CSt) (k4 : RV → RV → Int32 → Int32 → Option (Int32)) (vx0 : RV) (vx1 : RV) (x2 : Int32) (x3 : Int32) : Option (Int32) :=
  bd (fc_X6_segments F σ vx0) (fun r6 => if r6 ≤ x3 then (some x2) else (fc_X6_crossingsWith_L15 F σ k4 F vx0 vx1 x2 x3 (0 : Int32)))
def fc_X6_crossingsWith_L4 (F : Nat) (σ : CSt) (n : Nat) (vx0 : RV) (vx1 : RV) (x2 : Int32) (x3 : Int32) : Option (Int32) := lpN (fun (k : RV × RV × Int32 × Int32 → Option (Int32)) a => fc_X6_crossingsWith_L4_c F σ (fun vx0 vx1 x2 x3 => k (vx0, vx1, x2, x3)) a.1 a.2.1 a.2.2.1 a.2.2.2) n (vx0, vx1, x2, x3)
def fc_X6_crossingsWith (F : Nat) (σ : CSt) (vx0 : RV) (vx1 : RV) : Option (Int32) :=
  fc_X6_crossingsWith_L4 F σ F vx0 vx1 (0 : Int32) (0 : Int32)
set_option maxHeartbeats 4000000 in
set_option maxRecDepth 100000 in
theorem kc_X6_crossingsWith (l : Launch) (D : va_G) (cA : Nat → ClassId) (ad : Nat → Nat) (σ : CSt) (η : HS) (F : Nat) (az0 : Nat) (vz0 : RV) (az1 : Nat) (vz1 : RV) (hvz0 : isRt cA η az0 vz0) (hvz1 : isRt cA η az1 vz1) (r : Int32) (hf : fc_X6_crossingsWith F σ vz0 vz1 = some r) : KRc l D cA ad σ η yX6_crossingsWith cX6_crossingsWith 5 (some .int) (rmk 3 64) [.ref az0, .ref az1] (QcV (.int r)) := by
  refine KRc.of (by decide) (Nat.le_of_ble_eq_true rfl) ?_
  intro p e s m below meth c C hr hlk hK hP hZ ls hl
  have hS : va_S NoA s.heap s.heap [] := va_S.rf
  have hl : lv_has ls 5 [(0, .ref az0), (1, .ref az1)] := hl
  have hB4 : ∀ (n4 : Nat) (ls : Array Slot) (ax0 : Nat) (vx0 : RV) (ax1 : Nat) (vx1 : RV) (x2 : Int32) (x3 : Int32), isRt cA η ax0 vx0 → isRt cA η ax1 vx1 → lv_has ls 5 [(0, .ref ax0), (1, .ref ax1), (2, .int x2), (3, .int x3)] → fc_X6_crossingsWith_L4 F σ n4 vx0 vx1 x2 x3 = some r → WRc p l e 3 64 s m [.ref az0, .ref az1] below meth c (QcV (.int r)) (F0 m 4 ls []) := by
    intro n4
    induction n4 with
    | zero =>
      intro ls ax0 vx0 ax1 vx1 x2 x3 hvx0 hvx1 hl hf
      cases (show (none : Option _) = _ from hf)
    | succ n4 ih4 =>
      have hB15 : ∀ (n15 : Nat) (ls : Array Slot) (ax0 : Nat) (vx0 : RV) (ax1 : Nat) (vx1 : RV) (x2 : Int32) (x3 : Int32) (x4 : Int32), isRt cA η ax0 vx0 → isRt cA η ax1 vx1 → lv_has ls 5 [(0, .ref ax0), (1, .ref ax1), (2, .int x2), (3, .int x3), (4, .int x4)] → fc_X6_crossingsWith_L15 F σ (fc_X6_crossingsWith_L4 F σ n4) n15 vx0 vx1 x2 x3 x4 = some r → WRc p l e 3 64 s m [.ref az0, .ref az1] below meth c (QcV (.int r)) (F0 m 15 ls []) := by
        intro n15
        induction n15 with
        | zero =>
          intro ls ax0 vx0 ax1 vx1 x2 x3 x4 hvx0 hvx1 hl hf
          cases (show (none : Option _) = _ from hf)
        | succ n15 ih15 =>
          have hB69 : ∀ (ls : Array Slot) (ax0 : Nat) (vx0 : RV) (ax1 : Nat) (vx1 : RV) (x2 : Int32) (x3 : Int32) (x4 : Int32), isRt cA η ax0 vx0 → isRt cA η ax1 vx1 → lv_has ls 5 [(0, .ref ax0), (1, .ref ax1), (2, .int x2), (3, .int x3), (4, .int x4)] → fc_X6_crossingsWith_L69 F σ (fc_X6_crossingsWith_L4 F σ n4) (fc_X6_crossingsWith_L15 F σ (fc_X6_crossingsWith_L4 F σ n4) n15) vx0 vx1 x2 x3 x4 = some r → WRc p l e 3 64 s m [.ref az0, .ref az1] below meth c (QcV (.int r)) (F0 m 69 ls []) := by
            intro ls ax0 vx0 ax1 vx1 x2 x3 x4 hvx0 hvx1 hl hf
            unfold fc_X6_crossingsWith_L69 at hf
            obtain ⟨x4_69, ex4_69, hf⟩ := lt_some hf
            refine lv_iinc (v := x4_69) (lv' := [(4, .int x4_69), (0, .ref ax0), (1, .ref ax1), (2, .int x2), (3, .int x3)]) C.1 C.2.1 dX6_crossingsWith_69 hl (k := 4) rfl (by rw [ex4_69]; rfl) (by decide) rfl (fun ls hl => ?_)
            refine lv_goto (tgt := 15) C.1 C.2.1 dX6_crossingsWith_72 (by decide) ?_
            exact ih15 ls _ _ _ _ _ _ _ hvx0 hvx1 (lv_sub hl [1, 2, 3, 4, 0] rfl) hf
          intro ls ax0 vx0 ax1 vx1 x2 x3 x4 hvx0 hvx1 hl hf
          have hf : fc_X6_crossingsWith_L15_c F σ (fc_X6_crossingsWith_L4 F σ n4) (fc_X6_crossingsWith_L15 F σ (fc_X6_crossingsWith_L4 F σ n4) n15) vx0 vx1 x2 x3 x4 = some r := hf
          unfold fc_X6_crossingsWith_L15_c at hf
          refine lv_iload C.1 C.2.1 dX6_crossingsWith_15 (lv_at hl 4 rfl) ?_
          refine lv_aload_n C.1 C.2.1 dX6_crossingsWith_17 rfl (lv_at hl 1 rfl) ?_
          obtain ⟨r18, hc18, hf⟩ := bd_some hf
          refine cV_go (runRVc (As := []) C hK hP hZ hS wv_X6_20 hl (kc_X6_segments l D cA ad _ η F _ _ hvx1 r18 hc18) (rcR hK hP hvx1) rfl rfl rfl (Nat.le_of_ble_eq_true rfl) ⟨Nat.le_refl _, Nat.le_refl _⟩ dX6_crossingsWith_18) ?_
          refine lv_icmp_ge (tgt := 75) C.1 C.2.1 dX6_crossingsWith_21 (by decide) (fun c21 => ?_) (fun c21 => ?_)
          · have hf := br_p c21 hf
            obtain ⟨x3_75, ex3_75, hf⟩ := lt_some hf
            refine lv_iinc (v := x3_75) (lv' := [(3, .int x3_75), (0, .ref ax0), (1, .ref ax1), (2, .int x2), (4, .int x4)]) C.1 C.2.1 dX6_crossingsWith_75 hl (k := 3) rfl (by rw [ex3_75]; rfl) (by decide) rfl (fun ls hl => ?_)
            refine lv_goto (tgt := 4) C.1 C.2.1 dX6_crossingsWith_78 (by decide) ?_
            exact ih4 ls _ _ _ _ _ _ hvx0 hvx1 (lv_sub hl [1, 2, 3, 0] rfl) hf
          · have hf := br_n c21 hf
            refine lv_aload_n C.1 C.2.1 dX6_crossingsWith_24 rfl (lv_at hl 0 rfl) ?_
            refine lv_iload_n C.1 C.2.1 dX6_crossingsWith_25 rfl (lv_at hl 3 rfl) ?_
            obtain ⟨r26, hc26, hf⟩ := bd_some hf
            refine cV_go (runRVc (As := [_]) C hK hP hZ hS wv_X6_24 hl (kc_X6_isLevel l D cA ad _ η F _ _ _ hvx0 r26 hc26) (rcR hK hP hvx0) rfl rfl rfl (Nat.le_of_ble_eq_true rfl) ⟨Nat.le_refl _, Nat.le_refl _⟩ dX6_crossingsWith_26) ?_
            refine lv_aload_n C.1 C.2.1 dX6_crossingsWith_29 rfl (lv_at hl 1 rfl) ?_
            refine lv_iload C.1 C.2.1 dX6_crossingsWith_30 (lv_at hl 4 rfl) ?_
            obtain ⟨r32, hc32, hf⟩ := bd_some hf
            refine cV_go (runRVc (As := [_]) C hK hP hZ hS wv_X6_24 hl (kc_X6_isLevel l D cA ad _ η F _ _ _ hvx1 r32 hc32) (rcR hK hP hvx1) rfl rfl rfl (Nat.le_of_ble_eq_true rfl) ⟨Nat.le_refl _, Nat.le_refl _⟩ dX6_crossingsWith_32) ?_
            refine lv_icmp_eq (tgt := 69) C.1 C.2.1 dX6_crossingsWith_35 (by decide) (fun c35 => ?_) (fun c35 => ?_)
            · have hf := br_p c35 hf
              exact hB69 ls _ _ _ _ _ _ _ hvx0 hvx1 (lv_sub hl [0, 1, 2, 3, 4] rfl) hf
            · have hf := br_n c35 hf
              refine lv_aload_n C.1 C.2.1 dX6_crossingsWith_38 rfl (lv_at hl 0 rfl) ?_
              refine lv_aload_n C.1 C.2.1 dX6_crossingsWith_39 rfl (lv_at hl 1 rfl) ?_
              refine lv_iload C.1 C.2.1 dX6_crossingsWith_40 (lv_at hl 4 rfl) ?_
              obtain ⟨r42, hc42, hf⟩ := bd_some hf
              refine cV_go (runRVc (As := [_]) C hK hP hZ hS wv_X6_47 hl (kc_X6_lineOf l D cA ad _ η F _ _ _ hvx1 r42 hc42) (rcR hK hP hvx1) rfl rfl rfl (Nat.le_of_ble_eq_true rfl) ⟨Nat.le_refl _, Nat.le_refl _⟩ dX6_crossingsWith_42) ?_
              refine lv_iload_n C.1 C.2.1 dX6_crossingsWith_45 rfl (lv_at hl 3 rfl) ?_
              obtain ⟨r46, hc46, hf⟩ := bd_some hf
              refine cV_go (runRVc (As := [_, _]) C hK hP hZ hS wv_X6_50 hl (kc_X6_isInside l D cA ad _ η F _ _ _ _ hvx0 r46 hc46) (rcR hK hP hvx0) rfl rfl rfl (Nat.le_of_ble_eq_true rfl) ⟨Nat.le_refl _, Nat.le_refl _⟩ dX6_crossingsWith_46) ?_
              refine lv_if_eq (tgt := 69) C.1 C.2.1 dX6_crossingsWith_49 (by decide) (fun c49 => ?_) (fun c49 => ?_)
              · have hf := br_p c49 hf
                exact hB69 ls _ _ _ _ _ _ _ hvx0 hvx1 (lv_sub hl [0, 1, 2, 3, 4] rfl) hf
              · have hf := br_n c49 hf
                refine lv_aload_n C.1 C.2.1 dX6_crossingsWith_52 rfl (lv_at hl 1 rfl) ?_
                refine lv_aload_n C.1 C.2.1 dX6_crossingsWith_53 rfl (lv_at hl 0 rfl) ?_
                refine lv_iload_n C.1 C.2.1 dX6_crossingsWith_54 rfl (lv_at hl 3 rfl) ?_
                obtain ⟨r55, hc55, hf⟩ := bd_some hf
                refine cV_go (runRVc (As := [_]) C hK hP hZ hS wv_X6_47 hl (kc_X6_lineOf l D cA ad _ η F _ _ _ hvx0 r55 hc55) (rcR hK hP hvx0) rfl rfl rfl (Nat.le_of_ble_eq_true rfl) ⟨Nat.le_refl _, Nat.le_refl _⟩ dX6_crossingsWith_55) ?_
                refine lv_iload C.1 C.2.1 dX6_crossingsWith_58 (lv_at hl 4 rfl) ?_
                obtain ⟨r60, hc60, hf⟩ := bd_some hf
                refine cV_go (runRVc (As := [_, _]) C hK hP hZ hS wv_X6_50 hl (kc_X6_isInside l D cA ad _ η F _ _ _ _ hvx1 r60 hc60) (rcR hK hP hvx1) rfl rfl rfl (Nat.le_of_ble_eq_true rfl) ⟨Nat.le_refl _, Nat.le_refl _⟩ dX6_crossingsWith_60) ?_
                refine lv_if_eq (tgt := 69) C.1 C.2.1 dX6_crossingsWith_63 (by decide) (fun c63 => ?_) (fun c63 => ?_)
                · have hf := br_p c63 hf
                  exact hB69 ls _ _ _ _ _ _ _ hvx0 hvx1 (lv_sub hl [0, 1, 2, 3, 4] rfl) hf
                · have hf := br_n c63 hf
                  obtain ⟨x2_66, ex2_66, hf⟩ := lt_some hf
                  refine lv_iinc (v := x2_66) (lv' := [(2, .int x2_66), (0, .ref ax0), (1, .ref ax1), (3, .int x3), (4, .int x4)]) C.1 C.2.1 dX6_crossingsWith_66 hl (k := 2) rfl (by rw [ex2_66]; rfl) (by decide) rfl (fun ls hl => ?_)
                  exact hB69 ls _ _ _ _ _ _ _ hvx0 hvx1 (lv_sub hl [1, 2, 0, 3, 4] rfl) hf
      intro ls ax0 vx0 ax1 vx1 x2 x3 hvx0 hvx1 hl hf
      have hf : fc_X6_crossingsWith_L4_c F σ (fc_X6_crossingsWith_L4 F σ n4) vx0 vx1 x2 x3 = some r := hf
      unfold fc_X6_crossingsWith_L4_c at hf
      refine lv_iload_n C.1 C.2.1 dX6_crossingsWith_4 rfl (lv_at hl 3 rfl) ?_
      refine lv_aload_n C.1 C.2.1 dX6_crossingsWith_5 rfl (lv_at hl 0 rfl) ?_
      obtain ⟨r6, hc6, hf⟩ := bd_some hf
      refine cV_go (runRVc (As := []) C hK hP hZ hS wv_X6_20 hl (kc_X6_segments l D cA ad _ η F _ _ hvx0 r6 hc6) (rcR hK hP hvx0) rfl rfl rfl (Nat.le_of_ble_eq_true rfl) ⟨Nat.le_refl _, Nat.le_refl _⟩ dX6_crossingsWith_6) ?_
      refine lv_icmp_ge (tgt := 81) C.1 C.2.1 dX6_crossingsWith_9 (by decide) (fun c9 => ?_) (fun c9 => ?_)
      · have hf := br_p c9 hf
        refine lv_iload_n C.1 C.2.1 dX6_crossingsWith_81 rfl (lv_at hl 2 rfl) ?_
        exact KRc.iret C hr hlk (Option.some.inj hf) dX6_crossingsWith_82
      · have hf := br_n c9 hf
        refine lv_iconst (v := (0 : Int32)) C.1 C.2.1 dX6_crossingsWith_12 (by decide) ?_
        refine lv_istore (lv' := [(4, .int (0 : Int32)), (0, .ref ax0), (1, .ref ax1), (2, .int x2), (3, .int x3)]) C.1 C.2.1 dX6_crossingsWith_13 hl (by decide) rfl (fun ls hl => ?_)
        exact hB15 F ls _ _ _ _ _ _ _ hvx0 hvx1 (lv_sub hl [1, 2, 3, 4, 0] rfl) hf
  unfold fc_X6_crossingsWith at hf
  refine lv_iconst (v := (0 : Int32)) C.1 C.2.1 dX6_crossingsWith_0 (by decide) ?_
  refine lv_istore_n (lv' := [(2, .int (0 : Int32)), (0, .ref az0), (1, .ref az1)]) C.1 C.2.1 dX6_crossingsWith_1 rfl hl (by decide) rfl (fun ls hl => ?_)
  refine lv_iconst (v := (0 : Int32)) C.1 C.2.1 dX6_crossingsWith_2 (by decide) ?_
  refine lv_istore_n (lv' := [(3, .int (0 : Int32)), (2, .int (0 : Int32)), (0, .ref az0), (1, .ref az1)]) C.1 C.2.1 dX6_crossingsWith_3 rfl hl (by decide) rfl (fun ls hl => ?_)
  exact hB4 F ls _ _ _ _ _ _ hvz0 hvz1 (lv_sub hl [2, 3, 1, 0] rfl) hf
def fc_X1_crossingsOf_L34 (F : Nat) (σ : CSt) (s0 : Int32) : Option (Int32) :=
  some s0
def fc_X1_crossingsOf_L24 (F : Nat) (σ : CSt) : Option (Int32) :=
  fc_X1_crossingsOf_L34 F σ (0 : Int32)
def fc_X1_crossingsOf (F : Nat) (σ : CSt) (x1 : Int32) (x2 : Int32) : Option (Int32) :=
  gd (ix x1 10 = true) (mo (cs_cr σ x1.toNatClampNeg) (gd (ix x2 10 = true) (mo (cs_cr σ x2.toNatClampNeg) (fc_X1_crossingsOf_L24 F σ) (fun v12 => fc_X1_crossingsOf_L24 F σ))) (fun v5 => gd (ix x2 10 = true) (mo (cs_cr σ x2.toNatClampNeg) (fc_X1_crossingsOf_L24 F σ) (fun v12 => bd (fc_X6_crossingsWith F σ v5 v12) (fun r31 => fc_X1_crossingsOf_L34 F σ r31)))))
set_option maxHeartbeats 4000000 in
set_option maxRecDepth 100000 in
theorem kc_X1_crossingsOf (l : Launch) (D : va_G) (cA : Nat → ClassId) (ad : Nat → Nat) (σ : CSt) (η : HS) (F : Nat) (z1 : Int32) (z2 : Int32) (r : Int32) (hf : fc_X1_crossingsOf F σ z1 z2 = some r) : KRc l D cA ad σ η yX1_crossingsOf cX1_crossingsOf 5 (some .int) (rmk 4 88) [.ref (ad 1), .int z1, .int z2] (QcV (.int r)) := by
  refine KRc.of (by decide) (Nat.le_of_ble_eq_true rfl) ?_
  intro p e s m below meth c C hr hlk hK hP hZ ls hl
  have hS : va_S NoA s.heap s.heap [] := va_S.rf
  have hl : lv_has ls 5 [(0, .ref (ad 1)), (1, .int z1), (2, .int z2)] := hl
  have hB34 : ∀ (ls : Array Slot) (s0 : Int32), lv_has ls 5 [] → fc_X1_crossingsOf_L34 F σ s0 = some r → WRc p l e 4 88 s m [.ref (ad 1), .int z1, .int z2] below meth c (QcV (.int r)) (F0 m 34 ls [.int s0]) := by
    intro ls s0 hl hf
    unfold fc_X1_crossingsOf_L34 at hf
    exact KRc.iret C hr hlk (Option.some.inj hf) dX1_crossingsOf_34
  have hB24 : ∀ (ls : Array Slot), lv_has ls 5 [] → fc_X1_crossingsOf_L24 F σ = some r → WRc p l e 4 88 s m [.ref (ad 1), .int z1, .int z2] below meth c (QcV (.int r)) (F0 m 24 ls []) := by
    intro ls hl hf
    unfold fc_X1_crossingsOf_L24 at hf
    refine lv_iconst (v := (0 : Int32)) C.1 C.2.1 dX1_crossingsOf_24 (by decide) ?_
    refine lv_goto (tgt := 34) C.1 C.2.1 dX1_crossingsOf_25 (by decide) ?_
    exact hB34 ls _ (lv_sub hl [] rfl) hf
  unfold fc_X1_crossingsOf at hf
  refine lv_aload_n C.1 C.2.1 dX1_crossingsOf_0 rfl (lv_at hl 0 rfl) ?_
  refine gc_cv_routes C hK hP wf_X1_24 dX1_crossingsOf_1 ?_
  refine lv_iload_n C.1 C.2.1 dX1_crossingsOf_4 rfl (lv_at hl 1 rfl) ?_
  obtain ⟨hi5, hf⟩ := gd_some hf
  refine lr_cr C hK hP hi5 dX1_crossingsOf_5 (fun hn5 => ?_) (fun a5 v5 he5 hv5 => ?_)
  · have hf := mo_n hn5 hf
    refine lv_astore_nN (lv' := [(3, .null), (0, .ref (ad 1)), (1, .int z1), (2, .int z2)]) C.1 C.2.1 dX1_crossingsOf_6 rfl hl (by decide) rfl (fun ls hl => ?_)
    refine lv_aload_n C.1 C.2.1 dX1_crossingsOf_7 rfl (lv_at hl 1 rfl) ?_
    refine gc_cv_routes C hK hP wf_X1_24 dX1_crossingsOf_8 ?_
    refine lv_iload_n C.1 C.2.1 dX1_crossingsOf_11 rfl (lv_at hl 3 rfl) ?_
    obtain ⟨hi12, hf⟩ := gd_some hf
    refine lr_cr C hK hP hi12 dX1_crossingsOf_12 (fun hn12 => ?_) (fun a12 v12 he12 hv12 => ?_)
    · have hf := mo_n hn12 hf
      refine lv_astoreN (lv' := [(4, .null), (3, .null), (0, .ref (ad 1)), (1, .int z1), (2, .int z2)]) C.1 C.2.1 dX1_crossingsOf_13 hl (by decide) rfl (fun ls hl => ?_)
      refine lv_aload_nN C.1 C.2.1 dX1_crossingsOf_15 rfl (lv_at hl 1 rfl) ?_
      refine lv_ifnullN (tgt := 24) C.1 C.2.1 dX1_crossingsOf_16 (by decide) ?_
      exact hB24 ls (lv_sub hl [] rfl) hf
    · have hf := mo_s he12 hf
      refine lv_astore (lv' := [(4, .ref a12), (3, .null), (0, .ref (ad 1)), (1, .int z1), (2, .int z2)]) C.1 C.2.1 dX1_crossingsOf_13 hl (by decide) rfl (fun ls hl => ?_)
      refine lv_aload_nN C.1 C.2.1 dX1_crossingsOf_15 rfl (lv_at hl 1 rfl) ?_
      refine lv_ifnullN (tgt := 24) C.1 C.2.1 dX1_crossingsOf_16 (by decide) ?_
      exact hB24 ls (lv_sub hl [] rfl) hf
  · have hf := mo_s he5 hf
    refine lv_astore_n (lv' := [(3, .ref a5), (0, .ref (ad 1)), (1, .int z1), (2, .int z2)]) C.1 C.2.1 dX1_crossingsOf_6 rfl hl (by decide) rfl (fun ls hl => ?_)
    refine lv_aload_n C.1 C.2.1 dX1_crossingsOf_7 rfl (lv_at hl 1 rfl) ?_
    refine gc_cv_routes C hK hP wf_X1_24 dX1_crossingsOf_8 ?_
    refine lv_iload_n C.1 C.2.1 dX1_crossingsOf_11 rfl (lv_at hl 3 rfl) ?_
    obtain ⟨hi12, hf⟩ := gd_some hf
    refine lr_cr C hK hP hi12 dX1_crossingsOf_12 (fun hn12 => ?_) (fun a12 v12 he12 hv12 => ?_)
    · have hf := mo_n hn12 hf
      refine lv_astoreN (lv' := [(4, .null), (3, .ref a5), (0, .ref (ad 1)), (1, .int z1), (2, .int z2)]) C.1 C.2.1 dX1_crossingsOf_13 hl (by decide) rfl (fun ls hl => ?_)
      refine lv_aload_n C.1 C.2.1 dX1_crossingsOf_15 rfl (lv_at hl 1 rfl) ?_
      refine lv_ifnull C.1 C.2.1 dX1_crossingsOf_16 ?_
      refine lv_aloadN C.1 C.2.1 dX1_crossingsOf_19 (lv_at hl 0 rfl) ?_
      refine lv_ifnonnullN C.1 C.2.1 dX1_crossingsOf_21 ?_
      exact hB24 ls (lv_sub hl [] rfl) hf
    · have hf := mo_s he12 hf
      refine lv_astore (lv' := [(4, .ref a12), (3, .ref a5), (0, .ref (ad 1)), (1, .int z1), (2, .int z2)]) C.1 C.2.1 dX1_crossingsOf_13 hl (by decide) rfl (fun ls hl => ?_)
      refine lv_aload_n C.1 C.2.1 dX1_crossingsOf_15 rfl (lv_at hl 1 rfl) ?_
      refine lv_ifnull C.1 C.2.1 dX1_crossingsOf_16 ?_
      refine lv_aload C.1 C.2.1 dX1_crossingsOf_19 (lv_at hl 0 rfl) ?_
      refine lv_ifnonnull (tgt := 28) C.1 C.2.1 dX1_crossingsOf_21 (by decide) ?_
      refine lv_aload_n C.1 C.2.1 dX1_crossingsOf_28 rfl (lv_at hl 1 rfl) ?_
      refine lv_aload C.1 C.2.1 dX1_crossingsOf_29 (lv_at hl 0 rfl) ?_
      obtain ⟨r31, hc31, hf⟩ := bd_some hf
      refine cV_go (runRVc (As := [_]) C hK hP hZ hS wv_X1_105 hl (kc_X6_crossingsWith l D cA ad _ η F _ _ _ _ hv5 hv12 r31 hc31) (rcR hK hP hv5) rfl rfl rfl (Nat.le_of_ble_eq_true rfl) ⟨Nat.le_refl _, Nat.le_refl _⟩ dX1_crossingsOf_31) ?_
      exact hB34 ls _ (lv_sub hl [] rfl) hf
def fc_X1_crossingsOfPairs_L16_c (F : Nat) (σ : CSt) (k4 : Int32 → Int32 → Option (Int32)) (k16 : Int32 → Int32 → Int32 → Option (Int32)) (x1 : Int32) (x2 : Int32) (x3 : Int32) : Option (Int32) :=
  if (cs_cc σ) ≤ x3 then (lt (x2 + (1 : Int32)) (fun x2_39 => k4 x1 x2_39)) else (bd (fc_X1_crossingsOf F σ x2 x3) (fun r28 => lt (x1 + r28) (fun x1_32 => lt (x3 + (1 : Int32)) (fun x3_33 => k16 x1_32 x2 x3_33))))
def fc_X1_crossingsOfPairs_L16 (F : Nat) (σ : CSt) (k4 : Int32 → Int32 → Option (Int32)) (n : Nat) (x1 : Int32) (x2 : Int32) (x3 : Int32) : Option (Int32) := lpN (fun (k : Int32 × Int32 × Int32 → Option (Int32)) a => fc_X1_crossingsOfPairs_L16_c F σ k4 (fun x1 x2 x3 => k (x1, x2, x3)) a.1 a.2.1 a.2.2) n (x1, x2, x3)
def fc_X1_crossingsOfPairs_L4_c (F : Nat) (σ : CSt) (k4 : Int32 → Int32 → Option (Int32)) (x1 : Int32) (x2 : Int32) : Option (Int32) :=
  if (cs_cc σ) ≤ x2 then (some x1) else (lt (x2 + (1 : Int32)) (fun x3_15 => fc_X1_crossingsOfPairs_L16 F σ k4 F x1 x2 x3_15))
def fc_X1_crossingsOfPairs_L4 (F : Nat) (σ : CSt) (n : Nat) (x1 : Int32) (x2 : Int32) : Option (Int32) := lpN (fun (k : Int32 × Int32 → Option (Int32)) a => fc_X1_crossingsOfPairs_L4_c F σ (fun x1 x2 => k (x1, x2)) a.1 a.2) n (x1, x2)
def fc_X1_crossingsOfPairs (F : Nat) (σ : CSt) : Option (Int32) :=
  fc_X1_crossingsOfPairs_L4 F σ F (0 : Int32) (0 : Int32)
set_option maxHeartbeats 4000000 in
set_option maxRecDepth 100000 in
theorem kc_X1_crossingsOfPairs (l : Launch) (D : va_G) (cA : Nat → ClassId) (ad : Nat → Nat) (σ : CSt) (η : HS) (F : Nat)  (r : Int32) (hf : fc_X1_crossingsOfPairs F σ = some r) : KRc l D cA ad σ η yX1_crossingsOfPairs cX1_crossingsOfPairs 4 (some .int) (rmk 5 112) [.ref (ad 1)] (QcV (.int r)) := by
  refine KRc.of (by decide) (Nat.le_of_ble_eq_true rfl) ?_
  intro p e s m below meth c C hr hlk hK hP hZ ls hl
  have hS : va_S NoA s.heap s.heap [] := va_S.rf
  have hl : lv_has ls 4 [(0, .ref (ad 1))] := hl
  have hB4 : ∀ (n4 : Nat) (ls : Array Slot) (x1 : Int32) (x2 : Int32), lv_has ls 4 [(0, .ref (ad 1)), (1, .int x1), (2, .int x2)] → fc_X1_crossingsOfPairs_L4 F σ n4 x1 x2 = some r → WRc p l e 5 112 s m [.ref (ad 1)] below meth c (QcV (.int r)) (F0 m 4 ls []) := by
    intro n4
    induction n4 with
    | zero =>
      intro ls x1 x2 hl hf
      cases (show (none : Option _) = _ from hf)
    | succ n4 ih4 =>
      have hB16 : ∀ (n16 : Nat) (ls : Array Slot) (x1 : Int32) (x2 : Int32) (x3 : Int32), lv_has ls 4 [(0, .ref (ad 1)), (1, .int x1), (2, .int x2), (3, .int x3)] → fc_X1_crossingsOfPairs_L16 F σ (fc_X1_crossingsOfPairs_L4 F σ n4) n16 x1 x2 x3 = some r → WRc p l e 5 112 s m [.ref (ad 1)] below meth c (QcV (.int r)) (F0 m 16 ls []) := by
        intro n16
        induction n16 with
        | zero =>
          intro ls x1 x2 x3 hl hf
          cases (show (none : Option _) = _ from hf)
        | succ n16 ih16 =>
          intro ls x1 x2 x3 hl hf
          have hf : fc_X1_crossingsOfPairs_L16_c F σ (fc_X1_crossingsOfPairs_L4 F σ n4) (fc_X1_crossingsOfPairs_L16 F σ (fc_X1_crossingsOfPairs_L4 F σ n4) n16) x1 x2 x3 = some r := hf
          unfold fc_X1_crossingsOfPairs_L16_c at hf
          refine lv_iload_n C.1 C.2.1 dX1_crossingsOfPairs_16 rfl (lv_at hl 3 rfl) ?_
          refine lv_aload_n C.1 C.2.1 dX1_crossingsOfPairs_17 rfl (lv_at hl 0 rfl) ?_
          refine gc_cv_connectors C hK hP wf_X1_31 dX1_crossingsOfPairs_18 ?_
          refine lv_icmp_ge (tgt := 39) C.1 C.2.1 dX1_crossingsOfPairs_21 (by decide) (fun c21 => ?_) (fun c21 => ?_)
          · have hf := br_p c21 hf
            obtain ⟨x2_39, ex2_39, hf⟩ := lt_some hf
            refine lv_iinc (v := x2_39) (lv' := [(2, .int x2_39), (0, .ref (ad 1)), (1, .int x1), (3, .int x3)]) C.1 C.2.1 dX1_crossingsOfPairs_39 hl (k := 2) rfl (by rw [ex2_39]; rfl) (by decide) rfl (fun ls hl => ?_)
            refine lv_goto (tgt := 4) C.1 C.2.1 dX1_crossingsOfPairs_42 (by decide) ?_
            exact ih4 ls _ _ (lv_sub hl [1, 2, 0] rfl) hf
          · have hf := br_n c21 hf
            refine lv_iload_n C.1 C.2.1 dX1_crossingsOfPairs_24 rfl (lv_at hl 1 rfl) ?_
            refine lv_aload_n C.1 C.2.1 dX1_crossingsOfPairs_25 rfl (lv_at hl 0 rfl) ?_
            refine lv_iload_n C.1 C.2.1 dX1_crossingsOfPairs_26 rfl (lv_at hl 2 rfl) ?_
            refine lv_iload_n C.1 C.2.1 dX1_crossingsOfPairs_27 rfl (lv_at hl 3 rfl) ?_
            obtain ⟨r28, hc28, hf⟩ := bd_some hf
            refine cV_go (runRVc (As := [_, _]) C hK hP hZ hS wv_X1_109 hl (kc_X1_crossingsOf l D cA ad _ η F _ _  r28 hc28) (rcC 1 2 hK hP rfl rfl) rfl rfl rfl (Nat.le_of_ble_eq_true rfl) ⟨Nat.le_refl _, Nat.le_refl _⟩ dX1_crossingsOfPairs_28) ?_
            refine lv_iadd C.1 C.2.1 dX1_crossingsOfPairs_31 ?_
            obtain ⟨x1_32, ex1_32, hf⟩ := lt_some hf
            refine lv_tope ex1_32 ?_
            refine lv_istore_n (lv' := [(1, .int x1_32), (0, .ref (ad 1)), (2, .int x2), (3, .int x3)]) C.1 C.2.1 dX1_crossingsOfPairs_32 rfl hl (by decide) rfl (fun ls hl => ?_)
            obtain ⟨x3_33, ex3_33, hf⟩ := lt_some hf
            refine lv_iinc (v := x3_33) (lv' := [(3, .int x3_33), (1, .int x1_32), (0, .ref (ad 1)), (2, .int x2)]) C.1 C.2.1 dX1_crossingsOfPairs_33 hl (k := 3) rfl (by rw [ex3_33]; rfl) (by decide) rfl (fun ls hl => ?_)
            refine lv_goto (tgt := 16) C.1 C.2.1 dX1_crossingsOfPairs_36 (by decide) ?_
            exact ih16 ls _ _ _ (lv_sub hl [2, 1, 3, 0] rfl) hf
      intro ls x1 x2 hl hf
      have hf : fc_X1_crossingsOfPairs_L4_c F σ (fc_X1_crossingsOfPairs_L4 F σ n4) x1 x2 = some r := hf
      unfold fc_X1_crossingsOfPairs_L4_c at hf
      refine lv_iload_n C.1 C.2.1 dX1_crossingsOfPairs_4 rfl (lv_at hl 2 rfl) ?_
      refine lv_aload_n C.1 C.2.1 dX1_crossingsOfPairs_5 rfl (lv_at hl 0 rfl) ?_
      refine gc_cv_connectors C hK hP wf_X1_31 dX1_crossingsOfPairs_6 ?_
      refine lv_icmp_ge (tgt := 45) C.1 C.2.1 dX1_crossingsOfPairs_9 (by decide) (fun c9 => ?_) (fun c9 => ?_)
      · have hf := br_p c9 hf
        refine lv_iload_n C.1 C.2.1 dX1_crossingsOfPairs_45 rfl (lv_at hl 1 rfl) ?_
        exact KRc.iret C hr hlk (Option.some.inj hf) dX1_crossingsOfPairs_46
      · have hf := br_n c9 hf
        refine lv_iload_n C.1 C.2.1 dX1_crossingsOfPairs_12 rfl (lv_at hl 2 rfl) ?_
        refine lv_iconst (v := (1 : Int32)) C.1 C.2.1 dX1_crossingsOfPairs_13 (by decide) ?_
        refine lv_iadd C.1 C.2.1 dX1_crossingsOfPairs_14 ?_
        obtain ⟨x3_15, ex3_15, hf⟩ := lt_some hf
        refine lv_tope ex3_15 ?_
        refine lv_istore_n (lv' := [(3, .int x3_15), (0, .ref (ad 1)), (1, .int x1), (2, .int x2)]) C.1 C.2.1 dX1_crossingsOfPairs_15 rfl hl (by decide) rfl (fun ls hl => ?_)
        exact hB16 F ls _ _ _ (lv_sub hl [1, 2, 3, 0] rfl) hf
  unfold fc_X1_crossingsOfPairs at hf
  refine lv_iconst (v := (0 : Int32)) C.1 C.2.1 dX1_crossingsOfPairs_0 (by decide) ?_
  refine lv_istore_n (lv' := [(1, .int (0 : Int32)), (0, .ref (ad 1))]) C.1 C.2.1 dX1_crossingsOfPairs_1 rfl hl (by decide) rfl (fun ls hl => ?_)
  refine lv_iconst (v := (0 : Int32)) C.1 C.2.1 dX1_crossingsOfPairs_2 (by decide) ?_
  refine lv_istore_n (lv' := [(2, .int (0 : Int32)), (1, .int (0 : Int32)), (0, .ref (ad 1))]) C.1 C.2.1 dX1_crossingsOfPairs_3 rfl hl (by decide) rfl (fun ls hl => ?_)
  exact hB4 F ls _ _ (lv_sub hl [2, 1, 0] rfl) hf
def fc_X9_count (F : Nat) (σ : CSt) (x1 : Int32) : Option (Int32) :=
  if x1 = (0 : Int32) then (some (cs_cb σ)) else if x1 = (1 : Int32) then (some (cs_cc σ)) else if x1 = (2 : Int32) then (some (cs_cp σ)) else if x1 = (3 : Int32) then (bd (fc_X1_touchedConnectors F σ) (fun r68 => some r68)) else if x1 = (4 : Int32) then (bd (fc_X1_costOfRoutes F σ) (fun r76 => some r76)) else if x1 = (5 : Int32) then (bd (fc_X1_crossingsOfPairs F σ) (fun r84 => some r84)) else (some (-1002 : Int32))
set_option maxHeartbeats 4000000 in
set_option maxRecDepth 100000 in
theorem kc_X9_count (l : Launch) (D : va_G) (cA : Nat → ClassId) (ad : Nat → Nat) (σ : CSt) (η : HS) (F : Nat) (z1 : Int32) (r : Int32) (hf : fc_X9_count F σ z1 = some r) : KRc l D cA ad σ η yX9_count cX9_count 2 (some .int) (rmk 6 135) [.ref (ad 0), .int z1] (QcV (.int r)) := by
  refine KRc.of (by decide) (Nat.le_of_ble_eq_true rfl) ?_
  intro p e s m below meth c C hr hlk hK hP hZ ls hl
  have hS : va_S NoA s.heap s.heap [] := va_S.rf
  have hl : lv_has ls 2 [(0, .ref (ad 0)), (1, .int z1)] := hl
  unfold fc_X9_count at hf
  refine lv_iload_n C.1 C.2.1 dX9_count_0 rfl (lv_at hl 1 rfl) ?_
  by_cases c1_0 : z1 = (0 : Int32)
  · have hf := br_p c1_0 hf
    refine lv_tableIn (tgt := 40) C.1 C.2.1 dX9_count_1 (by rw [c1_0]; decide) (by rw [c1_0]; decide) (by rw [c1_0]; rfl) (by decide) ?_
    refine lv_aload_n C.1 C.2.1 dX9_count_40 rfl (lv_at hl 0 rfl) ?_
    refine gc_R_canvas C hK hP wf_X9_10 dX9_count_41 ?_
    refine gc_cv_boxes C hK hP wf_X9_59 dX9_count_44 ?_
    exact KRc.iret C hr hlk (Option.some.inj hf) dX9_count_47
  have hf := br_n c1_0 hf
  by_cases c1_1 : z1 = (1 : Int32)
  · have hf := br_p c1_1 hf
    refine lv_tableIn (tgt := 48) C.1 C.2.1 dX9_count_1 (by rw [c1_1]; decide) (by rw [c1_1]; decide) (by rw [c1_1]; rfl) (by decide) ?_
    refine lv_aload_n C.1 C.2.1 dX9_count_48 rfl (lv_at hl 0 rfl) ?_
    refine gc_R_canvas C hK hP wf_X9_10 dX9_count_49 ?_
    refine gc_cv_connectors C hK hP wf_X9_100 dX9_count_52 ?_
    exact KRc.iret C hr hlk (Option.some.inj hf) dX9_count_55
  have hf := br_n c1_1 hf
  by_cases c1_2 : z1 = (2 : Int32)
  · have hf := br_p c1_2 hf
    refine lv_tableIn (tgt := 56) C.1 C.2.1 dX9_count_1 (by rw [c1_2]; decide) (by rw [c1_2]; decide) (by rw [c1_2]; rfl) (by decide) ?_
    refine lv_aload_n C.1 C.2.1 dX9_count_56 rfl (lv_at hl 0 rfl) ?_
    refine gc_R_canvas C hK hP wf_X9_10 dX9_count_57 ?_
    refine gc_cv_penalty C hK hP wf_X9_117 dX9_count_60 ?_
    exact KRc.iret C hr hlk (Option.some.inj hf) dX9_count_63
  have hf := br_n c1_2 hf
  by_cases c1_3 : z1 = (3 : Int32)
  · have hf := br_p c1_3 hf
    refine lv_tableIn (tgt := 64) C.1 C.2.1 dX9_count_1 (by rw [c1_3]; decide) (by rw [c1_3]; decide) (by rw [c1_3]; rfl) (by decide) ?_
    refine lv_aload_n C.1 C.2.1 dX9_count_64 rfl (lv_at hl 0 rfl) ?_
    refine gc_R_canvas C hK hP wf_X9_10 dX9_count_65 ?_
    obtain ⟨r68, hc68, hf⟩ := bd_some hf
    refine cV_go (runRVc (As := []) C hK hP hZ hS wv_X9_82 hl (kc_X1_touchedConnectors l D cA ad _ η F   r68 hc68) (rcC 1 2 hK hP rfl rfl) rfl rfl rfl (Nat.le_of_ble_eq_true rfl) ⟨Nat.le_refl _, Nat.le_refl _⟩ dX9_count_68) ?_
    exact KRc.iret C hr hlk (Option.some.inj hf) dX9_count_71
  have hf := br_n c1_3 hf
  by_cases c1_4 : z1 = (4 : Int32)
  · have hf := br_p c1_4 hf
    refine lv_tableIn (tgt := 72) C.1 C.2.1 dX9_count_1 (by rw [c1_4]; decide) (by rw [c1_4]; decide) (by rw [c1_4]; rfl) (by decide) ?_
    refine lv_aload_n C.1 C.2.1 dX9_count_72 rfl (lv_at hl 0 rfl) ?_
    refine gc_R_canvas C hK hP wf_X9_10 dX9_count_73 ?_
    obtain ⟨r76, hc76, hf⟩ := bd_some hf
    refine cV_go (runRVc (As := []) C hK hP hZ hS wv_X9_120 hl (kc_X1_costOfRoutes l D cA ad _ η F   r76 hc76) (rcC 1 2 hK hP rfl rfl) rfl rfl rfl (Nat.le_of_ble_eq_true rfl) ⟨Nat.le_refl _, Nat.le_refl _⟩ dX9_count_76) ?_
    exact KRc.iret C hr hlk (Option.some.inj hf) dX9_count_79
  have hf := br_n c1_4 hf
  by_cases c1_5 : z1 = (5 : Int32)
  · have hf := br_p c1_5 hf
    refine lv_tableIn (tgt := 80) C.1 C.2.1 dX9_count_1 (by rw [c1_5]; decide) (by rw [c1_5]; decide) (by rw [c1_5]; rfl) (by decide) ?_
    refine lv_aload_n C.1 C.2.1 dX9_count_80 rfl (lv_at hl 0 rfl) ?_
    refine gc_R_canvas C hK hP wf_X9_10 dX9_count_81 ?_
    obtain ⟨r84, hc84, hf⟩ := bd_some hf
    refine cV_go (runRVc (As := []) C hK hP hZ hS wv_X9_123 hl (kc_X1_crossingsOfPairs l D cA ad _ η F   r84 hc84) (rcC 1 2 hK hP rfl rfl) rfl rfl rfl (Nat.le_of_ble_eq_true rfl) ⟨Nat.le_refl _, Nat.le_refl _⟩ dX9_count_84) ?_
    exact KRc.iret C hr hlk (Option.some.inj hf) dX9_count_87
  have hf := br_n c1_5 hf
  refine lv_tableOut (tgt := 88) C.1 C.2.1 dX9_count_1 (by have q0 : ¬ z1.toInt = 0 := lv_neT c1_0 (by decide); have q1 : ¬ z1.toInt = 1 := lv_neT c1_1 (by decide); have q2 : ¬ z1.toInt = 2 := lv_neT c1_2 (by decide); have q3 : ¬ z1.toInt = 3 := lv_neT c1_3 (by decide); have q4 : ¬ z1.toInt = 4 := lv_neT c1_4 (by decide); have q5 : ¬ z1.toInt = 5 := lv_neT c1_5 (by decide); omega) (by decide) ?_
  refine lv_sipush (v := (-1002 : Int32)) C.1 C.2.1 dX9_count_88 (by decide) ?_
  exact KRc.iret C hr hlk (Option.some.inj hf) dX9_count_91
