def fm_in_L15 (F : Nat) (s0 : Int32) : Option (Int32) :=
  gd (s0 = 0 ∨ s0 = 1) (some s0)
def fm_in_L14 (F : Nat) : Option (Int32) :=
  fm_in_L15 F (0 : Int32)
def fm_in (F : Nat) (x0 : Int32) (x1 : Int32) (x2 : Int32) : Option (Int32) :=
  if x0 < x1 then (fm_in_L14 F) else (if x2 < x0 then (fm_in_L14 F) else (fm_in_L15 F (1 : Int32)))
set_option maxHeartbeats 4000000 in
set_option maxRecDepth 100000 in
theorem km_in (l : Launch) (D : va_G) (cA : Nat → ClassId) (w : va_W) (F : Nat) (a0 : Int32) (a1 : Int32) (a2 : Int32) (r : Int32) (hf : fm_in F a0 a1 a2 = some r) : KR l D (tyG cA) yX10_in cX10_in 3 (some .boolean) (rmk 0 0) w [.int a0, .int a1, .int a2] r := by
  refine KR.of (by decide) (Nat.le_of_ble_eq_true rfl) ?_
  intro p e s m below meth c C hr hlk hK hP ls hl
  have hl : lv_has ls 3 [(0, .int a0), (1, .int a1), (2, .int a2)] := hl
  have hB15 : ∀ (ls : Array Slot) (s0 : Int32), lv_has ls 3 [] → fm_in_L15 F s0 = some r → WR p l e 0 0 s m [.int a0, .int a1, .int a2] below meth c r (F0 m 15 ls [.int s0]) := by
    intro ls s0 hl hf
    unfold fm_in_L15 at hf
    obtain ⟨hz15, hf⟩ := gd_some hf
    exact KR.zret C hr hlk hz15 (Option.some.inj hf) dX10_in_15
  have hB14 : ∀ (ls : Array Slot), lv_has ls 3 [] → fm_in_L14 F = some r → WR p l e 0 0 s m [.int a0, .int a1, .int a2] below meth c r (F0 m 14 ls []) := by
    intro ls hl hf
    unfold fm_in_L14 at hf
    refine lv_iconst (v := (0 : Int32)) C.1 C.2.1 dX10_in_14 (by decide) ?_
    exact hB15 ls _ (lv_sub hl [] rfl) hf
  unfold fm_in at hf
  refine lv_iload_n C.1 C.2.1 dX10_in_0 rfl (lv_at hl 0 rfl) ?_
  refine lv_iload_n C.1 C.2.1 dX10_in_1 rfl (lv_at hl 1 rfl) ?_
  refine lv_icmp_lt (tgt := 14) C.1 C.2.1 dX10_in_2 (by decide) (fun c2 => ?_) (fun c2 => ?_)
  · have hf := br_p c2 hf
    exact hB14 ls (lv_sub hl [] rfl) hf
  · have hf := br_n c2 hf
    refine lv_iload_n C.1 C.2.1 dX10_in_5 rfl (lv_at hl 0 rfl) ?_
    refine lv_iload_n C.1 C.2.1 dX10_in_6 rfl (lv_at hl 2 rfl) ?_
    refine lv_icmp_gt (tgt := 14) C.1 C.2.1 dX10_in_7 (by decide) (fun c7 => ?_) (fun c7 => ?_)
    · have hf := br_p c7 hf
      exact hB14 ls (lv_sub hl [] rfl) hf
    · have hf := br_n c7 hf
      refine lv_iconst (v := (1 : Int32)) C.1 C.2.1 dX10_in_10 (by decide) ?_
      refine lv_goto (tgt := 15) C.1 C.2.1 dX10_in_11 (by decide) ?_
      exact hB15 ls _ (lv_sub hl [] rfl) hf
def fm_copies_L2_c (F : Nat) (k2 : MS → Int32 → Int32 → Int32 → Option (MS)) (σ : MS) (x1 : Int32) (x2 : Int32) (x3 : Int32) : Option (MS) :=
  if (1725 : Int32) ≤ x3 then (some σ) else (gd (ix (x1 + x3) 8625 = true) (gd (ix (x2 + x3) 8625 = true) (lt (st_row σ (x2 + x3) (ms_row σ (x1 + x3).toNatClampNeg)) (fun σ24 => lt (x3 + (1 : Int32)) (fun x3_25 => k2 σ24 x1 x2 x3_25)))))
def fm_copies_L2 (F : Nat) (n : Nat) (σ : MS) (x1 : Int32) (x2 : Int32) (x3 : Int32) : Option (MS) := lpN (fun (k : MS × Int32 × Int32 × Int32 → Option (MS)) a => fm_copies_L2_c F (fun σ x1 x2 x3 => k (σ, x1, x2, x3)) a.1 a.2.1 a.2.2.1 a.2.2.2) n (σ, x1, x2, x3)
def fm_copies (F : Nat) (σ : MS) (x1 : Int32) (x2 : Int32) : Option (MS) :=
  fm_copies_L2 F F σ x1 x2 (0 : Int32)
set_option maxHeartbeats 4000000 in
set_option maxRecDepth 100000 in
theorem km_copies (l : Launch) (D : va_G) (cA : Nat → ClassId) (ad : Nat → Nat) (σ0 : MS) (F : Nat) (a1 : Int32) (a2 : Int32) (σr : MS) (hf : fm_copies F σ0 a1 a2 = some σr) : KW l D (tyG cA) yX10_copies cX10_copies 4 none (rmk 0 0) (wM cA ad σ0) [.ref (ad 0), .int a1, .int a2] none (wM cA ad σr) := by
  refine KW.of (by decide) (Nat.le_of_ble_eq_true rfl) ?_
  intro p e s m below meth c A hAe hA C hr hlk hK hP hD hS ls hl
  have hl : lv_has ls 4 [(0, .ref (ad 0)), (1, .int a1), (2, .int a2)] := hl
  have hB2 : ∀ (n2 : Nat) (H : Heap) (locs : List Loc) (σ : MS) (ls : Array Slot) (x1 : Int32) (x2 : Int32) (x3 : Int32), va_P D vwCl (wM cA ad σ) H → va_D A (wM cA ad σ) → va_S A s.heap H locs → lv_has ls 4 [(0, .ref (ad 0)), (1, .int x1), (2, .int x2), (3, .int x3)] → fm_copies_L2 F n2 σ x1 x2 x3 = some σr → WQ p l e 0 0 s m [.ref (ad 0), .int a1, .int a2] below meth c none D (tyG cA) (wM cA ad σ0) (wM cA ad σr) A H locs (F0 m 2 ls []) := by
    intro n2
    induction n2 with
    | zero =>
      intro H locs σ ls x1 x2 x3 hP hD hS hl hf
      cases (show (none : Option _) = _ from hf)
    | succ n2 ih2 =>
      intro H locs σ ls x1 x2 x3 hP hD hS hl hf
      have hf : fm_copies_L2_c F (fm_copies_L2 F n2) σ x1 x2 x3 = some σr := hf
      unfold fm_copies_L2_c at hf
      refine lv_iload_n C.1 C.2.1 dX10_copies_2 rfl (lv_at hl 3 rfl) ?_
      refine lv_sipush (v := (1725 : Int32)) C.1 C.2.1 dX10_copies_3 (by decide) ?_
      refine lv_icmp_ge (tgt := 31) C.1 C.2.1 dX10_copies_6 (by decide) (fun c6 => ?_) (fun c6 => ?_)
      · have hf := br_p c6 hf
        obtain rfl := Option.some.inj hf
        exact KW.vret C hr hlk hK hAe hP hD hS rfl dX10_copies_31
      · have hf := br_n c6 hf
        refine lv_aload_n C.1 C.2.1 dX10_copies_9 rfl (lv_at hl 0 rfl) ?_
        refine gm_row C hK hP dX10_copies_10 ?_
        refine lv_iload_n C.1 C.2.1 dX10_copies_13 rfl (lv_at hl 2 rfl) ?_
        refine lv_iload_n C.1 C.2.1 dX10_copies_14 rfl (lv_at hl 3 rfl) ?_
        refine lv_iadd C.1 C.2.1 dX10_copies_15 ?_
        refine lv_aload_n C.1 C.2.1 dX10_copies_16 rfl (lv_at hl 0 rfl) ?_
        refine gm_row C hK hP dX10_copies_17 ?_
        refine lv_iload_n C.1 C.2.1 dX10_copies_20 rfl (lv_at hl 1 rfl) ?_
        refine lv_iload_n C.1 C.2.1 dX10_copies_21 rfl (lv_at hl 3 rfl) ?_
        refine lv_iadd C.1 C.2.1 dX10_copies_22 ?_
        obtain ⟨hi23, hf⟩ := gd_some hf
        refine lm_row C hK hP hi23 dX10_copies_23 ?_
        obtain ⟨hi24, hf⟩ := gd_some hf
        replace hf := lt_e hf
        refine sm_row C hK hP hD hS hi24 dX10_copies_24 (fun H locs hP hD hS => ?_)
        obtain ⟨x3_25, ex3_25, hf⟩ := lt_some hf
        refine lv_iinc (v := x3_25) (lv' := [(3, .int x3_25), (0, .ref (ad 0)), (1, .int x1), (2, .int x2)]) C.1 C.2.1 dX10_copies_25 hl (k := 3) rfl (by rw [ex3_25]; rfl) (by decide) rfl (fun ls hl => ?_)
        refine lv_goto (tgt := 2) C.1 C.2.1 dX10_copies_28 (by decide) ?_
        exact ih2 _ _ _ ls _ _ _ hP hD hS (lv_sub hl [1, 2, 3, 0] rfl) hf
  unfold fm_copies at hf
  refine lv_iconst (v := (0 : Int32)) C.1 C.2.1 dX10_copies_0 (by decide) ?_
  refine lv_istore_n (lv' := [(3, .int (0 : Int32)), (0, .ref (ad 0)), (1, .int a1), (2, .int a2)]) C.1 C.2.1 dX10_copies_1 rfl hl (by decide) rfl (fun ls hl => ?_)
  exact hB2 F _ _ _ ls _ _ _ hP hD hS (lv_sub hl [1, 2, 3, 0] rfl) hf
def fm_records_L63 (F : Nat) (σ : MS) (s0 : Int32) (s1 : Int32) : Option (MS) :=
  lt (ms_kept_s σ (s1 - s0)) (fun σ64 => lt (ms_kept_s σ64 ((ms_kept σ64) + (1 : Int32))) (fun σ74 => bd (fm_copies F σ74 (0 : Int32) ((1725 : Int32) * (ms_kept σ74))) (fun σ87 => some σ87)))
def fm_records_L45 (F : Nat) (σ : MS) : Option (MS) :=
  if (ms_kept σ) = (4 : Int32) then (fm_records_L63 F σ (1 : Int32) (ms_kept σ)) else (fm_records_L63 F σ (0 : Int32) (ms_kept σ))
def fm_records_L10_c (F : Nat) (k10 : MS → Int32 → Option (MS)) (σ : MS) (x1 : Int32) : Option (MS) :=
  if (4 : Int32) ≤ x1 then (fm_records_L45 F σ) else (if (ms_kept σ) = (4 : Int32) then (bd (fm_copies F σ ((1725 : Int32) * (x1 + (1 : Int32))) ((1725 : Int32) * x1)) (fun σ36 => lt (x1 + (1 : Int32)) (fun x1_39 => k10 σ36 x1_39))) else (fm_records_L45 F σ))
def fm_records_L10 (F : Nat) (n : Nat) (σ : MS) (x1 : Int32) : Option (MS) := lpN (fun (k : MS × Int32 → Option (MS)) a => fm_records_L10_c F (fun σ x1 => k (σ, x1)) a.1 a.2) n (σ, x1)
def fm_records (F : Nat) (σ : MS) : Option (MS) :=
  if (ms_silent σ) = 0 then (fm_records_L10 F F σ (1 : Int32)) else (some σ)
set_option maxHeartbeats 4000000 in
set_option maxRecDepth 100000 in
theorem km_records (l : Launch) (D : va_G) (cA : Nat → ClassId) (ad : Nat → Nat) (σ0 : MS) (F : Nat)  (σr : MS) (hf : fm_records F σ0  = some σr) : KW l D (tyG cA) yX10_records cX10_records 2 none (rmk 1 23) (wM cA ad σ0) [.ref (ad 0)] none (wM cA ad σr) := by
  refine KW.of (by decide) (Nat.le_of_ble_eq_true rfl) ?_
  intro p e s m below meth c A hAe hA C hr hlk hK hP hD hS ls hl
  have hl : lv_has ls 2 [(0, .ref (ad 0))] := hl
  have hB63 : ∀ (H : Heap) (locs : List Loc) (σ : MS) (ls : Array Slot) (s0 : Int32) (s1 : Int32), va_P D vwCl (wM cA ad σ) H → va_D A (wM cA ad σ) → va_S A s.heap H locs → lv_has ls 2 [(0, .ref (ad 0))] → fm_records_L63 F σ s0 s1 = some σr → WQ p l e 1 23 s m [.ref (ad 0)] below meth c none D (tyG cA) (wM cA ad σ0) (wM cA ad σr) A H locs (F0 m 63 ls [.int s0, .int s1, .ref (ad 0)]) := by
    intro H locs σ ls s0 s1 hP hD hS hl hf
    unfold fm_records_L63 at hf
    refine lv_isub C.1 C.2.1 dX10_records_63 ?_
    replace hf := lt_e hf
    refine pm_kept C hK hP hD hS dX10_records_64 (fun H locs hP hD hS => ?_)
    refine lv_aload_n C.1 C.2.1 dX10_records_67 rfl (lv_at hl 0 rfl) ?_
    refine lv_dup C.1 C.2.1 dX10_records_68 rfl ?_
    refine gm_kept C hK hP dX10_records_69 ?_
    refine lv_iconst (v := (1 : Int32)) C.1 C.2.1 dX10_records_72 (by decide) ?_
    refine lv_iadd C.1 C.2.1 dX10_records_73 ?_
    replace hf := lt_e hf
    refine pm_kept C hK hP hD hS dX10_records_74 (fun H locs hP hD hS => ?_)
    refine lv_aload_n C.1 C.2.1 dX10_records_77 rfl (lv_at hl 0 rfl) ?_
    refine lv_iconst (v := (0 : Int32)) C.1 C.2.1 dX10_records_78 (by decide) ?_
    refine lv_sipush (v := (1725 : Int32)) C.1 C.2.1 dX10_records_79 (by decide) ?_
    refine lv_aload_n C.1 C.2.1 dX10_records_82 rfl (lv_at hl 0 rfl) ?_
    refine gm_kept C hK hP dX10_records_83 ?_
    refine lv_imul C.1 C.2.1 dX10_records_86 ?_
    obtain ⟨σ87, hc87, hf⟩ := bd_some hf
    refine callWV (As := [_, _]) C hK hP hD hA hS wv_X10_64 hl (km_copies l D cA ad _ F _ _ σ87 hc87) (rcM hK hP) rfl rfl rfl (Nat.le_of_ble_eq_true rfl) ⟨Nat.le_refl _, Nat.le_refl _⟩ dX10_records_87 (fun H locs hP hD hS => ?_)
    obtain rfl := Option.some.inj hf
    exact KW.vret C hr hlk hK hAe hP hD hS rfl dX10_records_90
  have hB45 : ∀ (H : Heap) (locs : List Loc) (σ : MS) (ls : Array Slot), va_P D vwCl (wM cA ad σ) H → va_D A (wM cA ad σ) → va_S A s.heap H locs → lv_has ls 2 [(0, .ref (ad 0))] → fm_records_L45 F σ = some σr → WQ p l e 1 23 s m [.ref (ad 0)] below meth c none D (tyG cA) (wM cA ad σ0) (wM cA ad σr) A H locs (F0 m 45 ls []) := by
    intro H locs σ ls hP hD hS hl hf
    unfold fm_records_L45 at hf
    refine lv_aload_n C.1 C.2.1 dX10_records_45 rfl (lv_at hl 0 rfl) ?_
    refine lv_dup C.1 C.2.1 dX10_records_46 rfl ?_
    refine gm_kept C hK hP dX10_records_47 ?_
    refine lv_aload_n C.1 C.2.1 dX10_records_50 rfl (lv_at hl 0 rfl) ?_
    refine gm_kept C hK hP dX10_records_51 ?_
    refine lv_iconst (v := (4 : Int32)) C.1 C.2.1 dX10_records_54 (by decide) ?_
    refine lv_icmp_ne (tgt := 62) C.1 C.2.1 dX10_records_55 (by decide) (fun c55 => ?_) (fun c55 => ?_)
    · have hf := br_n c55 hf
      refine lv_iconst (v := (0 : Int32)) C.1 C.2.1 dX10_records_62 (by decide) ?_
      exact hB63 _ _ _ ls _ _ hP hD hS (lv_sub hl [0] rfl) hf
    · have hf := br_p c55 hf
      refine lv_iconst (v := (1 : Int32)) C.1 C.2.1 dX10_records_58 (by decide) ?_
      refine lv_goto (tgt := 63) C.1 C.2.1 dX10_records_59 (by decide) ?_
      exact hB63 _ _ _ ls _ _ hP hD hS (lv_sub hl [0] rfl) hf
  have hB10 : ∀ (n10 : Nat) (H : Heap) (locs : List Loc) (σ : MS) (ls : Array Slot) (x1 : Int32), va_P D vwCl (wM cA ad σ) H → va_D A (wM cA ad σ) → va_S A s.heap H locs → lv_has ls 2 [(0, .ref (ad 0)), (1, .int x1)] → fm_records_L10 F n10 σ x1 = some σr → WQ p l e 1 23 s m [.ref (ad 0)] below meth c none D (tyG cA) (wM cA ad σ0) (wM cA ad σr) A H locs (F0 m 10 ls []) := by
    intro n10
    induction n10 with
    | zero =>
      intro H locs σ ls x1 hP hD hS hl hf
      cases (show (none : Option _) = _ from hf)
    | succ n10 ih10 =>
      intro H locs σ ls x1 hP hD hS hl hf
      have hf : fm_records_L10_c F (fm_records_L10 F n10) σ x1 = some σr := hf
      unfold fm_records_L10_c at hf
      refine lv_iload_n C.1 C.2.1 dX10_records_10 rfl (lv_at hl 1 rfl) ?_
      refine lv_iconst (v := (4 : Int32)) C.1 C.2.1 dX10_records_11 (by decide) ?_
      refine lv_icmp_ge (tgt := 45) C.1 C.2.1 dX10_records_12 (by decide) (fun c12 => ?_) (fun c12 => ?_)
      · have hf := br_p c12 hf
        exact hB45 _ _ _ ls hP hD hS (lv_sub hl [0] rfl) hf
      · have hf := br_n c12 hf
        refine lv_aload_n C.1 C.2.1 dX10_records_15 rfl (lv_at hl 0 rfl) ?_
        refine gm_kept C hK hP dX10_records_16 ?_
        refine lv_iconst (v := (4 : Int32)) C.1 C.2.1 dX10_records_19 (by decide) ?_
        refine lv_icmp_ne (tgt := 45) C.1 C.2.1 dX10_records_20 (by decide) (fun c20 => ?_) (fun c20 => ?_)
        · have hf := br_n c20 hf
          exact hB45 _ _ _ ls hP hD hS (lv_sub hl [0] rfl) hf
        · have hf := br_p c20 hf
          refine lv_aload_n C.1 C.2.1 dX10_records_23 rfl (lv_at hl 0 rfl) ?_
          refine lv_sipush (v := (1725 : Int32)) C.1 C.2.1 dX10_records_24 (by decide) ?_
          refine lv_iload_n C.1 C.2.1 dX10_records_27 rfl (lv_at hl 1 rfl) ?_
          refine lv_iconst (v := (1 : Int32)) C.1 C.2.1 dX10_records_28 (by decide) ?_
          refine lv_iadd C.1 C.2.1 dX10_records_29 ?_
          refine lv_imul C.1 C.2.1 dX10_records_30 ?_
          refine lv_sipush (v := (1725 : Int32)) C.1 C.2.1 dX10_records_31 (by decide) ?_
          refine lv_iload_n C.1 C.2.1 dX10_records_34 rfl (lv_at hl 1 rfl) ?_
          refine lv_imul C.1 C.2.1 dX10_records_35 ?_
          obtain ⟨σ36, hc36, hf⟩ := bd_some hf
          refine callWV (As := [_, _]) C hK hP hD hA hS wv_X10_64 hl (km_copies l D cA ad _ F _ _ σ36 hc36) (rcM hK hP) rfl rfl rfl (Nat.le_of_ble_eq_true rfl) ⟨Nat.le_refl _, Nat.le_refl _⟩ dX10_records_36 (fun H locs hP hD hS => ?_)
          obtain ⟨x1_39, ex1_39, hf⟩ := lt_some hf
          refine lv_iinc (v := x1_39) (lv' := [(1, .int x1_39), (0, .ref (ad 0))]) C.1 C.2.1 dX10_records_39 hl (k := 1) rfl (by rw [ex1_39]; rfl) (by decide) rfl (fun ls hl => ?_)
          refine lv_goto (tgt := 10) C.1 C.2.1 dX10_records_42 (by decide) ?_
          exact ih10 _ _ _ ls _ hP hD hS (lv_sub hl [1, 0] rfl) hf
  unfold fm_records at hf
  refine lv_aload_n C.1 C.2.1 dX10_records_0 rfl (lv_at hl 0 rfl) ?_
  refine gm_silent C hK hP dX10_records_1 ?_
  refine lv_if_eq (tgt := 8) C.1 C.2.1 dX10_records_4 (by decide) (fun c4 => ?_) (fun c4 => ?_)
  · have hf := br_p c4 hf
    refine lv_iconst (v := (1 : Int32)) C.1 C.2.1 dX10_records_8 (by decide) ?_
    refine lv_istore_n (lv' := [(1, .int (1 : Int32)), (0, .ref (ad 0))]) C.1 C.2.1 dX10_records_9 rfl hl (by decide) rfl (fun ls hl => ?_)
    exact hB10 F _ _ _ ls _ hP hD hS (lv_sub hl [1, 0] rfl) hf
  · have hf := br_n c4 hf
    obtain rfl := Option.some.inj hf
    exact KW.vret C hr hlk hK hAe hP hD hS rfl dX10_records_7
def fm_side (F : Nat) (σ : MS) (x1 : Int32) (x2 : Int32) : Option (Int32) :=
  gd (ix (((3 : Int32) + ((4 : Int32) * x1)) + x2) 8625 = true) (some (ms_row σ (((3 : Int32) + ((4 : Int32) * x1)) + x2).toNatClampNeg))
set_option maxHeartbeats 4000000 in
set_option maxRecDepth 100000 in
theorem km_side (l : Launch) (D : va_G) (cA : Nat → ClassId) (ad : Nat → Nat) (σ : MS) (F : Nat) (a1 : Int32) (a2 : Int32) (r : Int32) (hf : fm_side F σ a1 a2 = some r) : KR l D (tyG cA) yX10_side cX10_side 3 (some .int) (rmk 0 0) (wM cA ad σ) [.ref (ad 0), .int a1, .int a2] r := by
  refine KR.of (by decide) (Nat.le_of_ble_eq_true rfl) ?_
  intro p e s m below meth c C hr hlk hK hP ls hl
  have hl : lv_has ls 3 [(0, .ref (ad 0)), (1, .int a1), (2, .int a2)] := hl
  unfold fm_side at hf
  refine lv_aload_n C.1 C.2.1 dX10_side_0 rfl (lv_at hl 0 rfl) ?_
  refine gm_row C hK hP dX10_side_1 ?_
  refine lv_iconst (v := (3 : Int32)) C.1 C.2.1 dX10_side_4 (by decide) ?_
  refine lv_iconst (v := (4 : Int32)) C.1 C.2.1 dX10_side_5 (by decide) ?_
  refine lv_iload_n C.1 C.2.1 dX10_side_6 rfl (lv_at hl 1 rfl) ?_
  refine lv_imul C.1 C.2.1 dX10_side_7 ?_
  refine lv_iadd C.1 C.2.1 dX10_side_8 ?_
  refine lv_iload_n C.1 C.2.1 dX10_side_9 rfl (lv_at hl 2 rfl) ?_
  refine lv_iadd C.1 C.2.1 dX10_side_10 ?_
  obtain ⟨hi11, hf⟩ := gd_some hf
  refine lm_row C hK hP hi11 dX10_side_11 ?_
  exact KR.iret C hr hlk (Option.some.inj hf) dX10_side_12
def fm_isBox (F : Nat) (σ : MS) (x1 : Int32) : Option (Int32) :=
  gd (ix (0 : Int32) 8625 = true) (bd (fm_in F x1 (0 : Int32) ((ms_row σ (0 : Int32).toNatClampNeg) - (1 : Int32))) (fun r10 => gd (r10 = 0 ∨ r10 = 1) (some r10)))
set_option maxHeartbeats 4000000 in
set_option maxRecDepth 100000 in
theorem km_isBox (l : Launch) (D : va_G) (cA : Nat → ClassId) (ad : Nat → Nat) (σ : MS) (F : Nat) (a1 : Int32) (r : Int32) (hf : fm_isBox F σ a1 = some r) : KR l D (tyG cA) yX10_isBox cX10_isBox 2 (some .boolean) (rmk 1 22) (wM cA ad σ) [.ref (ad 0), .int a1] r := by
  refine KR.of (by decide) (Nat.le_of_ble_eq_true rfl) ?_
  intro p e s m below meth c C hr hlk hK hP ls hl
  have hl : lv_has ls 2 [(0, .ref (ad 0)), (1, .int a1)] := hl
  unfold fm_isBox at hf
  refine lv_iload_n C.1 C.2.1 dX10_isBox_0 rfl (lv_at hl 1 rfl) ?_
  refine lv_iconst (v := (0 : Int32)) C.1 C.2.1 dX10_isBox_1 (by decide) ?_
  refine lv_aload_n C.1 C.2.1 dX10_isBox_2 rfl (lv_at hl 0 rfl) ?_
  refine gm_row C hK hP dX10_isBox_3 ?_
  refine lv_iconst (v := (0 : Int32)) C.1 C.2.1 dX10_isBox_6 (by decide) ?_
  obtain ⟨hi7, hf⟩ := gd_some hf
  refine lm_row C hK hP hi7 dX10_isBox_7 ?_
  refine lv_iconst (v := (1 : Int32)) C.1 C.2.1 dX10_isBox_8 (by decide) ?_
  refine lv_isub C.1 C.2.1 dX10_isBox_9 ?_
  obtain ⟨r10, hc10, hf⟩ := bd_some hf
  refine callRS (As := [_, _, _]) C hK hP wv_X10_68 hl (km_in l D cA _ F _ _ _ r10 hc10) rfl rfl rfl (Nat.le_of_ble_eq_true rfl) ⟨Nat.le_refl _, Nat.le_refl _⟩ dX10_isBox_10 ?_
  obtain ⟨hz13, hf⟩ := gd_some hf
  exact KR.zret C hr hlk hz13 (Option.some.inj hf) dX10_isBox_13
def fm_isRange_L21 (F : Nat) (s0 : Int32) : Option (Int32) :=
  gd (s0 = 0 ∨ s0 = 1) (some s0)
def fm_isRange_L20 (F : Nat) : Option (Int32) :=
  fm_isRange_L21 F (0 : Int32)
def fm_isRange (F : Nat) (x0 : Int32) (x1 : Int32) : Option (Int32) :=
  if x0 < (2 : Int32) then (fm_isRange_L20 F) else (if x1 ≤ x0 then (fm_isRange_L20 F) else (if (97 : Int32) < x1 then (fm_isRange_L20 F) else (fm_isRange_L21 F (1 : Int32))))
set_option maxHeartbeats 4000000 in
set_option maxRecDepth 100000 in
theorem km_isRange (l : Launch) (D : va_G) (cA : Nat → ClassId) (w : va_W) (F : Nat) (a0 : Int32) (a1 : Int32) (r : Int32) (hf : fm_isRange F a0 a1 = some r) : KR l D (tyG cA) yX10_isRange cX10_isRange 2 (some .boolean) (rmk 0 0) w [.int a0, .int a1] r := by
  refine KR.of (by decide) (Nat.le_of_ble_eq_true rfl) ?_
  intro p e s m below meth c C hr hlk hK hP ls hl
  have hl : lv_has ls 2 [(0, .int a0), (1, .int a1)] := hl
  have hB21 : ∀ (ls : Array Slot) (s0 : Int32), lv_has ls 2 [] → fm_isRange_L21 F s0 = some r → WR p l e 0 0 s m [.int a0, .int a1] below meth c r (F0 m 21 ls [.int s0]) := by
    intro ls s0 hl hf
    unfold fm_isRange_L21 at hf
    obtain ⟨hz21, hf⟩ := gd_some hf
    exact KR.zret C hr hlk hz21 (Option.some.inj hf) dX10_isRange_21
  have hB20 : ∀ (ls : Array Slot), lv_has ls 2 [] → fm_isRange_L20 F = some r → WR p l e 0 0 s m [.int a0, .int a1] below meth c r (F0 m 20 ls []) := by
    intro ls hl hf
    unfold fm_isRange_L20 at hf
    refine lv_iconst (v := (0 : Int32)) C.1 C.2.1 dX10_isRange_20 (by decide) ?_
    exact hB21 ls _ (lv_sub hl [] rfl) hf
  unfold fm_isRange at hf
  refine lv_iload_n C.1 C.2.1 dX10_isRange_0 rfl (lv_at hl 0 rfl) ?_
  refine lv_iconst (v := (2 : Int32)) C.1 C.2.1 dX10_isRange_1 (by decide) ?_
  refine lv_icmp_lt (tgt := 20) C.1 C.2.1 dX10_isRange_2 (by decide) (fun c2 => ?_) (fun c2 => ?_)
  · have hf := br_p c2 hf
    exact hB20 ls (lv_sub hl [] rfl) hf
  · have hf := br_n c2 hf
    refine lv_iload_n C.1 C.2.1 dX10_isRange_5 rfl (lv_at hl 1 rfl) ?_
    refine lv_iload_n C.1 C.2.1 dX10_isRange_6 rfl (lv_at hl 0 rfl) ?_
    refine lv_icmp_le (tgt := 20) C.1 C.2.1 dX10_isRange_7 (by decide) (fun c7 => ?_) (fun c7 => ?_)
    · have hf := br_p c7 hf
      exact hB20 ls (lv_sub hl [] rfl) hf
    · have hf := br_n c7 hf
      refine lv_iload_n C.1 C.2.1 dX10_isRange_10 rfl (lv_at hl 1 rfl) ?_
      refine lv_bipush (v := (97 : Int32)) C.1 C.2.1 dX10_isRange_11 (by decide) ?_
      refine lv_icmp_gt (tgt := 20) C.1 C.2.1 dX10_isRange_13 (by decide) (fun c13 => ?_) (fun c13 => ?_)
      · have hf := br_p c13 hf
        exact hB20 ls (lv_sub hl [] rfl) hf
      · have hf := br_n c13 hf
        refine lv_iconst (v := (1 : Int32)) C.1 C.2.1 dX10_isRange_16 (by decide) ?_
        refine lv_goto (tgt := 21) C.1 C.2.1 dX10_isRange_17 (by decide) ?_
        exact hB21 ls _ (lv_sub hl [] rfl) hf
def fm_isNear_L99 (F : Nat) (σ : MS) (k6 : Int32 → Int32 → Int32 → Int32 → Int32 → Int32 → Int32 → Option (Int32)) (x1 : Int32) (x2 : Int32) (x3 : Int32) (x4 : Int32) (x5 : Int32) (x7 : Int32) (s0 : Int32) : Option (Int32) :=
  lt (x7 + (1 : Int32)) (fun x7_101 => k6 x1 x2 x3 x4 x5 s0 x7_101)
def fm_isNear_L98 (F : Nat) (σ : MS) (k6 : Int32 → Int32 → Int32 → Int32 → Int32 → Int32 → Int32 → Option (Int32)) (x1 : Int32) (x2 : Int32) (x3 : Int32) (x4 : Int32) (x5 : Int32) (x7 : Int32) : Option (Int32) :=
  fm_isNear_L99 F σ k6 x1 x2 x3 x4 x5 x7 (0 : Int32)
def fm_isNear_L94 (F : Nat) (σ : MS) (k6 : Int32 → Int32 → Int32 → Int32 → Int32 → Int32 → Int32 → Option (Int32)) (x1 : Int32) (x2 : Int32) (x3 : Int32) (x4 : Int32) (x5 : Int32) (x7 : Int32) : Option (Int32) :=
  fm_isNear_L99 F σ k6 x1 x2 x3 x4 x5 x7 (1 : Int32)
def fm_isNear_L75 (F : Nat) (σ : MS) (k6 : Int32 → Int32 → Int32 → Int32 → Int32 → Int32 → Int32 → Option (Int32)) (x1 : Int32) (x2 : Int32) (x3 : Int32) (x4 : Int32) (x5 : Int32) (x6 : Int32) (x7 : Int32) (s0 : Int32) : Option (Int32) :=
  if x6 = 0 then (if x7 = x5 then (fm_isNear_L98 F σ k6 x1 x2 x3 x4 x5 x7) else (if s0 = 0 then (fm_isNear_L94 F σ k6 x1 x2 x3 x4 x5 x7) else (fm_isNear_L98 F σ k6 x1 x2 x3 x4 x5 x7))) else (fm_isNear_L94 F σ k6 x1 x2 x3 x4 x5 x7)
def fm_isNear_L70 (F : Nat) (σ : MS) (k6 : Int32 → Int32 → Int32 → Int32 → Int32 → Int32 → Int32 → Option (Int32)) (x1 : Int32) (x2 : Int32) (x3 : Int32) (x4 : Int32) (x5 : Int32) (x6 : Int32) (x7 : Int32) : Option (Int32) :=
  fm_isNear_L75 F σ k6 x1 x2 x3 x4 x5 x6 x7 (1 : Int32)
def fm_isNear_L6_c (F : Nat) (σ : MS) (k6 : Int32 → Int32 → Int32 → Int32 → Int32 → Int32 → Int32 → Option (Int32)) (x1 : Int32) (x2 : Int32) (x3 : Int32) (x4 : Int32) (x5 : Int32) (x6 : Int32) (x7 : Int32) : Option (Int32) :=
  gd (ix (0 : Int32) 8625 = true) (if (ms_row σ (0 : Int32).toNatClampNeg) ≤ x7 then (gd (x6 = 0 ∨ x6 = 1) (some x6)) else (bd (fm_side F σ x7 (2 : Int32)) (fun r22 => if (r22 + (2 : Int32)) ≤ x1 then (fm_isNear_L70 F σ k6 x1 x2 x3 x4 x5 x6 x7) else (bd (fm_side F σ x7 (0 : Int32)) (fun r34 => if (x3 + (2 : Int32)) ≤ r34 then (fm_isNear_L70 F σ k6 x1 x2 x3 x4 x5 x6 x7) else (bd (fm_side F σ x7 (3 : Int32)) (fun r48 => if (r48 + (2 : Int32)) ≤ x2 then (fm_isNear_L70 F σ k6 x1 x2 x3 x4 x5 x6 x7) else (bd (fm_side F σ x7 (1 : Int32)) (fun r60 => if r60 < (x4 + (2 : Int32)) then (fm_isNear_L75 F σ k6 x1 x2 x3 x4 x5 x6 x7 (0 : Int32)) else (fm_isNear_L70 F σ k6 x1 x2 x3 x4 x5 x6 x7))))))))))
def fm_isNear_L6 (F : Nat) (σ : MS) (n : Nat) (x1 : Int32) (x2 : Int32) (x3 : Int32) (x4 : Int32) (x5 : Int32) (x6 : Int32) (x7 : Int32) : Option (Int32) := lpN (fun (k : Int32 × Int32 × Int32 × Int32 × Int32 × Int32 × Int32 → Option (Int32)) a => fm_isNear_L6_c F σ (fun x1 x2 x3 x4 x5 x6 x7 => k (x1, x2, x3, x4, x5, x6, x7)) a.1 a.2.1 a.2.2.1 a.2.2.2.1 a.2.2.2.2.1 a.2.2.2.2.2.1 a.2.2.2.2.2.2) n (x1, x2, x3, x4, x5, x6, x7)
def fm_isNear (F : Nat) (σ : MS) (x1 : Int32) (x2 : Int32) (x3 : Int32) (x4 : Int32) (x5 : Int32) : Option (Int32) :=
  fm_isNear_L6 F σ F x1 x2 x3 x4 x5 (0 : Int32) (0 : Int32)
set_option maxHeartbeats 4000000 in
set_option maxRecDepth 100000 in
theorem km_isNear (l : Launch) (D : va_G) (cA : Nat → ClassId) (ad : Nat → Nat) (σ : MS) (F : Nat) (a1 : Int32) (a2 : Int32) (a3 : Int32) (a4 : Int32) (a5 : Int32) (r : Int32) (hf : fm_isNear F σ a1 a2 a3 a4 a5 = some r) : KR l D (tyG cA) yX10_isNear cX10_isNear 9 (some .boolean) (rmk 1 22) (wM cA ad σ) [.ref (ad 0), .int a1, .int a2, .int a3, .int a4, .int a5] r := by
  refine KR.of (by decide) (Nat.le_of_ble_eq_true rfl) ?_
  intro p e s m below meth c C hr hlk hK hP ls hl
  have hl : lv_has ls 9 [(0, .ref (ad 0)), (1, .int a1), (2, .int a2), (3, .int a3), (4, .int a4), (5, .int a5)] := hl
  have hB6 : ∀ (n6 : Nat) (ls : Array Slot) (x1 : Int32) (x2 : Int32) (x3 : Int32) (x4 : Int32) (x5 : Int32) (x6 : Int32) (x7 : Int32), lv_has ls 9 [(0, .ref (ad 0)), (1, .int x1), (2, .int x2), (3, .int x3), (4, .int x4), (5, .int x5), (6, .int x6), (7, .int x7)] → fm_isNear_L6 F σ n6 x1 x2 x3 x4 x5 x6 x7 = some r → WR p l e 1 22 s m [.ref (ad 0), .int a1, .int a2, .int a3, .int a4, .int a5] below meth c r (F0 m 6 ls []) := by
    intro n6
    induction n6 with
    | zero =>
      intro ls x1 x2 x3 x4 x5 x6 x7 hl hf
      cases (show (none : Option _) = _ from hf)
    | succ n6 ih6 =>
      have hB99 : ∀ (ls : Array Slot) (x1 : Int32) (x2 : Int32) (x3 : Int32) (x4 : Int32) (x5 : Int32) (x7 : Int32) (s0 : Int32), lv_has ls 9 [(0, .ref (ad 0)), (1, .int x1), (2, .int x2), (3, .int x3), (4, .int x4), (5, .int x5), (7, .int x7)] → fm_isNear_L99 F σ (fm_isNear_L6 F σ n6) x1 x2 x3 x4 x5 x7 s0 = some r → WR p l e 1 22 s m [.ref (ad 0), .int a1, .int a2, .int a3, .int a4, .int a5] below meth c r (F0 m 99 ls [.int s0]) := by
        intro ls x1 x2 x3 x4 x5 x7 s0 hl hf
        unfold fm_isNear_L99 at hf
        refine lv_istore (lv' := [(6, .int s0), (0, .ref (ad 0)), (1, .int x1), (2, .int x2), (3, .int x3), (4, .int x4), (5, .int x5), (7, .int x7)]) C.1 C.2.1 dX10_isNear_99 hl (by decide) rfl (fun ls hl => ?_)
        obtain ⟨x7_101, ex7_101, hf⟩ := lt_some hf
        refine lv_iinc (v := x7_101) (lv' := [(7, .int x7_101), (6, .int s0), (0, .ref (ad 0)), (1, .int x1), (2, .int x2), (3, .int x3), (4, .int x4), (5, .int x5)]) C.1 C.2.1 dX10_isNear_101 hl (k := 7) rfl (by rw [ex7_101]; rfl) (by decide) rfl (fun ls hl => ?_)
        refine lv_goto (tgt := 6) C.1 C.2.1 dX10_isNear_104 (by decide) ?_
        exact ih6 ls _ _ _ _ _ _ _ (lv_sub hl [2, 3, 4, 5, 6, 7, 1, 0] rfl) hf
      have hB98 : ∀ (ls : Array Slot) (x1 : Int32) (x2 : Int32) (x3 : Int32) (x4 : Int32) (x5 : Int32) (x7 : Int32), lv_has ls 9 [(0, .ref (ad 0)), (1, .int x1), (2, .int x2), (3, .int x3), (4, .int x4), (5, .int x5), (7, .int x7)] → fm_isNear_L98 F σ (fm_isNear_L6 F σ n6) x1 x2 x3 x4 x5 x7 = some r → WR p l e 1 22 s m [.ref (ad 0), .int a1, .int a2, .int a3, .int a4, .int a5] below meth c r (F0 m 98 ls []) := by
        intro ls x1 x2 x3 x4 x5 x7 hl hf
        unfold fm_isNear_L98 at hf
        refine lv_iconst (v := (0 : Int32)) C.1 C.2.1 dX10_isNear_98 (by decide) ?_
        exact hB99 ls _ _ _ _ _ _ _ (lv_sub hl [0, 1, 2, 3, 4, 5, 6] rfl) hf
      have hB94 : ∀ (ls : Array Slot) (x1 : Int32) (x2 : Int32) (x3 : Int32) (x4 : Int32) (x5 : Int32) (x7 : Int32), lv_has ls 9 [(0, .ref (ad 0)), (1, .int x1), (2, .int x2), (3, .int x3), (4, .int x4), (5, .int x5), (7, .int x7)] → fm_isNear_L94 F σ (fm_isNear_L6 F σ n6) x1 x2 x3 x4 x5 x7 = some r → WR p l e 1 22 s m [.ref (ad 0), .int a1, .int a2, .int a3, .int a4, .int a5] below meth c r (F0 m 94 ls []) := by
        intro ls x1 x2 x3 x4 x5 x7 hl hf
        unfold fm_isNear_L94 at hf
        refine lv_iconst (v := (1 : Int32)) C.1 C.2.1 dX10_isNear_94 (by decide) ?_
        refine lv_goto (tgt := 99) C.1 C.2.1 dX10_isNear_95 (by decide) ?_
        exact hB99 ls _ _ _ _ _ _ _ (lv_sub hl [0, 1, 2, 3, 4, 5, 6] rfl) hf
      have hB75 : ∀ (ls : Array Slot) (x1 : Int32) (x2 : Int32) (x3 : Int32) (x4 : Int32) (x5 : Int32) (x6 : Int32) (x7 : Int32) (s0 : Int32), lv_has ls 9 [(0, .ref (ad 0)), (1, .int x1), (2, .int x2), (3, .int x3), (4, .int x4), (5, .int x5), (6, .int x6), (7, .int x7)] → fm_isNear_L75 F σ (fm_isNear_L6 F σ n6) x1 x2 x3 x4 x5 x6 x7 s0 = some r → WR p l e 1 22 s m [.ref (ad 0), .int a1, .int a2, .int a3, .int a4, .int a5] below meth c r (F0 m 75 ls [.int s0]) := by
        intro ls x1 x2 x3 x4 x5 x6 x7 s0 hl hf
        unfold fm_isNear_L75 at hf
        refine lv_istore (lv' := [(8, .int s0), (0, .ref (ad 0)), (1, .int x1), (2, .int x2), (3, .int x3), (4, .int x4), (5, .int x5), (6, .int x6), (7, .int x7)]) C.1 C.2.1 dX10_isNear_75 hl (by decide) rfl (fun ls hl => ?_)
        refine lv_iload C.1 C.2.1 dX10_isNear_77 (lv_at hl 7 rfl) ?_
        refine lv_if_ne (tgt := 94) C.1 C.2.1 dX10_isNear_79 (by decide) (fun c79 => ?_) (fun c79 => ?_)
        · have hf := br_n c79 hf
          exact hB94 ls _ _ _ _ _ _ (lv_sub hl [1, 2, 3, 4, 5, 6, 8] rfl) hf
        · have hf := br_p c79 hf
          refine lv_iload C.1 C.2.1 dX10_isNear_82 (lv_at hl 8 rfl) ?_
          refine lv_iload C.1 C.2.1 dX10_isNear_84 (lv_at hl 6 rfl) ?_
          refine lv_icmp_eq (tgt := 98) C.1 C.2.1 dX10_isNear_86 (by decide) (fun c86 => ?_) (fun c86 => ?_)
          · have hf := br_p c86 hf
            exact hB98 ls _ _ _ _ _ _ (lv_sub hl [1, 2, 3, 4, 5, 6, 8] rfl) hf
          · have hf := br_n c86 hf
            refine lv_iload C.1 C.2.1 dX10_isNear_89 (lv_at hl 0 rfl) ?_
            refine lv_if_ne (tgt := 98) C.1 C.2.1 dX10_isNear_91 (by decide) (fun c91 => ?_) (fun c91 => ?_)
            · have hf := br_n c91 hf
              exact hB98 ls _ _ _ _ _ _ (lv_sub hl [1, 2, 3, 4, 5, 6, 8] rfl) hf
            · have hf := br_p c91 hf
              exact hB94 ls _ _ _ _ _ _ (lv_sub hl [1, 2, 3, 4, 5, 6, 8] rfl) hf
      have hB70 : ∀ (ls : Array Slot) (x1 : Int32) (x2 : Int32) (x3 : Int32) (x4 : Int32) (x5 : Int32) (x6 : Int32) (x7 : Int32), lv_has ls 9 [(0, .ref (ad 0)), (1, .int x1), (2, .int x2), (3, .int x3), (4, .int x4), (5, .int x5), (6, .int x6), (7, .int x7)] → fm_isNear_L70 F σ (fm_isNear_L6 F σ n6) x1 x2 x3 x4 x5 x6 x7 = some r → WR p l e 1 22 s m [.ref (ad 0), .int a1, .int a2, .int a3, .int a4, .int a5] below meth c r (F0 m 70 ls []) := by
        intro ls x1 x2 x3 x4 x5 x6 x7 hl hf
        unfold fm_isNear_L70 at hf
        refine lv_iconst (v := (1 : Int32)) C.1 C.2.1 dX10_isNear_70 (by decide) ?_
        refine lv_goto (tgt := 75) C.1 C.2.1 dX10_isNear_71 (by decide) ?_
        exact hB75 ls _ _ _ _ _ _ _ _ (lv_sub hl [0, 1, 2, 3, 4, 5, 6, 7] rfl) hf
      intro ls x1 x2 x3 x4 x5 x6 x7 hl hf
      have hf : fm_isNear_L6_c F σ (fm_isNear_L6 F σ n6) x1 x2 x3 x4 x5 x6 x7 = some r := hf
      unfold fm_isNear_L6_c at hf
      refine lv_iload C.1 C.2.1 dX10_isNear_6 (lv_at hl 7 rfl) ?_
      refine lv_aload_n C.1 C.2.1 dX10_isNear_8 rfl (lv_at hl 0 rfl) ?_
      refine gm_row C hK hP dX10_isNear_9 ?_
      refine lv_iconst (v := (0 : Int32)) C.1 C.2.1 dX10_isNear_12 (by decide) ?_
      obtain ⟨hi13, hf⟩ := gd_some hf
      refine lm_row C hK hP hi13 dX10_isNear_13 ?_
      refine lv_icmp_ge (tgt := 107) C.1 C.2.1 dX10_isNear_14 (by decide) (fun c14 => ?_) (fun c14 => ?_)
      · have hf := br_p c14 hf
        refine lv_iload C.1 C.2.1 dX10_isNear_107 (lv_at hl 6 rfl) ?_
        obtain ⟨hz109, hf⟩ := gd_some hf
        exact KR.zret C hr hlk hz109 (Option.some.inj hf) dX10_isNear_109
      · have hf := br_n c14 hf
        refine lv_iload_n C.1 C.2.1 dX10_isNear_17 rfl (lv_at hl 1 rfl) ?_
        refine lv_aload_n C.1 C.2.1 dX10_isNear_18 rfl (lv_at hl 0 rfl) ?_
        refine lv_iload C.1 C.2.1 dX10_isNear_19 (lv_at hl 7 rfl) ?_
        refine lv_iconst (v := (2 : Int32)) C.1 C.2.1 dX10_isNear_21 (by decide) ?_
        obtain ⟨r22, hc22, hf⟩ := bd_some hf
        refine callRV (As := [_, _]) C hK hP wv_X10_72 hl (km_side l D cA ad _ F _ _ r22 hc22) (rcM hK hP) rfl rfl rfl (Nat.le_of_ble_eq_true rfl) ⟨Nat.le_refl _, Nat.le_refl _⟩ dX10_isNear_22 ?_
        refine lv_iconst (v := (2 : Int32)) C.1 C.2.1 dX10_isNear_25 (by decide) ?_
        refine lv_iadd C.1 C.2.1 dX10_isNear_26 ?_
        refine lv_icmp_ge (tgt := 70) C.1 C.2.1 dX10_isNear_27 (by decide) (fun c27 => ?_) (fun c27 => ?_)
        · have hf := br_p c27 hf
          exact hB70 ls _ _ _ _ _ _ _ (lv_sub hl [0, 1, 2, 3, 4, 5, 6, 7] rfl) hf
        · have hf := br_n c27 hf
          refine lv_aload_n C.1 C.2.1 dX10_isNear_30 rfl (lv_at hl 0 rfl) ?_
          refine lv_iload C.1 C.2.1 dX10_isNear_31 (lv_at hl 7 rfl) ?_
          refine lv_iconst (v := (0 : Int32)) C.1 C.2.1 dX10_isNear_33 (by decide) ?_
          obtain ⟨r34, hc34, hf⟩ := bd_some hf
          refine callRV (As := [_, _]) C hK hP wv_X10_72 hl (km_side l D cA ad _ F _ _ r34 hc34) (rcM hK hP) rfl rfl rfl (Nat.le_of_ble_eq_true rfl) ⟨Nat.le_refl _, Nat.le_refl _⟩ dX10_isNear_34 ?_
          refine lv_iload_n C.1 C.2.1 dX10_isNear_37 rfl (lv_at hl 3 rfl) ?_
          refine lv_iconst (v := (2 : Int32)) C.1 C.2.1 dX10_isNear_38 (by decide) ?_
          refine lv_iadd C.1 C.2.1 dX10_isNear_39 ?_
          refine lv_icmp_ge (tgt := 70) C.1 C.2.1 dX10_isNear_40 (by decide) (fun c40 => ?_) (fun c40 => ?_)
          · have hf := br_p c40 hf
            exact hB70 ls _ _ _ _ _ _ _ (lv_sub hl [0, 1, 2, 3, 4, 5, 6, 7] rfl) hf
          · have hf := br_n c40 hf
            refine lv_iload_n C.1 C.2.1 dX10_isNear_43 rfl (lv_at hl 2 rfl) ?_
            refine lv_aload_n C.1 C.2.1 dX10_isNear_44 rfl (lv_at hl 0 rfl) ?_
            refine lv_iload C.1 C.2.1 dX10_isNear_45 (lv_at hl 7 rfl) ?_
            refine lv_iconst (v := (3 : Int32)) C.1 C.2.1 dX10_isNear_47 (by decide) ?_
            obtain ⟨r48, hc48, hf⟩ := bd_some hf
            refine callRV (As := [_, _]) C hK hP wv_X10_72 hl (km_side l D cA ad _ F _ _ r48 hc48) (rcM hK hP) rfl rfl rfl (Nat.le_of_ble_eq_true rfl) ⟨Nat.le_refl _, Nat.le_refl _⟩ dX10_isNear_48 ?_
            refine lv_iconst (v := (2 : Int32)) C.1 C.2.1 dX10_isNear_51 (by decide) ?_
            refine lv_iadd C.1 C.2.1 dX10_isNear_52 ?_
            refine lv_icmp_ge (tgt := 70) C.1 C.2.1 dX10_isNear_53 (by decide) (fun c53 => ?_) (fun c53 => ?_)
            · have hf := br_p c53 hf
              exact hB70 ls _ _ _ _ _ _ _ (lv_sub hl [0, 1, 2, 3, 4, 5, 6, 7] rfl) hf
            · have hf := br_n c53 hf
              refine lv_aload_n C.1 C.2.1 dX10_isNear_56 rfl (lv_at hl 0 rfl) ?_
              refine lv_iload C.1 C.2.1 dX10_isNear_57 (lv_at hl 7 rfl) ?_
              refine lv_iconst (v := (1 : Int32)) C.1 C.2.1 dX10_isNear_59 (by decide) ?_
              obtain ⟨r60, hc60, hf⟩ := bd_some hf
              refine callRV (As := [_, _]) C hK hP wv_X10_72 hl (km_side l D cA ad _ F _ _ r60 hc60) (rcM hK hP) rfl rfl rfl (Nat.le_of_ble_eq_true rfl) ⟨Nat.le_refl _, Nat.le_refl _⟩ dX10_isNear_60 ?_
              refine lv_iload C.1 C.2.1 dX10_isNear_63 (lv_at hl 4 rfl) ?_
              refine lv_iconst (v := (2 : Int32)) C.1 C.2.1 dX10_isNear_65 (by decide) ?_
              refine lv_iadd C.1 C.2.1 dX10_isNear_66 ?_
              refine lv_icmp_lt (tgt := 74) C.1 C.2.1 dX10_isNear_67 (by decide) (fun c67 => ?_) (fun c67 => ?_)
              · have hf := br_p c67 hf
                refine lv_iconst (v := (0 : Int32)) C.1 C.2.1 dX10_isNear_74 (by decide) ?_
                exact hB75 ls _ _ _ _ _ _ _ _ (lv_sub hl [0, 1, 2, 3, 4, 5, 6, 7] rfl) hf
              · have hf := br_n c67 hf
                exact hB70 ls _ _ _ _ _ _ _ (lv_sub hl [0, 1, 2, 3, 4, 5, 6, 7] rfl) hf
  unfold fm_isNear at hf
  refine lv_iconst (v := (0 : Int32)) C.1 C.2.1 dX10_isNear_0 (by decide) ?_
  refine lv_istore (lv' := [(6, .int (0 : Int32)), (0, .ref (ad 0)), (1, .int a1), (2, .int a2), (3, .int a3), (4, .int a4), (5, .int a5)]) C.1 C.2.1 dX10_isNear_1 hl (by decide) rfl (fun ls hl => ?_)
  refine lv_iconst (v := (0 : Int32)) C.1 C.2.1 dX10_isNear_3 (by decide) ?_
  refine lv_istore (lv' := [(7, .int (0 : Int32)), (6, .int (0 : Int32)), (0, .ref (ad 0)), (1, .int a1), (2, .int a2), (3, .int a3), (4, .int a4), (5, .int a5)]) C.1 C.2.1 dX10_isNear_4 hl (by decide) rfl (fun ls hl => ?_)
  exact hB6 F ls _ _ _ _ _ _ _ (lv_sub hl [2, 3, 4, 5, 6, 7, 1, 0] rfl) hf
def fm_lays (F : Nat) (σ : MS) (x1 : Int32) (x2 : Int32) (x3 : Int32) (x4 : Int32) (x5 : Int32) : Option (MS) :=
  gd (ix ((3 : Int32) + ((4 : Int32) * x1)) 8625 = true) (lt (st_row σ ((3 : Int32) + ((4 : Int32) * x1)) x2) (fun σ10 => gd (ix (((3 : Int32) + ((4 : Int32) * x1)) + (1 : Int32)) 8625 = true) (lt (st_row σ10 (((3 : Int32) + ((4 : Int32) * x1)) + (1 : Int32)) x3) (fun σ23 => gd (ix (((3 : Int32) + ((4 : Int32) * x1)) + (2 : Int32)) 8625 = true) (lt (st_row σ23 (((3 : Int32) + ((4 : Int32) * x1)) + (2 : Int32)) x4) (fun σ37 => gd (ix (((3 : Int32) + ((4 : Int32) * x1)) + (3 : Int32)) 8625 = true) (lt (st_row σ37 (((3 : Int32) + ((4 : Int32) * x1)) + (3 : Int32)) x5) (fun σ51 => some σ51))))))))
set_option maxHeartbeats 4000000 in
set_option maxRecDepth 100000 in
theorem km_lays (l : Launch) (D : va_G) (cA : Nat → ClassId) (ad : Nat → Nat) (σ0 : MS) (F : Nat) (a1 : Int32) (a2 : Int32) (a3 : Int32) (a4 : Int32) (a5 : Int32) (σr : MS) (hf : fm_lays F σ0 a1 a2 a3 a4 a5 = some σr) : KW l D (tyG cA) yX10_lays cX10_lays 6 none (rmk 0 0) (wM cA ad σ0) [.ref (ad 0), .int a1, .int a2, .int a3, .int a4, .int a5] none (wM cA ad σr) := by
  refine KW.of (by decide) (Nat.le_of_ble_eq_true rfl) ?_
  intro p e s m below meth c A hAe hA C hr hlk hK hP hD hS ls hl
  have hl : lv_has ls 6 [(0, .ref (ad 0)), (1, .int a1), (2, .int a2), (3, .int a3), (4, .int a4), (5, .int a5)] := hl
  unfold fm_lays at hf
  refine lv_aload_n C.1 C.2.1 dX10_lays_0 rfl (lv_at hl 0 rfl) ?_
  refine gm_row C hK hP dX10_lays_1 ?_
  refine lv_iconst (v := (3 : Int32)) C.1 C.2.1 dX10_lays_4 (by decide) ?_
  refine lv_iconst (v := (4 : Int32)) C.1 C.2.1 dX10_lays_5 (by decide) ?_
  refine lv_iload_n C.1 C.2.1 dX10_lays_6 rfl (lv_at hl 1 rfl) ?_
  refine lv_imul C.1 C.2.1 dX10_lays_7 ?_
  refine lv_iadd C.1 C.2.1 dX10_lays_8 ?_
  refine lv_iload_n C.1 C.2.1 dX10_lays_9 rfl (lv_at hl 2 rfl) ?_
  obtain ⟨hi10, hf⟩ := gd_some hf
  replace hf := lt_e hf
  refine sm_row C hK hP hD hS hi10 dX10_lays_10 (fun H locs hP hD hS => ?_)
  refine lv_aload_n C.1 C.2.1 dX10_lays_11 rfl (lv_at hl 0 rfl) ?_
  refine gm_row C hK hP dX10_lays_12 ?_
  refine lv_iconst (v := (3 : Int32)) C.1 C.2.1 dX10_lays_15 (by decide) ?_
  refine lv_iconst (v := (4 : Int32)) C.1 C.2.1 dX10_lays_16 (by decide) ?_
  refine lv_iload_n C.1 C.2.1 dX10_lays_17 rfl (lv_at hl 1 rfl) ?_
  refine lv_imul C.1 C.2.1 dX10_lays_18 ?_
  refine lv_iadd C.1 C.2.1 dX10_lays_19 ?_
  refine lv_iconst (v := (1 : Int32)) C.1 C.2.1 dX10_lays_20 (by decide) ?_
  refine lv_iadd C.1 C.2.1 dX10_lays_21 ?_
  refine lv_iload_n C.1 C.2.1 dX10_lays_22 rfl (lv_at hl 3 rfl) ?_
  obtain ⟨hi23, hf⟩ := gd_some hf
  replace hf := lt_e hf
  refine sm_row C hK hP hD hS hi23 dX10_lays_23 (fun H locs hP hD hS => ?_)
  refine lv_aload_n C.1 C.2.1 dX10_lays_24 rfl (lv_at hl 0 rfl) ?_
  refine gm_row C hK hP dX10_lays_25 ?_
  refine lv_iconst (v := (3 : Int32)) C.1 C.2.1 dX10_lays_28 (by decide) ?_
  refine lv_iconst (v := (4 : Int32)) C.1 C.2.1 dX10_lays_29 (by decide) ?_
  refine lv_iload_n C.1 C.2.1 dX10_lays_30 rfl (lv_at hl 1 rfl) ?_
  refine lv_imul C.1 C.2.1 dX10_lays_31 ?_
  refine lv_iadd C.1 C.2.1 dX10_lays_32 ?_
  refine lv_iconst (v := (2 : Int32)) C.1 C.2.1 dX10_lays_33 (by decide) ?_
  refine lv_iadd C.1 C.2.1 dX10_lays_34 ?_
  refine lv_iload C.1 C.2.1 dX10_lays_35 (lv_at hl 4 rfl) ?_
  obtain ⟨hi37, hf⟩ := gd_some hf
  replace hf := lt_e hf
  refine sm_row C hK hP hD hS hi37 dX10_lays_37 (fun H locs hP hD hS => ?_)
  refine lv_aload_n C.1 C.2.1 dX10_lays_38 rfl (lv_at hl 0 rfl) ?_
  refine gm_row C hK hP dX10_lays_39 ?_
  refine lv_iconst (v := (3 : Int32)) C.1 C.2.1 dX10_lays_42 (by decide) ?_
  refine lv_iconst (v := (4 : Int32)) C.1 C.2.1 dX10_lays_43 (by decide) ?_
  refine lv_iload_n C.1 C.2.1 dX10_lays_44 rfl (lv_at hl 1 rfl) ?_
  refine lv_imul C.1 C.2.1 dX10_lays_45 ?_
  refine lv_iadd C.1 C.2.1 dX10_lays_46 ?_
  refine lv_iconst (v := (3 : Int32)) C.1 C.2.1 dX10_lays_47 (by decide) ?_
  refine lv_iadd C.1 C.2.1 dX10_lays_48 ?_
  refine lv_iload C.1 C.2.1 dX10_lays_49 (lv_at hl 5 rfl) ?_
  obtain ⟨hi51, hf⟩ := gd_some hf
  replace hf := lt_e hf
  refine sm_row C hK hP hD hS hi51 dX10_lays_51 (fun H locs hP hD hS => ?_)
  obtain rfl := Option.some.inj hf
  exact KW.vret C hr hlk hK hAe hP hD hS rfl dX10_lays_52
def fm_addBox_L17 (F : Nat) (σ : MS) : Option (Int32 × MS) :=
  some ((-1002 : Int32), σ)
def fm_addBox (F : Nat) (σ : MS) (x1 : Int32) (x2 : Int32) (x3 : Int32) (x4 : Int32) : Option (Int32 × MS) :=
  bd (fm_isRange F x1 x3) (fun r2 => if r2 = 0 then (fm_addBox_L17 F σ) else (bd (fm_isRange F x2 x4) (fun r11 => if r11 = 0 then (fm_addBox_L17 F σ) else (bd (fm_isNear F σ x1 x2 x3 x4 (-1000 : Int32)) (fun r30 => if r30 = 0 then (gd (ix (0 : Int32) 8625 = true) (if (ms_row σ (0 : Int32).toNatClampNeg) = (8 : Int32) then (some ((-1004 : Int32), σ)) else (bd (fm_records F σ) (fun σ56 => gd (ix (0 : Int32) 8625 = true) (bd (fm_lays F σ56 (ms_row σ56 (0 : Int32).toNatClampNeg) x1 x2 x3 x4) (fun σ71 => gd (ix (0 : Int32) 8625 = true) (gd (ix (0 : Int32) 8625 = true) (lt (st_row σ71 (0 : Int32) ((ms_row σ71 (0 : Int32).toNatClampNeg) + (1 : Int32))) (fun σ83 => gd (ix (0 : Int32) 8625 = true) (some (((ms_row σ83 (0 : Int32).toNatClampNeg) - (1 : Int32)), σ83))))))))))) else (some ((-1003 : Int32), σ)))))))
set_option maxHeartbeats 4000000 in
set_option maxRecDepth 100000 in
theorem km_addBox (l : Launch) (D : va_G) (cA : Nat → ClassId) (ad : Nat → Nat) (σ0 : MS) (F : Nat) (a1 : Int32) (a2 : Int32) (a3 : Int32) (a4 : Int32) (r : Int32) (σr : MS) (hf : fm_addBox F σ0 a1 a2 a3 a4 = some (r, σr)) : KW l D (tyG cA) yX10_addBox cX10_addBox 5 (some .int) (rmk 2 50) (wM cA ad σ0) [.ref (ad 0), .int a1, .int a2, .int a3, .int a4] (some (.int r)) (wM cA ad σr) := by
  refine KW.of (by decide) (Nat.le_of_ble_eq_true rfl) ?_
  intro p e s m below meth c A hAe hA C hr hlk hK hP hD hS ls hl
  have hl : lv_has ls 5 [(0, .ref (ad 0)), (1, .int a1), (2, .int a2), (3, .int a3), (4, .int a4)] := hl
  have hB17 : ∀ (H : Heap) (locs : List Loc) (σ : MS) (ls : Array Slot), va_P D vwCl (wM cA ad σ) H → va_D A (wM cA ad σ) → va_S A s.heap H locs → lv_has ls 5 [(0, .ref (ad 0))] → fm_addBox_L17 F σ = some (r, σr) → WQ p l e 2 50 s m [.ref (ad 0), .int a1, .int a2, .int a3, .int a4] below meth c (some (.int r)) D (tyG cA) (wM cA ad σ0) (wM cA ad σr) A H locs (F0 m 17 ls []) := by
    intro H locs σ ls hP hD hS hl hf
    unfold fm_addBox_L17 at hf
    refine lv_sipush (v := (-1002 : Int32)) C.1 C.2.1 dX10_addBox_17 (by decide) ?_
    obtain ⟨rfl, rfl⟩ := Prod.mk.inj (Option.some.inj hf)
    exact KW.iret C hr hlk hK hAe hP hD hS rfl dX10_addBox_20
  unfold fm_addBox at hf
  refine lv_iload_n C.1 C.2.1 dX10_addBox_0 rfl (lv_at hl 1 rfl) ?_
  refine lv_iload_n C.1 C.2.1 dX10_addBox_1 rfl (lv_at hl 3 rfl) ?_
  obtain ⟨r2, hc2, hf⟩ := bd_some hf
  refine callRS (As := [_, _]) C hK hP wv_X10_76 hl (km_isRange l D cA _ F _ _ r2 hc2) rfl rfl rfl (Nat.le_of_ble_eq_true rfl) ⟨Nat.le_refl _, Nat.le_refl _⟩ dX10_addBox_2 ?_
  refine lv_if_eq (tgt := 17) C.1 C.2.1 dX10_addBox_5 (by decide) (fun c5 => ?_) (fun c5 => ?_)
  · have hf := br_p c5 hf
    exact hB17 _ _ _ ls hP hD hS (lv_sub hl [0] rfl) hf
  · have hf := br_n c5 hf
    refine lv_iload_n C.1 C.2.1 dX10_addBox_8 rfl (lv_at hl 2 rfl) ?_
    refine lv_iload C.1 C.2.1 dX10_addBox_9 (lv_at hl 4 rfl) ?_
    obtain ⟨r11, hc11, hf⟩ := bd_some hf
    refine callRS (As := [_, _]) C hK hP wv_X10_76 hl (km_isRange l D cA _ F _ _ r11 hc11) rfl rfl rfl (Nat.le_of_ble_eq_true rfl) ⟨Nat.le_refl _, Nat.le_refl _⟩ dX10_addBox_11 ?_
    refine lv_if_ne (tgt := 21) C.1 C.2.1 dX10_addBox_14 (by decide) (fun c14 => ?_) (fun c14 => ?_)
    · have hf := br_n c14 hf
      refine lv_aload_n C.1 C.2.1 dX10_addBox_21 rfl (lv_at hl 0 rfl) ?_
      refine lv_iload_n C.1 C.2.1 dX10_addBox_22 rfl (lv_at hl 1 rfl) ?_
      refine lv_iload_n C.1 C.2.1 dX10_addBox_23 rfl (lv_at hl 2 rfl) ?_
      refine lv_iload_n C.1 C.2.1 dX10_addBox_24 rfl (lv_at hl 3 rfl) ?_
      refine lv_iload C.1 C.2.1 dX10_addBox_25 (lv_at hl 4 rfl) ?_
      refine lv_sipush (v := (-1000 : Int32)) C.1 C.2.1 dX10_addBox_27 (by decide) ?_
      obtain ⟨r30, hc30, hf⟩ := bd_some hf
      refine callRV (As := [_, _, _, _, _]) C hK hP wv_X10_80 hl (km_isNear l D cA ad _ F _ _ _ _ _ r30 hc30) (rcM hK hP) rfl rfl rfl (Nat.le_of_ble_eq_true rfl) ⟨Nat.le_refl _, Nat.le_refl _⟩ dX10_addBox_30 ?_
      refine lv_if_eq (tgt := 40) C.1 C.2.1 dX10_addBox_33 (by decide) (fun c33 => ?_) (fun c33 => ?_)
      · have hf := br_p c33 hf
        refine lv_aload_n C.1 C.2.1 dX10_addBox_40 rfl (lv_at hl 0 rfl) ?_
        refine gm_row C hK hP dX10_addBox_41 ?_
        refine lv_iconst (v := (0 : Int32)) C.1 C.2.1 dX10_addBox_44 (by decide) ?_
        obtain ⟨hi45, hf⟩ := gd_some hf
        refine lm_row C hK hP hi45 dX10_addBox_45 ?_
        refine lv_bipush (v := (8 : Int32)) C.1 C.2.1 dX10_addBox_46 (by decide) ?_
        refine lv_icmp_ne (tgt := 55) C.1 C.2.1 dX10_addBox_48 (by decide) (fun c48 => ?_) (fun c48 => ?_)
        · have hf := br_n c48 hf
          refine lv_aload_n C.1 C.2.1 dX10_addBox_55 rfl (lv_at hl 0 rfl) ?_
          obtain ⟨σ56, hc56, hf⟩ := bd_some hf
          refine callWV (As := []) C hK hP hD hA hS wv_X10_84 hl (km_records l D cA ad _ F σ56 hc56) (rcM hK hP) rfl rfl rfl (Nat.le_of_ble_eq_true rfl) ⟨Nat.le_refl _, Nat.le_refl _⟩ dX10_addBox_56 (fun H locs hP hD hS => ?_)
          refine lv_aload_n C.1 C.2.1 dX10_addBox_59 rfl (lv_at hl 0 rfl) ?_
          refine lv_aload_n C.1 C.2.1 dX10_addBox_60 rfl (lv_at hl 0 rfl) ?_
          refine gm_row C hK hP dX10_addBox_61 ?_
          refine lv_iconst (v := (0 : Int32)) C.1 C.2.1 dX10_addBox_64 (by decide) ?_
          obtain ⟨hi65, hf⟩ := gd_some hf
          refine lm_row C hK hP hi65 dX10_addBox_65 ?_
          refine lv_iload_n C.1 C.2.1 dX10_addBox_66 rfl (lv_at hl 1 rfl) ?_
          refine lv_iload_n C.1 C.2.1 dX10_addBox_67 rfl (lv_at hl 2 rfl) ?_
          refine lv_iload_n C.1 C.2.1 dX10_addBox_68 rfl (lv_at hl 3 rfl) ?_
          refine lv_iload C.1 C.2.1 dX10_addBox_69 (lv_at hl 4 rfl) ?_
          obtain ⟨σ71, hc71, hf⟩ := bd_some hf
          refine callWV (As := [_, _, _, _, _]) C hK hP hD hA hS wv_X10_87 hl (km_lays l D cA ad _ F _ _ _ _ _ σ71 hc71) (rcM hK hP) rfl rfl rfl (Nat.le_of_ble_eq_true rfl) ⟨Nat.le_refl _, Nat.le_refl _⟩ dX10_addBox_71 (fun H locs hP hD hS => ?_)
          refine lv_aload_n C.1 C.2.1 dX10_addBox_74 rfl (lv_at hl 0 rfl) ?_
          refine gm_row C hK hP dX10_addBox_75 ?_
          refine lv_iconst (v := (0 : Int32)) C.1 C.2.1 dX10_addBox_78 (by decide) ?_
          refine lv_dup2_11 C.1 C.2.1 dX10_addBox_79 rfl rfl ?_
          obtain ⟨hi80, hf⟩ := gd_some hf
          refine lm_row C hK hP hi80 dX10_addBox_80 ?_
          refine lv_iconst (v := (1 : Int32)) C.1 C.2.1 dX10_addBox_81 (by decide) ?_
          refine lv_iadd C.1 C.2.1 dX10_addBox_82 ?_
          obtain ⟨hi83, hf⟩ := gd_some hf
          replace hf := lt_e hf
          refine sm_row C hK hP hD hS hi83 dX10_addBox_83 (fun H locs hP hD hS => ?_)
          refine lv_aload_n C.1 C.2.1 dX10_addBox_84 rfl (lv_at hl 0 rfl) ?_
          refine gm_row C hK hP dX10_addBox_85 ?_
          refine lv_iconst (v := (0 : Int32)) C.1 C.2.1 dX10_addBox_88 (by decide) ?_
          obtain ⟨hi89, hf⟩ := gd_some hf
          refine lm_row C hK hP hi89 dX10_addBox_89 ?_
          refine lv_iconst (v := (1 : Int32)) C.1 C.2.1 dX10_addBox_90 (by decide) ?_
          refine lv_isub C.1 C.2.1 dX10_addBox_91 ?_
          obtain ⟨rfl, rfl⟩ := Prod.mk.inj (Option.some.inj hf)
          exact KW.iret C hr hlk hK hAe hP hD hS rfl dX10_addBox_92
        · have hf := br_p c48 hf
          refine lv_sipush (v := (-1004 : Int32)) C.1 C.2.1 dX10_addBox_51 (by decide) ?_
          obtain ⟨rfl, rfl⟩ := Prod.mk.inj (Option.some.inj hf)
          exact KW.iret C hr hlk hK hAe hP hD hS rfl dX10_addBox_54
      · have hf := br_n c33 hf
        refine lv_sipush (v := (-1003 : Int32)) C.1 C.2.1 dX10_addBox_36 (by decide) ?_
        obtain ⟨rfl, rfl⟩ := Prod.mk.inj (Option.some.inj hf)
        exact KW.iret C hr hlk hK hAe hP hD hS rfl dX10_addBox_39
    · have hf := br_p c14 hf
      exact hB17 _ _ _ ls hP hD hS (lv_sub hl [0] rfl) hf
def fm_of (F : Nat) (σ : MS) (x1 : Int32) (x2 : Int32) : Option (Int32) :=
  gd (ix (((35 : Int32) + ((169 : Int32) * x1)) + x2) 8625 = true) (some (ms_row σ (((35 : Int32) + ((169 : Int32) * x1)) + x2).toNatClampNeg))
set_option maxHeartbeats 4000000 in
set_option maxRecDepth 100000 in
theorem km_of (l : Launch) (D : va_G) (cA : Nat → ClassId) (ad : Nat → Nat) (σ : MS) (F : Nat) (a1 : Int32) (a2 : Int32) (r : Int32) (hf : fm_of F σ a1 a2 = some r) : KR l D (tyG cA) yX10_of cX10_of 3 (some .int) (rmk 0 0) (wM cA ad σ) [.ref (ad 0), .int a1, .int a2] r := by
  refine KR.of (by decide) (Nat.le_of_ble_eq_true rfl) ?_
  intro p e s m below meth c C hr hlk hK hP ls hl
  have hl : lv_has ls 3 [(0, .ref (ad 0)), (1, .int a1), (2, .int a2)] := hl
  unfold fm_of at hf
  refine lv_aload_n C.1 C.2.1 dX10_of_0 rfl (lv_at hl 0 rfl) ?_
  refine gm_row C hK hP dX10_of_1 ?_
  refine lv_bipush (v := (35 : Int32)) C.1 C.2.1 dX10_of_4 (by decide) ?_
  refine lv_sipush (v := (169 : Int32)) C.1 C.2.1 dX10_of_6 (by decide) ?_
  refine lv_iload_n C.1 C.2.1 dX10_of_9 rfl (lv_at hl 1 rfl) ?_
  refine lv_imul C.1 C.2.1 dX10_of_10 ?_
  refine lv_iadd C.1 C.2.1 dX10_of_11 ?_
  refine lv_iload_n C.1 C.2.1 dX10_of_12 rfl (lv_at hl 2 rfl) ?_
  refine lv_iadd C.1 C.2.1 dX10_of_13 ?_
  obtain ⟨hi14, hf⟩ := gd_some hf
  refine lm_row C hK hP hi14 dX10_of_14 ?_
  exact KR.iret C hr hlk (Option.some.inj hf) dX10_of_15
def fm_hasRoute_L16 (F : Nat) (σ : MS) (s0 : Int32) : Option (Int32) :=
  gd (s0 = 0 ∨ s0 = 1) (some s0)
def fm_hasRoute (F : Nat) (σ : MS) (x1 : Int32) : Option (Int32) :=
  bd (fm_of F σ x1 (6 : Int32)) (fun r4 => if r4 = (1 : Int32) then (fm_hasRoute_L16 F σ (1 : Int32)) else (fm_hasRoute_L16 F σ (0 : Int32)))
set_option maxHeartbeats 4000000 in
set_option maxRecDepth 100000 in
theorem km_hasRoute (l : Launch) (D : va_G) (cA : Nat → ClassId) (ad : Nat → Nat) (σ : MS) (F : Nat) (a1 : Int32) (r : Int32) (hf : fm_hasRoute F σ a1 = some r) : KR l D (tyG cA) yX10_hasRoute cX10_hasRoute 2 (some .boolean) (rmk 1 22) (wM cA ad σ) [.ref (ad 0), .int a1] r := by
  refine KR.of (by decide) (Nat.le_of_ble_eq_true rfl) ?_
  intro p e s m below meth c C hr hlk hK hP ls hl
  have hl : lv_has ls 2 [(0, .ref (ad 0)), (1, .int a1)] := hl
  have hB16 : ∀ (ls : Array Slot) (s0 : Int32), lv_has ls 2 [(0, .ref (ad 0))] → fm_hasRoute_L16 F σ s0 = some r → WR p l e 1 22 s m [.ref (ad 0), .int a1] below meth c r (F0 m 16 ls [.int s0]) := by
    intro ls s0 hl hf
    unfold fm_hasRoute_L16 at hf
    obtain ⟨hz16, hf⟩ := gd_some hf
    exact KR.zret C hr hlk hz16 (Option.some.inj hf) dX10_hasRoute_16
  unfold fm_hasRoute at hf
  refine lv_aload_n C.1 C.2.1 dX10_hasRoute_0 rfl (lv_at hl 0 rfl) ?_
  refine lv_iload_n C.1 C.2.1 dX10_hasRoute_1 rfl (lv_at hl 1 rfl) ?_
  refine lv_bipush (v := (6 : Int32)) C.1 C.2.1 dX10_hasRoute_2 (by decide) ?_
  obtain ⟨r4, hc4, hf⟩ := bd_some hf
  refine callRV (As := [_, _]) C hK hP wv_X10_95 hl (km_of l D cA ad _ F _ _ r4 hc4) (rcM hK hP) rfl rfl rfl (Nat.le_of_ble_eq_true rfl) ⟨Nat.le_refl _, Nat.le_refl _⟩ dX10_hasRoute_4 ?_
  refine lv_iconst (v := (1 : Int32)) C.1 C.2.1 dX10_hasRoute_7 (by decide) ?_
  refine lv_icmp_ne (tgt := 15) C.1 C.2.1 dX10_hasRoute_8 (by decide) (fun c8 => ?_) (fun c8 => ?_)
  · have hf := br_n c8 hf
    refine lv_iconst (v := (0 : Int32)) C.1 C.2.1 dX10_hasRoute_15 (by decide) ?_
    exact hB16 ls _ (lv_sub hl [0] rfl) hf
  · have hf := br_p c8 hf
    refine lv_iconst (v := (1 : Int32)) C.1 C.2.1 dX10_hasRoute_11 (by decide) ?_
    refine lv_goto (tgt := 16) C.1 C.2.1 dX10_hasRoute_12 (by decide) ?_
    exact hB16 ls _ (lv_sub hl [0] rfl) hf
def fm_cornerX (F : Nat) (σ : MS) (x1 : Int32) (x2 : Int32) : Option (Int32) :=
  bd (fm_of F σ x1 ((9 : Int32) + ((2 : Int32) * x2))) (fun r8 => some r8)
set_option maxHeartbeats 4000000 in
set_option maxRecDepth 100000 in
theorem km_cornerX (l : Launch) (D : va_G) (cA : Nat → ClassId) (ad : Nat → Nat) (σ : MS) (F : Nat) (a1 : Int32) (a2 : Int32) (r : Int32) (hf : fm_cornerX F σ a1 a2 = some r) : KR l D (tyG cA) yX10_cornerX cX10_cornerX 3 (some .int) (rmk 1 22) (wM cA ad σ) [.ref (ad 0), .int a1, .int a2] r := by
  refine KR.of (by decide) (Nat.le_of_ble_eq_true rfl) ?_
  intro p e s m below meth c C hr hlk hK hP ls hl
  have hl : lv_has ls 3 [(0, .ref (ad 0)), (1, .int a1), (2, .int a2)] := hl
  unfold fm_cornerX at hf
  refine lv_aload_n C.1 C.2.1 dX10_cornerX_0 rfl (lv_at hl 0 rfl) ?_
  refine lv_iload_n C.1 C.2.1 dX10_cornerX_1 rfl (lv_at hl 1 rfl) ?_
  refine lv_bipush (v := (9 : Int32)) C.1 C.2.1 dX10_cornerX_2 (by decide) ?_
  refine lv_iconst (v := (2 : Int32)) C.1 C.2.1 dX10_cornerX_4 (by decide) ?_
  refine lv_iload_n C.1 C.2.1 dX10_cornerX_5 rfl (lv_at hl 2 rfl) ?_
  refine lv_imul C.1 C.2.1 dX10_cornerX_6 ?_
  refine lv_iadd C.1 C.2.1 dX10_cornerX_7 ?_
  obtain ⟨r8, hc8, hf⟩ := bd_some hf
  refine callRV (As := [_, _]) C hK hP wv_X10_95 hl (km_of l D cA ad _ F _ _ r8 hc8) (rcM hK hP) rfl rfl rfl (Nat.le_of_ble_eq_true rfl) ⟨Nat.le_refl _, Nat.le_refl _⟩ dX10_cornerX_8 ?_
  exact KR.iret C hr hlk (Option.some.inj hf) dX10_cornerX_11
def fm_portOf_L134 (F : Nat) (σ : MS) (s0 : Int32) : Option (Int32) :=
  some s0
def fm_portOf_L86 (F : Nat) (σ : MS) (s0 : Int32) : Option (Int32) :=
  some s0
def fm_portOf (F : Nat) (σ : MS) (x1 : Int32) (x2 : Int32) (x3 : Int32) (x4 : Int32) : Option (Int32) :=
  bd (fm_of F σ x1 ((3 : Int32) * x2)) (fun r5 => bd (fm_of F σ x1 (((3 : Int32) * x2) + (1 : Int32))) (fun r17 => bd (fm_of F σ x1 (((3 : Int32) * x2) + (2 : Int32))) (fun r29 => if x3 = 0 then (if r17 = 0 then (bd (fm_side F σ r5 (1 : Int32)) (fun r96 => fm_portOf_L134 F σ (r96 - x4))) else (if r17 = (2 : Int32) then (bd (fm_side F σ r5 (3 : Int32)) (fun r115 => fm_portOf_L134 F σ (r115 + x4))) else (bd (fm_side F σ r5 (1 : Int32)) (fun r128 => fm_portOf_L134 F σ (r128 + r29))))) else (if r17 = (1 : Int32) then (bd (fm_side F σ r5 (2 : Int32)) (fun r48 => fm_portOf_L86 F σ (r48 + x4))) else (if r17 = (3 : Int32) then (bd (fm_side F σ r5 (0 : Int32)) (fun r67 => fm_portOf_L86 F σ (r67 - x4))) else (bd (fm_side F σ r5 (0 : Int32)) (fun r80 => fm_portOf_L86 F σ (r80 + r29))))))))
set_option maxHeartbeats 4000000 in
set_option maxRecDepth 100000 in
theorem km_portOf (l : Launch) (D : va_G) (cA : Nat → ClassId) (ad : Nat → Nat) (σ : MS) (F : Nat) (a1 : Int32) (a2 : Int32) (a3 : Int32) (a4 : Int32) (r : Int32) (hf : fm_portOf F σ a1 a2 a3 a4 = some r) : KR l D (tyG cA) yX10_portOf cX10_portOf 8 (some .int) (rmk 1 22) (wM cA ad σ) [.ref (ad 0), .int a1, .int a2, .int a3, .int a4] r := by
  refine KR.of (by decide) (Nat.le_of_ble_eq_true rfl) ?_
  intro p e s m below meth c C hr hlk hK hP ls hl
  have hl : lv_has ls 8 [(0, .ref (ad 0)), (1, .int a1), (2, .int a2), (3, .int a3), (4, .int a4)] := hl
  have hB134 : ∀ (ls : Array Slot) (s0 : Int32), lv_has ls 8 [(0, .ref (ad 0))] → fm_portOf_L134 F σ s0 = some r → WR p l e 1 22 s m [.ref (ad 0), .int a1, .int a2, .int a3, .int a4] below meth c r (F0 m 134 ls [.int s0]) := by
    intro ls s0 hl hf
    unfold fm_portOf_L134 at hf
    exact KR.iret C hr hlk (Option.some.inj hf) dX10_portOf_134
  have hB86 : ∀ (ls : Array Slot) (s0 : Int32), lv_has ls 8 [(0, .ref (ad 0))] → fm_portOf_L86 F σ s0 = some r → WR p l e 1 22 s m [.ref (ad 0), .int a1, .int a2, .int a3, .int a4] below meth c r (F0 m 86 ls [.int s0]) := by
    intro ls s0 hl hf
    unfold fm_portOf_L86 at hf
    exact KR.iret C hr hlk (Option.some.inj hf) dX10_portOf_86
  unfold fm_portOf at hf
  refine lv_aload_n C.1 C.2.1 dX10_portOf_0 rfl (lv_at hl 0 rfl) ?_
  refine lv_iload_n C.1 C.2.1 dX10_portOf_1 rfl (lv_at hl 1 rfl) ?_
  refine lv_iconst (v := (3 : Int32)) C.1 C.2.1 dX10_portOf_2 (by decide) ?_
  refine lv_iload_n C.1 C.2.1 dX10_portOf_3 rfl (lv_at hl 2 rfl) ?_
  refine lv_imul C.1 C.2.1 dX10_portOf_4 ?_
  obtain ⟨r5, hc5, hf⟩ := bd_some hf
  refine callRV (As := [_, _]) C hK hP wv_X10_95 hl (km_of l D cA ad _ F _ _ r5 hc5) (rcM hK hP) rfl rfl rfl (Nat.le_of_ble_eq_true rfl) ⟨Nat.le_refl _, Nat.le_refl _⟩ dX10_portOf_5 ?_
  refine lv_istore (lv' := [(5, .int r5), (0, .ref (ad 0)), (1, .int a1), (2, .int a2), (3, .int a3), (4, .int a4)]) C.1 C.2.1 dX10_portOf_8 hl (by decide) rfl (fun ls hl => ?_)
  refine lv_aload_n C.1 C.2.1 dX10_portOf_10 rfl (lv_at hl 1 rfl) ?_
  refine lv_iload_n C.1 C.2.1 dX10_portOf_11 rfl (lv_at hl 2 rfl) ?_
  refine lv_iconst (v := (3 : Int32)) C.1 C.2.1 dX10_portOf_12 (by decide) ?_
  refine lv_iload_n C.1 C.2.1 dX10_portOf_13 rfl (lv_at hl 3 rfl) ?_
  refine lv_imul C.1 C.2.1 dX10_portOf_14 ?_
  refine lv_iconst (v := (1 : Int32)) C.1 C.2.1 dX10_portOf_15 (by decide) ?_
  refine lv_iadd C.1 C.2.1 dX10_portOf_16 ?_
  obtain ⟨r17, hc17, hf⟩ := bd_some hf
  refine callRV (As := [_, _]) C hK hP wv_X10_95 hl (km_of l D cA ad _ F _ _ r17 hc17) (rcM hK hP) rfl rfl rfl (Nat.le_of_ble_eq_true rfl) ⟨Nat.le_refl _, Nat.le_refl _⟩ dX10_portOf_17 ?_
  refine lv_istore (lv' := [(6, .int r17), (5, .int r5), (0, .ref (ad 0)), (1, .int a1), (2, .int a2), (3, .int a3), (4, .int a4)]) C.1 C.2.1 dX10_portOf_20 hl (by decide) rfl (fun ls hl => ?_)
  refine lv_aload_n C.1 C.2.1 dX10_portOf_22 rfl (lv_at hl 2 rfl) ?_
  refine lv_iload_n C.1 C.2.1 dX10_portOf_23 rfl (lv_at hl 3 rfl) ?_
  refine lv_iconst (v := (3 : Int32)) C.1 C.2.1 dX10_portOf_24 (by decide) ?_
  refine lv_iload_n C.1 C.2.1 dX10_portOf_25 rfl (lv_at hl 4 rfl) ?_
  refine lv_imul C.1 C.2.1 dX10_portOf_26 ?_
  refine lv_iconst (v := (2 : Int32)) C.1 C.2.1 dX10_portOf_27 (by decide) ?_
  refine lv_iadd C.1 C.2.1 dX10_portOf_28 ?_
  obtain ⟨r29, hc29, hf⟩ := bd_some hf
  refine callRV (As := [_, _]) C hK hP wv_X10_95 hl (km_of l D cA ad _ F _ _ r29 hc29) (rcM hK hP) rfl rfl rfl (Nat.le_of_ble_eq_true rfl) ⟨Nat.le_refl _, Nat.le_refl _⟩ dX10_portOf_29 ?_
  refine lv_istore (lv' := [(7, .int r29), (6, .int r17), (5, .int r5), (0, .ref (ad 0)), (1, .int a1), (2, .int a2), (3, .int a3), (4, .int a4)]) C.1 C.2.1 dX10_portOf_32 hl (by decide) rfl (fun ls hl => ?_)
  refine lv_iload_n C.1 C.2.1 dX10_portOf_34 rfl (lv_at hl 6 rfl) ?_
  refine lv_if_eq (tgt := 87) C.1 C.2.1 dX10_portOf_35 (by decide) (fun c35 => ?_) (fun c35 => ?_)
  · have hf := br_p c35 hf
    refine lv_iload C.1 C.2.1 dX10_portOf_87 (lv_at hl 1 rfl) ?_
    refine lv_if_ne (tgt := 105) C.1 C.2.1 dX10_portOf_89 (by decide) (fun c89 => ?_) (fun c89 => ?_)
    · have hf := br_n c89 hf
      refine lv_iload C.1 C.2.1 dX10_portOf_105 (lv_at hl 1 rfl) ?_
      refine lv_iconst (v := (2 : Int32)) C.1 C.2.1 dX10_portOf_107 (by decide) ?_
      refine lv_icmp_ne (tgt := 124) C.1 C.2.1 dX10_portOf_108 (by decide) (fun c108 => ?_) (fun c108 => ?_)
      · have hf := br_n c108 hf
        refine lv_aload_n C.1 C.2.1 dX10_portOf_124 rfl (lv_at hl 3 rfl) ?_
        refine lv_iload C.1 C.2.1 dX10_portOf_125 (lv_at hl 2 rfl) ?_
        refine lv_iconst (v := (1 : Int32)) C.1 C.2.1 dX10_portOf_127 (by decide) ?_
        obtain ⟨r128, hc128, hf⟩ := bd_some hf
        refine callRV (As := [_, _]) C hK hP wv_X10_72 hl (km_side l D cA ad _ F _ _ r128 hc128) (rcM hK hP) rfl rfl rfl (Nat.le_of_ble_eq_true rfl) ⟨Nat.le_refl _, Nat.le_refl _⟩ dX10_portOf_128 ?_
        refine lv_iload C.1 C.2.1 dX10_portOf_131 (lv_at hl 0 rfl) ?_
        refine lv_iadd C.1 C.2.1 dX10_portOf_133 ?_
        exact hB134 ls _ (lv_sub hl [3] rfl) hf
      · have hf := br_p c108 hf
        refine lv_aload_n C.1 C.2.1 dX10_portOf_111 rfl (lv_at hl 3 rfl) ?_
        refine lv_iload C.1 C.2.1 dX10_portOf_112 (lv_at hl 2 rfl) ?_
        refine lv_iconst (v := (3 : Int32)) C.1 C.2.1 dX10_portOf_114 (by decide) ?_
        obtain ⟨r115, hc115, hf⟩ := bd_some hf
        refine callRV (As := [_, _]) C hK hP wv_X10_72 hl (km_side l D cA ad _ F _ _ r115 hc115) (rcM hK hP) rfl rfl rfl (Nat.le_of_ble_eq_true rfl) ⟨Nat.le_refl _, Nat.le_refl _⟩ dX10_portOf_115 ?_
        refine lv_iload C.1 C.2.1 dX10_portOf_118 (lv_at hl 7 rfl) ?_
        refine lv_iadd C.1 C.2.1 dX10_portOf_120 ?_
        refine lv_goto (tgt := 134) C.1 C.2.1 dX10_portOf_121 (by decide) ?_
        exact hB134 ls _ (lv_sub hl [3] rfl) hf
    · have hf := br_p c89 hf
      refine lv_aload_n C.1 C.2.1 dX10_portOf_92 rfl (lv_at hl 3 rfl) ?_
      refine lv_iload C.1 C.2.1 dX10_portOf_93 (lv_at hl 2 rfl) ?_
      refine lv_iconst (v := (1 : Int32)) C.1 C.2.1 dX10_portOf_95 (by decide) ?_
      obtain ⟨r96, hc96, hf⟩ := bd_some hf
      refine callRV (As := [_, _]) C hK hP wv_X10_72 hl (km_side l D cA ad _ F _ _ r96 hc96) (rcM hK hP) rfl rfl rfl (Nat.le_of_ble_eq_true rfl) ⟨Nat.le_refl _, Nat.le_refl _⟩ dX10_portOf_96 ?_
      refine lv_iload C.1 C.2.1 dX10_portOf_99 (lv_at hl 7 rfl) ?_
      refine lv_isub C.1 C.2.1 dX10_portOf_101 ?_
      refine lv_goto (tgt := 134) C.1 C.2.1 dX10_portOf_102 (by decide) ?_
      exact hB134 ls _ (lv_sub hl [3] rfl) hf
  · have hf := br_n c35 hf
    refine lv_iload C.1 C.2.1 dX10_portOf_38 (lv_at hl 1 rfl) ?_
    refine lv_iconst (v := (1 : Int32)) C.1 C.2.1 dX10_portOf_40 (by decide) ?_
    refine lv_icmp_ne (tgt := 57) C.1 C.2.1 dX10_portOf_41 (by decide) (fun c41 => ?_) (fun c41 => ?_)
    · have hf := br_n c41 hf
      refine lv_iload C.1 C.2.1 dX10_portOf_57 (lv_at hl 1 rfl) ?_
      refine lv_iconst (v := (3 : Int32)) C.1 C.2.1 dX10_portOf_59 (by decide) ?_
      refine lv_icmp_ne (tgt := 76) C.1 C.2.1 dX10_portOf_60 (by decide) (fun c60 => ?_) (fun c60 => ?_)
      · have hf := br_n c60 hf
        refine lv_aload_n C.1 C.2.1 dX10_portOf_76 rfl (lv_at hl 3 rfl) ?_
        refine lv_iload C.1 C.2.1 dX10_portOf_77 (lv_at hl 2 rfl) ?_
        refine lv_iconst (v := (0 : Int32)) C.1 C.2.1 dX10_portOf_79 (by decide) ?_
        obtain ⟨r80, hc80, hf⟩ := bd_some hf
        refine callRV (As := [_, _]) C hK hP wv_X10_72 hl (km_side l D cA ad _ F _ _ r80 hc80) (rcM hK hP) rfl rfl rfl (Nat.le_of_ble_eq_true rfl) ⟨Nat.le_refl _, Nat.le_refl _⟩ dX10_portOf_80 ?_
        refine lv_iload C.1 C.2.1 dX10_portOf_83 (lv_at hl 0 rfl) ?_
        refine lv_iadd C.1 C.2.1 dX10_portOf_85 ?_
        exact hB86 ls _ (lv_sub hl [3] rfl) hf
      · have hf := br_p c60 hf
        refine lv_aload_n C.1 C.2.1 dX10_portOf_63 rfl (lv_at hl 3 rfl) ?_
        refine lv_iload C.1 C.2.1 dX10_portOf_64 (lv_at hl 2 rfl) ?_
        refine lv_iconst (v := (0 : Int32)) C.1 C.2.1 dX10_portOf_66 (by decide) ?_
        obtain ⟨r67, hc67, hf⟩ := bd_some hf
        refine callRV (As := [_, _]) C hK hP wv_X10_72 hl (km_side l D cA ad _ F _ _ r67 hc67) (rcM hK hP) rfl rfl rfl (Nat.le_of_ble_eq_true rfl) ⟨Nat.le_refl _, Nat.le_refl _⟩ dX10_portOf_67 ?_
        refine lv_iload C.1 C.2.1 dX10_portOf_70 (lv_at hl 7 rfl) ?_
        refine lv_isub C.1 C.2.1 dX10_portOf_72 ?_
        refine lv_goto (tgt := 86) C.1 C.2.1 dX10_portOf_73 (by decide) ?_
        exact hB86 ls _ (lv_sub hl [3] rfl) hf
    · have hf := br_p c41 hf
      refine lv_aload_n C.1 C.2.1 dX10_portOf_44 rfl (lv_at hl 3 rfl) ?_
      refine lv_iload C.1 C.2.1 dX10_portOf_45 (lv_at hl 2 rfl) ?_
      refine lv_iconst (v := (2 : Int32)) C.1 C.2.1 dX10_portOf_47 (by decide) ?_
      obtain ⟨r48, hc48, hf⟩ := bd_some hf
      refine callRV (As := [_, _]) C hK hP wv_X10_72 hl (km_side l D cA ad _ F _ _ r48 hc48) (rcM hK hP) rfl rfl rfl (Nat.le_of_ble_eq_true rfl) ⟨Nat.le_refl _, Nat.le_refl _⟩ dX10_portOf_48 ?_
      refine lv_iload C.1 C.2.1 dX10_portOf_51 (lv_at hl 7 rfl) ?_
      refine lv_iadd C.1 C.2.1 dX10_portOf_53 ?_
      refine lv_goto (tgt := 86) C.1 C.2.1 dX10_portOf_54 (by decide) ?_
      exact hB86 ls _ (lv_sub hl [3] rfl) hf
def fm_cornerY (F : Nat) (σ : MS) (x1 : Int32) (x2 : Int32) : Option (Int32) :=
  bd (fm_of F σ x1 ((10 : Int32) + ((2 : Int32) * x2))) (fun r8 => some r8)
set_option maxHeartbeats 4000000 in
set_option maxRecDepth 100000 in
theorem km_cornerY (l : Launch) (D : va_G) (cA : Nat → ClassId) (ad : Nat → Nat) (σ : MS) (F : Nat) (a1 : Int32) (a2 : Int32) (r : Int32) (hf : fm_cornerY F σ a1 a2 = some r) : KR l D (tyG cA) yX10_cornerY cX10_cornerY 3 (some .int) (rmk 1 22) (wM cA ad σ) [.ref (ad 0), .int a1, .int a2] r := by
  refine KR.of (by decide) (Nat.le_of_ble_eq_true rfl) ?_
  intro p e s m below meth c C hr hlk hK hP ls hl
  have hl : lv_has ls 3 [(0, .ref (ad 0)), (1, .int a1), (2, .int a2)] := hl
  unfold fm_cornerY at hf
  refine lv_aload_n C.1 C.2.1 dX10_cornerY_0 rfl (lv_at hl 0 rfl) ?_
  refine lv_iload_n C.1 C.2.1 dX10_cornerY_1 rfl (lv_at hl 1 rfl) ?_
  refine lv_bipush (v := (10 : Int32)) C.1 C.2.1 dX10_cornerY_2 (by decide) ?_
  refine lv_iconst (v := (2 : Int32)) C.1 C.2.1 dX10_cornerY_4 (by decide) ?_
  refine lv_iload_n C.1 C.2.1 dX10_cornerY_5 rfl (lv_at hl 2 rfl) ?_
  refine lv_imul C.1 C.2.1 dX10_cornerY_6 ?_
  refine lv_iadd C.1 C.2.1 dX10_cornerY_7 ?_
  obtain ⟨r8, hc8, hf⟩ := bd_some hf
  refine callRV (As := [_, _]) C hK hP wv_X10_95 hl (km_of l D cA ad _ F _ _ r8 hc8) (rcM hK hP) rfl rfl rfl (Nat.le_of_ble_eq_true rfl) ⟨Nat.le_refl _, Nat.le_refl _⟩ dX10_cornerY_8 ?_
  exact KR.iret C hr hlk (Option.some.inj hf) dX10_cornerY_11
def fm_sign_L17 (F : Nat) (s0 : Int32) : Option (Int32) :=
  some s0
def fm_sign (F : Nat) (x0 : Int32) : Option (Int32) :=
  if x0 ≤ 0 then (if 0 ≤ x0 then (fm_sign_L17 F (0 : Int32)) else (fm_sign_L17 F (-1 : Int32))) else (fm_sign_L17 F (1 : Int32))
set_option maxHeartbeats 4000000 in
set_option maxRecDepth 100000 in
theorem km_sign (l : Launch) (D : va_G) (cA : Nat → ClassId) (w : va_W) (F : Nat) (a0 : Int32) (r : Int32) (hf : fm_sign F a0 = some r) : KR l D (tyG cA) yX10_sign cX10_sign 1 (some .int) (rmk 0 0) w [.int a0] r := by
  refine KR.of (by decide) (Nat.le_of_ble_eq_true rfl) ?_
  intro p e s m below meth c C hr hlk hK hP ls hl
  have hl : lv_has ls 1 [(0, .int a0)] := hl
  have hB17 : ∀ (ls : Array Slot) (s0 : Int32), lv_has ls 1 [] → fm_sign_L17 F s0 = some r → WR p l e 0 0 s m [.int a0] below meth c r (F0 m 17 ls [.int s0]) := by
    intro ls s0 hl hf
    unfold fm_sign_L17 at hf
    exact KR.iret C hr hlk (Option.some.inj hf) dX10_sign_17
  unfold fm_sign at hf
  refine lv_iload_n C.1 C.2.1 dX10_sign_0 rfl (lv_at hl 0 rfl) ?_
  refine lv_if_le (tgt := 8) C.1 C.2.1 dX10_sign_1 (by decide) (fun c1 => ?_) (fun c1 => ?_)
  · have hf := br_p c1 hf
    refine lv_iload_n C.1 C.2.1 dX10_sign_8 rfl (lv_at hl 0 rfl) ?_
    refine lv_if_ge (tgt := 16) C.1 C.2.1 dX10_sign_9 (by decide) (fun c9 => ?_) (fun c9 => ?_)
    · have hf := br_p c9 hf
      refine lv_iconst (v := (0 : Int32)) C.1 C.2.1 dX10_sign_16 (by decide) ?_
      exact hB17 ls _ (lv_sub hl [] rfl) hf
    · have hf := br_n c9 hf
      refine lv_iconst (v := (-1 : Int32)) C.1 C.2.1 dX10_sign_12 (by decide) ?_
      refine lv_goto (tgt := 17) C.1 C.2.1 dX10_sign_13 (by decide) ?_
      exact hB17 ls _ (lv_sub hl [] rfl) hf
  · have hf := br_n c1 hf
    refine lv_iconst (v := (1 : Int32)) C.1 C.2.1 dX10_sign_4 (by decide) ?_
    refine lv_goto (tgt := 17) C.1 C.2.1 dX10_sign_5 (by decide) ?_
    exact hB17 ls _ (lv_sub hl [] rfl) hf
def fm_blockerOf_L52 (F : Nat) (σ : MS) (k2 : Int32 → Int32 → Int32 → Option (Int32)) (x1 : Int32) (x2 : Int32) (x3 : Int32) : Option (Int32) :=
  lt (x3 + (1 : Int32)) (fun x3_52 => k2 x1 x2 x3_52)
def fm_blockerOf_L2_c (F : Nat) (σ : MS) (k2 : Int32 → Int32 → Int32 → Option (Int32)) (x1 : Int32) (x2 : Int32) (x3 : Int32) : Option (Int32) :=
  gd (ix (0 : Int32) 8625 = true) (if (ms_row σ (0 : Int32).toNatClampNeg) ≤ x3 then (some (-1000 : Int32)) else (bd (fm_side F σ x3 (0 : Int32)) (fun r16 => bd (fm_side F σ x3 (2 : Int32)) (fun r22 => bd (fm_in F x1 r16 r22) (fun r25 => if r25 = 0 then (fm_blockerOf_L52 F σ k2 x1 x2 x3) else (bd (fm_side F σ x3 (1 : Int32)) (fun r35 => bd (fm_side F σ x3 (3 : Int32)) (fun r41 => bd (fm_in F x2 r35 r41) (fun r44 => if r44 = 0 then (fm_blockerOf_L52 F σ k2 x1 x2 x3) else (some x3))))))))))
def fm_blockerOf_L2 (F : Nat) (σ : MS) (n : Nat) (x1 : Int32) (x2 : Int32) (x3 : Int32) : Option (Int32) := lpN (fun (k : Int32 × Int32 × Int32 → Option (Int32)) a => fm_blockerOf_L2_c F σ (fun x1 x2 x3 => k (x1, x2, x3)) a.1 a.2.1 a.2.2) n (x1, x2, x3)
def fm_blockerOf (F : Nat) (σ : MS) (x1 : Int32) (x2 : Int32) : Option (Int32) :=
  fm_blockerOf_L2 F σ F x1 x2 (0 : Int32)
set_option maxHeartbeats 4000000 in
set_option maxRecDepth 100000 in
theorem km_blockerOf (l : Launch) (D : va_G) (cA : Nat → ClassId) (ad : Nat → Nat) (σ : MS) (F : Nat) (a1 : Int32) (a2 : Int32) (r : Int32) (hf : fm_blockerOf F σ a1 a2 = some r) : KR l D (tyG cA) yX10_blockerOf cX10_blockerOf 4 (some .int) (rmk 1 22) (wM cA ad σ) [.ref (ad 0), .int a1, .int a2] r := by
  refine KR.of (by decide) (Nat.le_of_ble_eq_true rfl) ?_
  intro p e s m below meth c C hr hlk hK hP ls hl
  have hl : lv_has ls 4 [(0, .ref (ad 0)), (1, .int a1), (2, .int a2)] := hl
  have hB2 : ∀ (n2 : Nat) (ls : Array Slot) (x1 : Int32) (x2 : Int32) (x3 : Int32), lv_has ls 4 [(0, .ref (ad 0)), (1, .int x1), (2, .int x2), (3, .int x3)] → fm_blockerOf_L2 F σ n2 x1 x2 x3 = some r → WR p l e 1 22 s m [.ref (ad 0), .int a1, .int a2] below meth c r (F0 m 2 ls []) := by
    intro n2
    induction n2 with
    | zero =>
      intro ls x1 x2 x3 hl hf
      cases (show (none : Option _) = _ from hf)
    | succ n2 ih2 =>
      have hB52 : ∀ (ls : Array Slot) (x1 : Int32) (x2 : Int32) (x3 : Int32), lv_has ls 4 [(0, .ref (ad 0)), (1, .int x1), (2, .int x2), (3, .int x3)] → fm_blockerOf_L52 F σ (fm_blockerOf_L2 F σ n2) x1 x2 x3 = some r → WR p l e 1 22 s m [.ref (ad 0), .int a1, .int a2] below meth c r (F0 m 52 ls []) := by
        intro ls x1 x2 x3 hl hf
        unfold fm_blockerOf_L52 at hf
        obtain ⟨x3_52, ex3_52, hf⟩ := lt_some hf
        refine lv_iinc (v := x3_52) (lv' := [(3, .int x3_52), (0, .ref (ad 0)), (1, .int x1), (2, .int x2)]) C.1 C.2.1 dX10_blockerOf_52 hl (k := 3) rfl (by rw [ex3_52]; rfl) (by decide) rfl (fun ls hl => ?_)
        refine lv_goto (tgt := 2) C.1 C.2.1 dX10_blockerOf_55 (by decide) ?_
        exact ih2 ls _ _ _ (lv_sub hl [1, 2, 3, 0] rfl) hf
      intro ls x1 x2 x3 hl hf
      have hf : fm_blockerOf_L2_c F σ (fm_blockerOf_L2 F σ n2) x1 x2 x3 = some r := hf
      unfold fm_blockerOf_L2_c at hf
      refine lv_iload_n C.1 C.2.1 dX10_blockerOf_2 rfl (lv_at hl 3 rfl) ?_
      refine lv_aload_n C.1 C.2.1 dX10_blockerOf_3 rfl (lv_at hl 0 rfl) ?_
      refine gm_row C hK hP dX10_blockerOf_4 ?_
      refine lv_iconst (v := (0 : Int32)) C.1 C.2.1 dX10_blockerOf_7 (by decide) ?_
      obtain ⟨hi8, hf⟩ := gd_some hf
      refine lm_row C hK hP hi8 dX10_blockerOf_8 ?_
      refine lv_icmp_ge (tgt := 58) C.1 C.2.1 dX10_blockerOf_9 (by decide) (fun c9 => ?_) (fun c9 => ?_)
      · have hf := br_p c9 hf
        refine lv_sipush (v := (-1000 : Int32)) C.1 C.2.1 dX10_blockerOf_58 (by decide) ?_
        exact KR.iret C hr hlk (Option.some.inj hf) dX10_blockerOf_61
      · have hf := br_n c9 hf
        refine lv_iload_n C.1 C.2.1 dX10_blockerOf_12 rfl (lv_at hl 1 rfl) ?_
        refine lv_aload_n C.1 C.2.1 dX10_blockerOf_13 rfl (lv_at hl 0 rfl) ?_
        refine lv_iload_n C.1 C.2.1 dX10_blockerOf_14 rfl (lv_at hl 3 rfl) ?_
        refine lv_iconst (v := (0 : Int32)) C.1 C.2.1 dX10_blockerOf_15 (by decide) ?_
        obtain ⟨r16, hc16, hf⟩ := bd_some hf
        refine callRV (As := [_, _]) C hK hP wv_X10_72 hl (km_side l D cA ad _ F _ _ r16 hc16) (rcM hK hP) rfl rfl rfl (Nat.le_of_ble_eq_true rfl) ⟨Nat.le_refl _, Nat.le_refl _⟩ dX10_blockerOf_16 ?_
        refine lv_aload_n C.1 C.2.1 dX10_blockerOf_19 rfl (lv_at hl 0 rfl) ?_
        refine lv_iload_n C.1 C.2.1 dX10_blockerOf_20 rfl (lv_at hl 3 rfl) ?_
        refine lv_iconst (v := (2 : Int32)) C.1 C.2.1 dX10_blockerOf_21 (by decide) ?_
        obtain ⟨r22, hc22, hf⟩ := bd_some hf
        refine callRV (As := [_, _]) C hK hP wv_X10_72 hl (km_side l D cA ad _ F _ _ r22 hc22) (rcM hK hP) rfl rfl rfl (Nat.le_of_ble_eq_true rfl) ⟨Nat.le_refl _, Nat.le_refl _⟩ dX10_blockerOf_22 ?_
        obtain ⟨r25, hc25, hf⟩ := bd_some hf
        refine callRS (As := [_, _, _]) C hK hP wv_X10_68 hl (km_in l D cA _ F _ _ _ r25 hc25) rfl rfl rfl (Nat.le_of_ble_eq_true rfl) ⟨Nat.le_refl _, Nat.le_refl _⟩ dX10_blockerOf_25 ?_
        refine lv_if_eq (tgt := 52) C.1 C.2.1 dX10_blockerOf_28 (by decide) (fun c28 => ?_) (fun c28 => ?_)
        · have hf := br_p c28 hf
          exact hB52 ls _ _ _ (lv_sub hl [0, 1, 2, 3] rfl) hf
        · have hf := br_n c28 hf
          refine lv_iload_n C.1 C.2.1 dX10_blockerOf_31 rfl (lv_at hl 2 rfl) ?_
          refine lv_aload_n C.1 C.2.1 dX10_blockerOf_32 rfl (lv_at hl 0 rfl) ?_
          refine lv_iload_n C.1 C.2.1 dX10_blockerOf_33 rfl (lv_at hl 3 rfl) ?_
          refine lv_iconst (v := (1 : Int32)) C.1 C.2.1 dX10_blockerOf_34 (by decide) ?_
          obtain ⟨r35, hc35, hf⟩ := bd_some hf
          refine callRV (As := [_, _]) C hK hP wv_X10_72 hl (km_side l D cA ad _ F _ _ r35 hc35) (rcM hK hP) rfl rfl rfl (Nat.le_of_ble_eq_true rfl) ⟨Nat.le_refl _, Nat.le_refl _⟩ dX10_blockerOf_35 ?_
          refine lv_aload_n C.1 C.2.1 dX10_blockerOf_38 rfl (lv_at hl 0 rfl) ?_
          refine lv_iload_n C.1 C.2.1 dX10_blockerOf_39 rfl (lv_at hl 3 rfl) ?_
          refine lv_iconst (v := (3 : Int32)) C.1 C.2.1 dX10_blockerOf_40 (by decide) ?_
          obtain ⟨r41, hc41, hf⟩ := bd_some hf
          refine callRV (As := [_, _]) C hK hP wv_X10_72 hl (km_side l D cA ad _ F _ _ r41 hc41) (rcM hK hP) rfl rfl rfl (Nat.le_of_ble_eq_true rfl) ⟨Nat.le_refl _, Nat.le_refl _⟩ dX10_blockerOf_41 ?_
          obtain ⟨r44, hc44, hf⟩ := bd_some hf
          refine callRS (As := [_, _, _]) C hK hP wv_X10_68 hl (km_in l D cA _ F _ _ _ r44 hc44) rfl rfl rfl (Nat.le_of_ble_eq_true rfl) ⟨Nat.le_refl _, Nat.le_refl _⟩ dX10_blockerOf_44 ?_
          refine lv_if_eq (tgt := 52) C.1 C.2.1 dX10_blockerOf_47 (by decide) (fun c47 => ?_) (fun c47 => ?_)
          · have hf := br_p c47 hf
            exact hB52 ls _ _ _ (lv_sub hl [0, 1, 2, 3] rfl) hf
          · have hf := br_n c47 hf
            refine lv_iload_n C.1 C.2.1 dX10_blockerOf_50 rfl (lv_at hl 3 rfl) ?_
            exact KR.iret C hr hlk (Option.some.inj hf) dX10_blockerOf_51
  unfold fm_blockerOf at hf
  refine lv_iconst (v := (0 : Int32)) C.1 C.2.1 dX10_blockerOf_0 (by decide) ?_
  refine lv_istore_n (lv' := [(3, .int (0 : Int32)), (0, .ref (ad 0)), (1, .int a1), (2, .int a2)]) C.1 C.2.1 dX10_blockerOf_1 rfl hl (by decide) rfl (fun ls hl => ?_)
  exact hB2 F ls _ _ _ (lv_sub hl [1, 2, 3, 0] rfl) hf
def fm_isTouched_L254 (F : Nat) (σ : MS) (x3 : Int32) : Option (Int32) :=
  gd (x3 = 0 ∨ x3 = 1) (some x3)
def fm_isTouched_L248 (F : Nat) (σ : MS) (k97 : Int32 → Int32 → Int32 → Int32 → Option (Int32)) (x1 : Int32) (x2 : Int32) (x3 : Int32) (x4 : Int32) : Option (Int32) :=
  lt (x4 + (1 : Int32)) (fun x4_248 => k97 x1 x2 x3 x4_248)
def fm_isTouched_L227 (F : Nat) (σ : MS) (k97 : Int32 → Int32 → Int32 → Int32 → Option (Int32)) (k171 : Int32 → Int32 → Int32 → Int32 → Int32 → Int32 → Int32 → Int32 → Int32 → Option (Int32)) (x1 : Int32) (x2 : Int32) (x4 : Int32) (x5 : Int32) (x6 : Int32) (x7 : Int32) (x8 : Int32) (s0 : Int32) : Option (Int32) :=
  lt (x5 + x7) (fun x5_236 => lt (x6 + x8) (fun x6_243 => k171 x1 x2 s0 x4 x5_236 x6_243 x7 x8 (0 : Int32)))
def fm_isTouched_L226 (F : Nat) (σ : MS) (k97 : Int32 → Int32 → Int32 → Int32 → Option (Int32)) (k171 : Int32 → Int32 → Int32 → Int32 → Int32 → Int32 → Int32 → Int32 → Int32 → Option (Int32)) (x1 : Int32) (x2 : Int32) (x4 : Int32) (x5 : Int32) (x6 : Int32) (x7 : Int32) (x8 : Int32) : Option (Int32) :=
  fm_isTouched_L227 F σ k97 k171 x1 x2 x4 x5 x6 x7 x8 (0 : Int32)
def fm_isTouched_L203 (F : Nat) (σ : MS) (k97 : Int32 → Int32 → Int32 → Int32 → Option (Int32)) (k171 : Int32 → Int32 → Int32 → Int32 → Int32 → Int32 → Int32 → Int32 → Int32 → Option (Int32)) (x1 : Int32) (x2 : Int32) (x4 : Int32) (x5 : Int32) (x6 : Int32) (x7 : Int32) (x8 : Int32) (x9 : Int32) : Option (Int32) :=
  if x9 = 0 then (bd (fm_blockerOf F σ x5 x6) (fun r213 => if r213 = (-1000 : Int32) then (fm_isTouched_L226 F σ k97 k171 x1 x2 x4 x5 x6 x7 x8) else (fm_isTouched_L227 F σ k97 k171 x1 x2 x4 x5 x6 x7 x8 (1 : Int32)))) else (fm_isTouched_L226 F σ k97 k171 x1 x2 x4 x5 x6 x7 x8)
def fm_isTouched_L171_c (F : Nat) (σ : MS) (k97 : Int32 → Int32 → Int32 → Int32 → Option (Int32)) (k171 : Int32 → Int32 → Int32 → Int32 → Int32 → Int32 → Int32 → Int32 → Int32 → Option (Int32)) (x1 : Int32) (x2 : Int32) (x3 : Int32) (x4 : Int32) (x5 : Int32) (x6 : Int32) (x7 : Int32) (x8 : Int32) (x9 : Int32) : Option (Int32) :=
  if x3 = 0 then (bd (fm_cornerX F σ x1 (x4 + (1 : Int32))) (fun r183 => if x5 = r183 then (bd (fm_cornerY F σ x1 (x4 + (1 : Int32))) (fun r197 => if x6 = r197 then (fm_isTouched_L248 F σ k97 x1 x2 x3 x4) else (fm_isTouched_L203 F σ k97 k171 x1 x2 x4 x5 x6 x7 x8 x9))) else (fm_isTouched_L203 F σ k97 k171 x1 x2 x4 x5 x6 x7 x8 x9))) else (fm_isTouched_L248 F σ k97 x1 x2 x3 x4)
def fm_isTouched_L171 (F : Nat) (σ : MS) (k97 : Int32 → Int32 → Int32 → Int32 → Option (Int32)) (n : Nat) (x1 : Int32) (x2 : Int32) (x3 : Int32) (x4 : Int32) (x5 : Int32) (x6 : Int32) (x7 : Int32) (x8 : Int32) (x9 : Int32) : Option (Int32) := lpN (fun (k : Int32 × Int32 × Int32 × Int32 × Int32 × Int32 × Int32 × Int32 × Int32 → Option (Int32)) a => fm_isTouched_L171_c F σ k97 (fun x1 x2 x3 x4 x5 x6 x7 x8 x9 => k (x1, x2, x3, x4, x5, x6, x7, x8, x9)) a.1 a.2.1 a.2.2.1 a.2.2.2.1 a.2.2.2.2.1 a.2.2.2.2.2.1 a.2.2.2.2.2.2.1 a.2.2.2.2.2.2.2.1 a.2.2.2.2.2.2.2.2) n (x1, x2, x3, x4, x5, x6, x7, x8, x9)
def fm_isTouched_L169 (F : Nat) (σ : MS) (k97 : Int32 → Int32 → Int32 → Int32 → Option (Int32)) (x1 : Int32) (x2 : Int32) (x3 : Int32) (x4 : Int32) (x5 : Int32) (x6 : Int32) (x7 : Int32) (x8 : Int32) (s0 : Int32) : Option (Int32) :=
  fm_isTouched_L171 F σ k97 F x1 x2 x3 x4 x5 x6 x7 x8 s0
def fm_isTouched_L97_c (F : Nat) (σ : MS) (k97 : Int32 → Int32 → Int32 → Int32 → Option (Int32)) (x1 : Int32) (x2 : Int32) (x3 : Int32) (x4 : Int32) : Option (Int32) :=
  if x2 ≤ x4 then (fm_isTouched_L254 F σ x3) else (if x3 = 0 then (bd (fm_cornerX F σ x1 x4) (fun r111 => bd (fm_cornerY F σ x1 x4) (fun r120 => bd (fm_cornerX F σ x1 (x4 + (1 : Int32))) (fun r131 => bd (fm_sign F (r131 - r111)) (fun r137 => bd (fm_cornerY F σ x1 (x4 + (1 : Int32))) (fun r148 => bd (fm_sign F (r148 - r120)) (fun r154 => if x4 = 0 then (fm_isTouched_L169 F σ k97 x1 x2 x3 x4 r111 r120 r137 r154 (1 : Int32)) else (fm_isTouched_L169 F σ k97 x1 x2 x3 x4 r111 r120 r137 r154 (0 : Int32))))))))) else (fm_isTouched_L254 F σ x3))
def fm_isTouched_L97 (F : Nat) (σ : MS) (n : Nat) (x1 : Int32) (x2 : Int32) (x3 : Int32) (x4 : Int32) : Option (Int32) := lpN (fun (k : Int32 × Int32 × Int32 × Int32 → Option (Int32)) a => fm_isTouched_L97_c F σ (fun x1 x2 x3 x4 => k (x1, x2, x3, x4)) a.1 a.2.1 a.2.2.1 a.2.2.2) n (x1, x2, x3, x4)
def fm_isTouched_L93 (F : Nat) (σ : MS) (x1 : Int32) (x2 : Int32) (s0 : Int32) : Option (Int32) :=
  fm_isTouched_L97 F σ F x1 x2 s0 (0 : Int32)
def fm_isTouched_L88 (F : Nat) (σ : MS) (x1 : Int32) (x2 : Int32) : Option (Int32) :=
  fm_isTouched_L93 F σ x1 x2 (1 : Int32)
def fm_isTouched (F : Nat) (σ : MS) (x1 : Int32) : Option (Int32) :=
  bd (fm_hasRoute F σ x1) (fun r2 => if r2 = 0 then (some (1 : Int32)) else (bd (fm_of F σ x1 (8 : Int32)) (fun r14 => lt (r14 - (1 : Int32)) (fun x2_19 => bd (fm_cornerX F σ x1 (0 : Int32)) (fun r23 => bd (fm_portOf F σ x1 (0 : Int32) (1 : Int32) (0 : Int32)) (fun r31 => if r23 = r31 then (bd (fm_cornerY F σ x1 (0 : Int32)) (fun r40 => bd (fm_portOf F σ x1 (0 : Int32) (0 : Int32) (0 : Int32)) (fun r48 => if r40 = r48 then (bd (fm_cornerX F σ x1 x2_19) (fun r57 => bd (fm_portOf F σ x1 (1 : Int32) (1 : Int32) (0 : Int32)) (fun r65 => if r57 = r65 then (bd (fm_cornerY F σ x1 x2_19) (fun r74 => bd (fm_portOf F σ x1 (1 : Int32) (0 : Int32) (0 : Int32)) (fun r82 => if r74 = r82 then (fm_isTouched_L93 F σ x1 x2_19 (0 : Int32)) else (fm_isTouched_L88 F σ x1 x2_19)))) else (fm_isTouched_L88 F σ x1 x2_19)))) else (fm_isTouched_L88 F σ x1 x2_19)))) else (fm_isTouched_L88 F σ x1 x2_19)))))))
set_option maxHeartbeats 4000000 in
set_option maxRecDepth 100000 in
theorem km_isTouched (l : Launch) (D : va_G) (cA : Nat → ClassId) (ad : Nat → Nat) (σ : MS) (F : Nat) (a1 : Int32) (r : Int32) (hf : fm_isTouched F σ a1 = some r) : KR l D (tyG cA) yX10_isTouched cX10_isTouched 10 (some .boolean) (rmk 2 49) (wM cA ad σ) [.ref (ad 0), .int a1] r := by
  refine KR.of (by decide) (Nat.le_of_ble_eq_true rfl) ?_
  intro p e s m below meth c C hr hlk hK hP ls hl
  have hl : lv_has ls 10 [(0, .ref (ad 0)), (1, .int a1)] := hl
  have hB254 : ∀ (ls : Array Slot) (x3 : Int32), lv_has ls 10 [(0, .ref (ad 0)), (3, .int x3)] → fm_isTouched_L254 F σ x3 = some r → WR p l e 2 49 s m [.ref (ad 0), .int a1] below meth c r (F0 m 254 ls []) := by
    intro ls x3 hl hf
    unfold fm_isTouched_L254 at hf
    refine lv_iload_n C.1 C.2.1 dX10_isTouched_254 rfl (lv_at hl 1 rfl) ?_
    obtain ⟨hz255, hf⟩ := gd_some hf
    exact KR.zret C hr hlk hz255 (Option.some.inj hf) dX10_isTouched_255
  have hB97 : ∀ (n97 : Nat) (ls : Array Slot) (x1 : Int32) (x2 : Int32) (x3 : Int32) (x4 : Int32), lv_has ls 10 [(0, .ref (ad 0)), (1, .int x1), (2, .int x2), (3, .int x3), (4, .int x4)] → fm_isTouched_L97 F σ n97 x1 x2 x3 x4 = some r → WR p l e 2 49 s m [.ref (ad 0), .int a1] below meth c r (F0 m 97 ls []) := by
    intro n97
    induction n97 with
    | zero =>
      intro ls x1 x2 x3 x4 hl hf
      cases (show (none : Option _) = _ from hf)
    | succ n97 ih97 =>
      have hB248 : ∀ (ls : Array Slot) (x1 : Int32) (x2 : Int32) (x3 : Int32) (x4 : Int32), lv_has ls 10 [(0, .ref (ad 0)), (1, .int x1), (2, .int x2), (3, .int x3), (4, .int x4)] → fm_isTouched_L248 F σ (fm_isTouched_L97 F σ n97) x1 x2 x3 x4 = some r → WR p l e 2 49 s m [.ref (ad 0), .int a1] below meth c r (F0 m 248 ls []) := by
        intro ls x1 x2 x3 x4 hl hf
        unfold fm_isTouched_L248 at hf
        obtain ⟨x4_248, ex4_248, hf⟩ := lt_some hf
        refine lv_iinc (v := x4_248) (lv' := [(4, .int x4_248), (0, .ref (ad 0)), (1, .int x1), (2, .int x2), (3, .int x3)]) C.1 C.2.1 dX10_isTouched_248 hl (k := 4) rfl (by rw [ex4_248]; rfl) (by decide) rfl (fun ls hl => ?_)
        refine lv_goto (tgt := 97) C.1 C.2.1 dX10_isTouched_251 (by decide) ?_
        exact ih97 ls _ _ _ _ (lv_sub hl [1, 2, 3, 4, 0] rfl) hf
      have hB171 : ∀ (n171 : Nat) (ls : Array Slot) (x1 : Int32) (x2 : Int32) (x3 : Int32) (x4 : Int32) (x5 : Int32) (x6 : Int32) (x7 : Int32) (x8 : Int32) (x9 : Int32), lv_has ls 10 [(0, .ref (ad 0)), (1, .int x1), (2, .int x2), (3, .int x3), (4, .int x4), (5, .int x5), (6, .int x6), (7, .int x7), (8, .int x8), (9, .int x9)] → fm_isTouched_L171 F σ (fm_isTouched_L97 F σ n97) n171 x1 x2 x3 x4 x5 x6 x7 x8 x9 = some r → WR p l e 2 49 s m [.ref (ad 0), .int a1] below meth c r (F0 m 171 ls []) := by
        intro n171
        induction n171 with
        | zero =>
          intro ls x1 x2 x3 x4 x5 x6 x7 x8 x9 hl hf
          cases (show (none : Option _) = _ from hf)
        | succ n171 ih171 =>
          have hB227 : ∀ (ls : Array Slot) (x1 : Int32) (x2 : Int32) (x4 : Int32) (x5 : Int32) (x6 : Int32) (x7 : Int32) (x8 : Int32) (s0 : Int32), lv_has ls 10 [(0, .ref (ad 0)), (1, .int x1), (2, .int x2), (4, .int x4), (5, .int x5), (6, .int x6), (7, .int x7), (8, .int x8)] → fm_isTouched_L227 F σ (fm_isTouched_L97 F σ n97) (fm_isTouched_L171 F σ (fm_isTouched_L97 F σ n97) n171) x1 x2 x4 x5 x6 x7 x8 s0 = some r → WR p l e 2 49 s m [.ref (ad 0), .int a1] below meth c r (F0 m 227 ls [.int s0]) := by
            intro ls x1 x2 x4 x5 x6 x7 x8 s0 hl hf
            unfold fm_isTouched_L227 at hf
            refine lv_istore_n (lv' := [(3, .int s0), (0, .ref (ad 0)), (1, .int x1), (2, .int x2), (4, .int x4), (5, .int x5), (6, .int x6), (7, .int x7), (8, .int x8)]) C.1 C.2.1 dX10_isTouched_227 rfl hl (by decide) rfl (fun ls hl => ?_)
            refine lv_iconst (v := (0 : Int32)) C.1 C.2.1 dX10_isTouched_228 (by decide) ?_
            refine lv_istore (lv' := [(9, .int (0 : Int32)), (3, .int s0), (0, .ref (ad 0)), (1, .int x1), (2, .int x2), (4, .int x4), (5, .int x5), (6, .int x6), (7, .int x7), (8, .int x8)]) C.1 C.2.1 dX10_isTouched_229 hl (by decide) rfl (fun ls hl => ?_)
            refine lv_iload C.1 C.2.1 dX10_isTouched_231 (lv_at hl 6 rfl) ?_
            refine lv_iload C.1 C.2.1 dX10_isTouched_233 (lv_at hl 8 rfl) ?_
            refine lv_iadd C.1 C.2.1 dX10_isTouched_235 ?_
            obtain ⟨x5_236, ex5_236, hf⟩ := lt_some hf
            refine lv_tope ex5_236 ?_
            refine lv_istore (lv' := [(5, .int x5_236), (9, .int (0 : Int32)), (3, .int s0), (0, .ref (ad 0)), (1, .int x1), (2, .int x2), (4, .int x4), (6, .int x6), (7, .int x7), (8, .int x8)]) C.1 C.2.1 dX10_isTouched_236 hl (by decide) rfl (fun ls hl => ?_)
            refine lv_iload C.1 C.2.1 dX10_isTouched_238 (lv_at hl 7 rfl) ?_
            refine lv_iload C.1 C.2.1 dX10_isTouched_240 (lv_at hl 9 rfl) ?_
            refine lv_iadd C.1 C.2.1 dX10_isTouched_242 ?_
            obtain ⟨x6_243, ex6_243, hf⟩ := lt_some hf
            refine lv_tope ex6_243 ?_
            refine lv_istore (lv' := [(6, .int x6_243), (5, .int x5_236), (9, .int (0 : Int32)), (3, .int s0), (0, .ref (ad 0)), (1, .int x1), (2, .int x2), (4, .int x4), (7, .int x7), (8, .int x8)]) C.1 C.2.1 dX10_isTouched_243 hl (by decide) rfl (fun ls hl => ?_)
            refine lv_goto (tgt := 171) C.1 C.2.1 dX10_isTouched_245 (by decide) ?_
            exact ih171 ls _ _ _ _ _ _ _ _ _ (lv_sub hl [4, 5, 6, 3, 7, 1, 0, 8, 9, 2] rfl) hf
          have hB226 : ∀ (ls : Array Slot) (x1 : Int32) (x2 : Int32) (x4 : Int32) (x5 : Int32) (x6 : Int32) (x7 : Int32) (x8 : Int32), lv_has ls 10 [(0, .ref (ad 0)), (1, .int x1), (2, .int x2), (4, .int x4), (5, .int x5), (6, .int x6), (7, .int x7), (8, .int x8)] → fm_isTouched_L226 F σ (fm_isTouched_L97 F σ n97) (fm_isTouched_L171 F σ (fm_isTouched_L97 F σ n97) n171) x1 x2 x4 x5 x6 x7 x8 = some r → WR p l e 2 49 s m [.ref (ad 0), .int a1] below meth c r (F0 m 226 ls []) := by
            intro ls x1 x2 x4 x5 x6 x7 x8 hl hf
            unfold fm_isTouched_L226 at hf
            refine lv_iconst (v := (0 : Int32)) C.1 C.2.1 dX10_isTouched_226 (by decide) ?_
            exact hB227 ls _ _ _ _ _ _ _ _ (lv_sub hl [0, 1, 2, 3, 4, 5, 6, 7] rfl) hf
          have hB203 : ∀ (ls : Array Slot) (x1 : Int32) (x2 : Int32) (x4 : Int32) (x5 : Int32) (x6 : Int32) (x7 : Int32) (x8 : Int32) (x9 : Int32), lv_has ls 10 [(0, .ref (ad 0)), (1, .int x1), (2, .int x2), (4, .int x4), (5, .int x5), (6, .int x6), (7, .int x7), (8, .int x8), (9, .int x9)] → fm_isTouched_L203 F σ (fm_isTouched_L97 F σ n97) (fm_isTouched_L171 F σ (fm_isTouched_L97 F σ n97) n171) x1 x2 x4 x5 x6 x7 x8 x9 = some r → WR p l e 2 49 s m [.ref (ad 0), .int a1] below meth c r (F0 m 203 ls []) := by
            intro ls x1 x2 x4 x5 x6 x7 x8 x9 hl hf
            unfold fm_isTouched_L203 at hf
            refine lv_iload C.1 C.2.1 dX10_isTouched_203 (lv_at hl 8 rfl) ?_
            refine lv_if_ne (tgt := 226) C.1 C.2.1 dX10_isTouched_205 (by decide) (fun c205 => ?_) (fun c205 => ?_)
            · have hf := br_n c205 hf
              exact hB226 ls _ _ _ _ _ _ _ (lv_sub hl [0, 1, 2, 3, 4, 5, 6, 7] rfl) hf
            · have hf := br_p c205 hf
              refine lv_aload_n C.1 C.2.1 dX10_isTouched_208 rfl (lv_at hl 0 rfl) ?_
              refine lv_iload C.1 C.2.1 dX10_isTouched_209 (lv_at hl 4 rfl) ?_
              refine lv_iload C.1 C.2.1 dX10_isTouched_211 (lv_at hl 5 rfl) ?_
              obtain ⟨r213, hc213, hf⟩ := bd_some hf
              refine callRV (As := [_, _]) C hK hP wv_X10_101 hl (km_blockerOf l D cA ad _ F _ _ r213 hc213) (rcM hK hP) rfl rfl rfl (Nat.le_of_ble_eq_true rfl) ⟨Nat.le_refl _, Nat.le_refl _⟩ dX10_isTouched_213 ?_
              refine lv_sipush (v := (-1000 : Int32)) C.1 C.2.1 dX10_isTouched_216 (by decide) ?_
              refine lv_icmp_eq (tgt := 226) C.1 C.2.1 dX10_isTouched_219 (by decide) (fun c219 => ?_) (fun c219 => ?_)
              · have hf := br_p c219 hf
                exact hB226 ls _ _ _ _ _ _ _ (lv_sub hl [0, 1, 2, 3, 4, 5, 6, 7] rfl) hf
              · have hf := br_n c219 hf
                refine lv_iconst (v := (1 : Int32)) C.1 C.2.1 dX10_isTouched_222 (by decide) ?_
                refine lv_goto (tgt := 227) C.1 C.2.1 dX10_isTouched_223 (by decide) ?_
                exact hB227 ls _ _ _ _ _ _ _ _ (lv_sub hl [0, 1, 2, 3, 4, 5, 6, 7] rfl) hf
          intro ls x1 x2 x3 x4 x5 x6 x7 x8 x9 hl hf
          have hf : fm_isTouched_L171_c F σ (fm_isTouched_L97 F σ n97) (fm_isTouched_L171 F σ (fm_isTouched_L97 F σ n97) n171) x1 x2 x3 x4 x5 x6 x7 x8 x9 = some r := hf
          unfold fm_isTouched_L171_c at hf
          refine lv_iload_n C.1 C.2.1 dX10_isTouched_171 rfl (lv_at hl 3 rfl) ?_
          refine lv_if_ne (tgt := 248) C.1 C.2.1 dX10_isTouched_172 (by decide) (fun c172 => ?_) (fun c172 => ?_)
          · have hf := br_n c172 hf
            exact hB248 ls _ _ _ _ (lv_sub hl [0, 1, 2, 3, 4] rfl) hf
          · have hf := br_p c172 hf
            refine lv_iload C.1 C.2.1 dX10_isTouched_175 (lv_at hl 5 rfl) ?_
            refine lv_aload_n C.1 C.2.1 dX10_isTouched_177 rfl (lv_at hl 0 rfl) ?_
            refine lv_iload_n C.1 C.2.1 dX10_isTouched_178 rfl (lv_at hl 1 rfl) ?_
            refine lv_iload C.1 C.2.1 dX10_isTouched_179 (lv_at hl 4 rfl) ?_
            refine lv_iconst (v := (1 : Int32)) C.1 C.2.1 dX10_isTouched_181 (by decide) ?_
            refine lv_iadd C.1 C.2.1 dX10_isTouched_182 ?_
            obtain ⟨r183, hc183, hf⟩ := bd_some hf
            refine callRV (As := [_, _]) C hK hP wv_X10_117 hl (km_cornerX l D cA ad _ F _ _ r183 hc183) (rcM hK hP) rfl rfl rfl (Nat.le_of_ble_eq_true rfl) ⟨Nat.le_refl _, Nat.le_refl _⟩ dX10_isTouched_183 ?_
            refine lv_icmp_ne (tgt := 203) C.1 C.2.1 dX10_isTouched_186 (by decide) (fun c186 => ?_) (fun c186 => ?_)
            · have hf := br_n c186 hf
              exact hB203 ls _ _ _ _ _ _ _ _ (lv_sub hl [0, 1, 2, 4, 5, 6, 7, 8, 9] rfl) hf
            · have hf := br_p c186 hf
              refine lv_iload C.1 C.2.1 dX10_isTouched_189 (lv_at hl 6 rfl) ?_
              refine lv_aload_n C.1 C.2.1 dX10_isTouched_191 rfl (lv_at hl 0 rfl) ?_
              refine lv_iload_n C.1 C.2.1 dX10_isTouched_192 rfl (lv_at hl 1 rfl) ?_
              refine lv_iload C.1 C.2.1 dX10_isTouched_193 (lv_at hl 4 rfl) ?_
              refine lv_iconst (v := (1 : Int32)) C.1 C.2.1 dX10_isTouched_195 (by decide) ?_
              refine lv_iadd C.1 C.2.1 dX10_isTouched_196 ?_
              obtain ⟨r197, hc197, hf⟩ := bd_some hf
              refine callRV (As := [_, _]) C hK hP wv_X10_124 hl (km_cornerY l D cA ad _ F _ _ r197 hc197) (rcM hK hP) rfl rfl rfl (Nat.le_of_ble_eq_true rfl) ⟨Nat.le_refl _, Nat.le_refl _⟩ dX10_isTouched_197 ?_
              refine lv_icmp_eq (tgt := 248) C.1 C.2.1 dX10_isTouched_200 (by decide) (fun c200 => ?_) (fun c200 => ?_)
              · have hf := br_p c200 hf
                exact hB248 ls _ _ _ _ (lv_sub hl [0, 1, 2, 3, 4] rfl) hf
              · have hf := br_n c200 hf
                exact hB203 ls _ _ _ _ _ _ _ _ (lv_sub hl [0, 1, 2, 4, 5, 6, 7, 8, 9] rfl) hf
      have hB169 : ∀ (ls : Array Slot) (x1 : Int32) (x2 : Int32) (x3 : Int32) (x4 : Int32) (x5 : Int32) (x6 : Int32) (x7 : Int32) (x8 : Int32) (s0 : Int32), lv_has ls 10 [(0, .ref (ad 0)), (1, .int x1), (2, .int x2), (3, .int x3), (4, .int x4), (5, .int x5), (6, .int x6), (7, .int x7), (8, .int x8)] → fm_isTouched_L169 F σ (fm_isTouched_L97 F σ n97) x1 x2 x3 x4 x5 x6 x7 x8 s0 = some r → WR p l e 2 49 s m [.ref (ad 0), .int a1] below meth c r (F0 m 169 ls [.int s0]) := by
        intro ls x1 x2 x3 x4 x5 x6 x7 x8 s0 hl hf
        unfold fm_isTouched_L169 at hf
        refine lv_istore (lv' := [(9, .int s0), (0, .ref (ad 0)), (1, .int x1), (2, .int x2), (3, .int x3), (4, .int x4), (5, .int x5), (6, .int x6), (7, .int x7), (8, .int x8)]) C.1 C.2.1 dX10_isTouched_169 hl (by decide) rfl (fun ls hl => ?_)
        exact hB171 F ls _ _ _ _ _ _ _ _ _ (lv_sub hl [1, 2, 3, 4, 5, 6, 7, 8, 9, 0] rfl) hf
      intro ls x1 x2 x3 x4 hl hf
      have hf : fm_isTouched_L97_c F σ (fm_isTouched_L97 F σ n97) x1 x2 x3 x4 = some r := hf
      unfold fm_isTouched_L97_c at hf
      refine lv_iload C.1 C.2.1 dX10_isTouched_97 (lv_at hl 4 rfl) ?_
      refine lv_iload_n C.1 C.2.1 dX10_isTouched_99 rfl (lv_at hl 2 rfl) ?_
      refine lv_icmp_ge (tgt := 254) C.1 C.2.1 dX10_isTouched_100 (by decide) (fun c100 => ?_) (fun c100 => ?_)
      · have hf := br_p c100 hf
        exact hB254 ls _ (lv_sub hl [0, 3] rfl) hf
      · have hf := br_n c100 hf
        refine lv_iload_n C.1 C.2.1 dX10_isTouched_103 rfl (lv_at hl 3 rfl) ?_
        refine lv_if_ne (tgt := 254) C.1 C.2.1 dX10_isTouched_104 (by decide) (fun c104 => ?_) (fun c104 => ?_)
        · have hf := br_n c104 hf
          exact hB254 ls _ (lv_sub hl [0, 3] rfl) hf
        · have hf := br_p c104 hf
          refine lv_aload_n C.1 C.2.1 dX10_isTouched_107 rfl (lv_at hl 0 rfl) ?_
          refine lv_iload_n C.1 C.2.1 dX10_isTouched_108 rfl (lv_at hl 1 rfl) ?_
          refine lv_iload C.1 C.2.1 dX10_isTouched_109 (lv_at hl 4 rfl) ?_
          obtain ⟨r111, hc111, hf⟩ := bd_some hf
          refine callRV (As := [_, _]) C hK hP wv_X10_117 hl (km_cornerX l D cA ad _ F _ _ r111 hc111) (rcM hK hP) rfl rfl rfl (Nat.le_of_ble_eq_true rfl) ⟨Nat.le_refl _, Nat.le_refl _⟩ dX10_isTouched_111 ?_
          refine lv_istore (lv' := [(5, .int r111), (0, .ref (ad 0)), (1, .int x1), (2, .int x2), (3, .int x3), (4, .int x4)]) C.1 C.2.1 dX10_isTouched_114 hl (by decide) rfl (fun ls hl => ?_)
          refine lv_aload_n C.1 C.2.1 dX10_isTouched_116 rfl (lv_at hl 1 rfl) ?_
          refine lv_iload_n C.1 C.2.1 dX10_isTouched_117 rfl (lv_at hl 2 rfl) ?_
          refine lv_iload C.1 C.2.1 dX10_isTouched_118 (lv_at hl 5 rfl) ?_
          obtain ⟨r120, hc120, hf⟩ := bd_some hf
          refine callRV (As := [_, _]) C hK hP wv_X10_124 hl (km_cornerY l D cA ad _ F _ _ r120 hc120) (rcM hK hP) rfl rfl rfl (Nat.le_of_ble_eq_true rfl) ⟨Nat.le_refl _, Nat.le_refl _⟩ dX10_isTouched_120 ?_
          refine lv_istore (lv' := [(6, .int r120), (5, .int r111), (0, .ref (ad 0)), (1, .int x1), (2, .int x2), (3, .int x3), (4, .int x4)]) C.1 C.2.1 dX10_isTouched_123 hl (by decide) rfl (fun ls hl => ?_)
          refine lv_aload_n C.1 C.2.1 dX10_isTouched_125 rfl (lv_at hl 2 rfl) ?_
          refine lv_iload_n C.1 C.2.1 dX10_isTouched_126 rfl (lv_at hl 3 rfl) ?_
          refine lv_iload C.1 C.2.1 dX10_isTouched_127 (lv_at hl 6 rfl) ?_
          refine lv_iconst (v := (1 : Int32)) C.1 C.2.1 dX10_isTouched_129 (by decide) ?_
          refine lv_iadd C.1 C.2.1 dX10_isTouched_130 ?_
          obtain ⟨r131, hc131, hf⟩ := bd_some hf
          refine callRV (As := [_, _]) C hK hP wv_X10_117 hl (km_cornerX l D cA ad _ F _ _ r131 hc131) (rcM hK hP) rfl rfl rfl (Nat.le_of_ble_eq_true rfl) ⟨Nat.le_refl _, Nat.le_refl _⟩ dX10_isTouched_131 ?_
          refine lv_iload C.1 C.2.1 dX10_isTouched_134 (lv_at hl 1 rfl) ?_
          refine lv_isub C.1 C.2.1 dX10_isTouched_136 ?_
          obtain ⟨r137, hc137, hf⟩ := bd_some hf
          refine callRS (As := [_]) C hK hP wv_X10_127 hl (km_sign l D cA _ F _ r137 hc137) rfl rfl rfl (Nat.le_of_ble_eq_true rfl) ⟨Nat.le_refl _, Nat.le_refl _⟩ dX10_isTouched_137 ?_
          refine lv_istore (lv' := [(7, .int r137), (6, .int r120), (5, .int r111), (0, .ref (ad 0)), (1, .int x1), (2, .int x2), (3, .int x3), (4, .int x4)]) C.1 C.2.1 dX10_isTouched_140 hl (by decide) rfl (fun ls hl => ?_)
          refine lv_aload_n C.1 C.2.1 dX10_isTouched_142 rfl (lv_at hl 3 rfl) ?_
          refine lv_iload_n C.1 C.2.1 dX10_isTouched_143 rfl (lv_at hl 4 rfl) ?_
          refine lv_iload C.1 C.2.1 dX10_isTouched_144 (lv_at hl 7 rfl) ?_
          refine lv_iconst (v := (1 : Int32)) C.1 C.2.1 dX10_isTouched_146 (by decide) ?_
          refine lv_iadd C.1 C.2.1 dX10_isTouched_147 ?_
          obtain ⟨r148, hc148, hf⟩ := bd_some hf
          refine callRV (As := [_, _]) C hK hP wv_X10_124 hl (km_cornerY l D cA ad _ F _ _ r148 hc148) (rcM hK hP) rfl rfl rfl (Nat.le_of_ble_eq_true rfl) ⟨Nat.le_refl _, Nat.le_refl _⟩ dX10_isTouched_148 ?_
          refine lv_iload C.1 C.2.1 dX10_isTouched_151 (lv_at hl 1 rfl) ?_
          refine lv_isub C.1 C.2.1 dX10_isTouched_153 ?_
          obtain ⟨r154, hc154, hf⟩ := bd_some hf
          refine callRS (As := [_]) C hK hP wv_X10_127 hl (km_sign l D cA _ F _ r154 hc154) rfl rfl rfl (Nat.le_of_ble_eq_true rfl) ⟨Nat.le_refl _, Nat.le_refl _⟩ dX10_isTouched_154 ?_
          refine lv_istore (lv' := [(8, .int r154), (7, .int r137), (6, .int r120), (5, .int r111), (0, .ref (ad 0)), (1, .int x1), (2, .int x2), (3, .int x3), (4, .int x4)]) C.1 C.2.1 dX10_isTouched_157 hl (by decide) rfl (fun ls hl => ?_)
          refine lv_iload C.1 C.2.1 dX10_isTouched_159 (lv_at hl 8 rfl) ?_
          refine lv_if_ne (tgt := 168) C.1 C.2.1 dX10_isTouched_161 (by decide) (fun c161 => ?_) (fun c161 => ?_)
          · have hf := br_n c161 hf
            refine lv_iconst (v := (0 : Int32)) C.1 C.2.1 dX10_isTouched_168 (by decide) ?_
            exact hB169 ls _ _ _ _ _ _ _ _ _ (lv_sub hl [4, 5, 6, 7, 8, 3, 2, 1, 0] rfl) hf
          · have hf := br_p c161 hf
            refine lv_iconst (v := (1 : Int32)) C.1 C.2.1 dX10_isTouched_164 (by decide) ?_
            refine lv_goto (tgt := 169) C.1 C.2.1 dX10_isTouched_165 (by decide) ?_
            exact hB169 ls _ _ _ _ _ _ _ _ _ (lv_sub hl [4, 5, 6, 7, 8, 3, 2, 1, 0] rfl) hf
  have hB93 : ∀ (ls : Array Slot) (x1 : Int32) (x2 : Int32) (s0 : Int32), lv_has ls 10 [(0, .ref (ad 0)), (1, .int x1), (2, .int x2)] → fm_isTouched_L93 F σ x1 x2 s0 = some r → WR p l e 2 49 s m [.ref (ad 0), .int a1] below meth c r (F0 m 93 ls [.int s0]) := by
    intro ls x1 x2 s0 hl hf
    unfold fm_isTouched_L93 at hf
    refine lv_istore_n (lv' := [(3, .int s0), (0, .ref (ad 0)), (1, .int x1), (2, .int x2)]) C.1 C.2.1 dX10_isTouched_93 rfl hl (by decide) rfl (fun ls hl => ?_)
    refine lv_iconst (v := (0 : Int32)) C.1 C.2.1 dX10_isTouched_94 (by decide) ?_
    refine lv_istore (lv' := [(4, .int (0 : Int32)), (3, .int s0), (0, .ref (ad 0)), (1, .int x1), (2, .int x2)]) C.1 C.2.1 dX10_isTouched_95 hl (by decide) rfl (fun ls hl => ?_)
    exact hB97 F ls _ _ _ _ (lv_sub hl [2, 3, 4, 1, 0] rfl) hf
  have hB88 : ∀ (ls : Array Slot) (x1 : Int32) (x2 : Int32), lv_has ls 10 [(0, .ref (ad 0)), (1, .int x1), (2, .int x2)] → fm_isTouched_L88 F σ x1 x2 = some r → WR p l e 2 49 s m [.ref (ad 0), .int a1] below meth c r (F0 m 88 ls []) := by
    intro ls x1 x2 hl hf
    unfold fm_isTouched_L88 at hf
    refine lv_iconst (v := (1 : Int32)) C.1 C.2.1 dX10_isTouched_88 (by decide) ?_
    refine lv_goto (tgt := 93) C.1 C.2.1 dX10_isTouched_89 (by decide) ?_
    exact hB93 ls _ _ _ (lv_sub hl [0, 1, 2] rfl) hf
  unfold fm_isTouched at hf
  refine lv_aload_n C.1 C.2.1 dX10_isTouched_0 rfl (lv_at hl 0 rfl) ?_
  refine lv_iload_n C.1 C.2.1 dX10_isTouched_1 rfl (lv_at hl 1 rfl) ?_
  obtain ⟨r2, hc2, hf⟩ := bd_some hf
  refine callRV (As := [_]) C hK hP wv_X10_114 hl (km_hasRoute l D cA ad _ F _ r2 hc2) (rcM hK hP) rfl rfl rfl (Nat.le_of_ble_eq_true rfl) ⟨Nat.le_refl _, Nat.le_refl _⟩ dX10_isTouched_2 ?_
  refine lv_if_ne (tgt := 10) C.1 C.2.1 dX10_isTouched_5 (by decide) (fun c5 => ?_) (fun c5 => ?_)
  · have hf := br_n c5 hf
    refine lv_aload_n C.1 C.2.1 dX10_isTouched_10 rfl (lv_at hl 0 rfl) ?_
    refine lv_iload_n C.1 C.2.1 dX10_isTouched_11 rfl (lv_at hl 1 rfl) ?_
    refine lv_bipush (v := (8 : Int32)) C.1 C.2.1 dX10_isTouched_12 (by decide) ?_
    obtain ⟨r14, hc14, hf⟩ := bd_some hf
    refine callRV (As := [_, _]) C hK hP wv_X10_95 hl (km_of l D cA ad _ F _ _ r14 hc14) (rcM hK hP) rfl rfl rfl (Nat.le_of_ble_eq_true rfl) ⟨Nat.le_refl _, Nat.le_refl _⟩ dX10_isTouched_14 ?_
    refine lv_iconst (v := (1 : Int32)) C.1 C.2.1 dX10_isTouched_17 (by decide) ?_
    refine lv_isub C.1 C.2.1 dX10_isTouched_18 ?_
    obtain ⟨x2_19, ex2_19, hf⟩ := lt_some hf
    refine lv_tope ex2_19 ?_
    refine lv_istore_n (lv' := [(2, .int x2_19), (0, .ref (ad 0)), (1, .int a1)]) C.1 C.2.1 dX10_isTouched_19 rfl hl (by decide) rfl (fun ls hl => ?_)
    refine lv_aload_n C.1 C.2.1 dX10_isTouched_20 rfl (lv_at hl 1 rfl) ?_
    refine lv_iload_n C.1 C.2.1 dX10_isTouched_21 rfl (lv_at hl 2 rfl) ?_
    refine lv_iconst (v := (0 : Int32)) C.1 C.2.1 dX10_isTouched_22 (by decide) ?_
    obtain ⟨r23, hc23, hf⟩ := bd_some hf
    refine callRV (As := [_, _]) C hK hP wv_X10_117 hl (km_cornerX l D cA ad _ F _ _ r23 hc23) (rcM hK hP) rfl rfl rfl (Nat.le_of_ble_eq_true rfl) ⟨Nat.le_refl _, Nat.le_refl _⟩ dX10_isTouched_23 ?_
    refine lv_aload_n C.1 C.2.1 dX10_isTouched_26 rfl (lv_at hl 1 rfl) ?_
    refine lv_iload_n C.1 C.2.1 dX10_isTouched_27 rfl (lv_at hl 2 rfl) ?_
    refine lv_iconst (v := (0 : Int32)) C.1 C.2.1 dX10_isTouched_28 (by decide) ?_
    refine lv_iconst (v := (1 : Int32)) C.1 C.2.1 dX10_isTouched_29 (by decide) ?_
    refine lv_iconst (v := (0 : Int32)) C.1 C.2.1 dX10_isTouched_30 (by decide) ?_
    obtain ⟨r31, hc31, hf⟩ := bd_some hf
    refine callRV (As := [_, _, _, _]) C hK hP wv_X10_120 hl (km_portOf l D cA ad _ F _ _ _ _ r31 hc31) (rcM hK hP) rfl rfl rfl (Nat.le_of_ble_eq_true rfl) ⟨Nat.le_refl _, Nat.le_refl _⟩ dX10_isTouched_31 ?_
    refine lv_icmp_ne (tgt := 88) C.1 C.2.1 dX10_isTouched_34 (by decide) (fun c34 => ?_) (fun c34 => ?_)
    · have hf := br_n c34 hf
      exact hB88 ls _ _ (lv_sub hl [1, 2, 0] rfl) hf
    · have hf := br_p c34 hf
      refine lv_aload_n C.1 C.2.1 dX10_isTouched_37 rfl (lv_at hl 1 rfl) ?_
      refine lv_iload_n C.1 C.2.1 dX10_isTouched_38 rfl (lv_at hl 2 rfl) ?_
      refine lv_iconst (v := (0 : Int32)) C.1 C.2.1 dX10_isTouched_39 (by decide) ?_
      obtain ⟨r40, hc40, hf⟩ := bd_some hf
      refine callRV (As := [_, _]) C hK hP wv_X10_124 hl (km_cornerY l D cA ad _ F _ _ r40 hc40) (rcM hK hP) rfl rfl rfl (Nat.le_of_ble_eq_true rfl) ⟨Nat.le_refl _, Nat.le_refl _⟩ dX10_isTouched_40 ?_
      refine lv_aload_n C.1 C.2.1 dX10_isTouched_43 rfl (lv_at hl 1 rfl) ?_
      refine lv_iload_n C.1 C.2.1 dX10_isTouched_44 rfl (lv_at hl 2 rfl) ?_
      refine lv_iconst (v := (0 : Int32)) C.1 C.2.1 dX10_isTouched_45 (by decide) ?_
      refine lv_iconst (v := (0 : Int32)) C.1 C.2.1 dX10_isTouched_46 (by decide) ?_
      refine lv_iconst (v := (0 : Int32)) C.1 C.2.1 dX10_isTouched_47 (by decide) ?_
      obtain ⟨r48, hc48, hf⟩ := bd_some hf
      refine callRV (As := [_, _, _, _]) C hK hP wv_X10_120 hl (km_portOf l D cA ad _ F _ _ _ _ r48 hc48) (rcM hK hP) rfl rfl rfl (Nat.le_of_ble_eq_true rfl) ⟨Nat.le_refl _, Nat.le_refl _⟩ dX10_isTouched_48 ?_
      refine lv_icmp_ne (tgt := 88) C.1 C.2.1 dX10_isTouched_51 (by decide) (fun c51 => ?_) (fun c51 => ?_)
      · have hf := br_n c51 hf
        exact hB88 ls _ _ (lv_sub hl [1, 2, 0] rfl) hf
      · have hf := br_p c51 hf
        refine lv_aload_n C.1 C.2.1 dX10_isTouched_54 rfl (lv_at hl 1 rfl) ?_
        refine lv_iload_n C.1 C.2.1 dX10_isTouched_55 rfl (lv_at hl 2 rfl) ?_
        refine lv_iload_n C.1 C.2.1 dX10_isTouched_56 rfl (lv_at hl 0 rfl) ?_
        obtain ⟨r57, hc57, hf⟩ := bd_some hf
        refine callRV (As := [_, _]) C hK hP wv_X10_117 hl (km_cornerX l D cA ad _ F _ _ r57 hc57) (rcM hK hP) rfl rfl rfl (Nat.le_of_ble_eq_true rfl) ⟨Nat.le_refl _, Nat.le_refl _⟩ dX10_isTouched_57 ?_
        refine lv_aload_n C.1 C.2.1 dX10_isTouched_60 rfl (lv_at hl 1 rfl) ?_
        refine lv_iload_n C.1 C.2.1 dX10_isTouched_61 rfl (lv_at hl 2 rfl) ?_
        refine lv_iconst (v := (1 : Int32)) C.1 C.2.1 dX10_isTouched_62 (by decide) ?_
        refine lv_iconst (v := (1 : Int32)) C.1 C.2.1 dX10_isTouched_63 (by decide) ?_
        refine lv_iconst (v := (0 : Int32)) C.1 C.2.1 dX10_isTouched_64 (by decide) ?_
        obtain ⟨r65, hc65, hf⟩ := bd_some hf
        refine callRV (As := [_, _, _, _]) C hK hP wv_X10_120 hl (km_portOf l D cA ad _ F _ _ _ _ r65 hc65) (rcM hK hP) rfl rfl rfl (Nat.le_of_ble_eq_true rfl) ⟨Nat.le_refl _, Nat.le_refl _⟩ dX10_isTouched_65 ?_
        refine lv_icmp_ne (tgt := 88) C.1 C.2.1 dX10_isTouched_68 (by decide) (fun c68 => ?_) (fun c68 => ?_)
        · have hf := br_n c68 hf
          exact hB88 ls _ _ (lv_sub hl [1, 2, 0] rfl) hf
        · have hf := br_p c68 hf
          refine lv_aload_n C.1 C.2.1 dX10_isTouched_71 rfl (lv_at hl 1 rfl) ?_
          refine lv_iload_n C.1 C.2.1 dX10_isTouched_72 rfl (lv_at hl 2 rfl) ?_
          refine lv_iload_n C.1 C.2.1 dX10_isTouched_73 rfl (lv_at hl 0 rfl) ?_
          obtain ⟨r74, hc74, hf⟩ := bd_some hf
          refine callRV (As := [_, _]) C hK hP wv_X10_124 hl (km_cornerY l D cA ad _ F _ _ r74 hc74) (rcM hK hP) rfl rfl rfl (Nat.le_of_ble_eq_true rfl) ⟨Nat.le_refl _, Nat.le_refl _⟩ dX10_isTouched_74 ?_
          refine lv_aload_n C.1 C.2.1 dX10_isTouched_77 rfl (lv_at hl 1 rfl) ?_
          refine lv_iload_n C.1 C.2.1 dX10_isTouched_78 rfl (lv_at hl 2 rfl) ?_
          refine lv_iconst (v := (1 : Int32)) C.1 C.2.1 dX10_isTouched_79 (by decide) ?_
          refine lv_iconst (v := (0 : Int32)) C.1 C.2.1 dX10_isTouched_80 (by decide) ?_
          refine lv_iconst (v := (0 : Int32)) C.1 C.2.1 dX10_isTouched_81 (by decide) ?_
          obtain ⟨r82, hc82, hf⟩ := bd_some hf
          refine callRV (As := [_, _, _, _]) C hK hP wv_X10_120 hl (km_portOf l D cA ad _ F _ _ _ _ r82 hc82) (rcM hK hP) rfl rfl rfl (Nat.le_of_ble_eq_true rfl) ⟨Nat.le_refl _, Nat.le_refl _⟩ dX10_isTouched_82 ?_
          refine lv_icmp_eq (tgt := 92) C.1 C.2.1 dX10_isTouched_85 (by decide) (fun c85 => ?_) (fun c85 => ?_)
          · have hf := br_p c85 hf
            refine lv_iconst (v := (0 : Int32)) C.1 C.2.1 dX10_isTouched_92 (by decide) ?_
            exact hB93 ls _ _ _ (lv_sub hl [1, 2, 0] rfl) hf
          · have hf := br_n c85 hf
            exact hB88 ls _ _ (lv_sub hl [1, 2, 0] rfl) hf
  · have hf := br_p c5 hf
    refine lv_iconst (v := (1 : Int32)) C.1 C.2.1 dX10_isTouched_8 (by decide) ?_
    exact KR.zret C hr hlk (by decide) (Option.some.inj hf) dX10_isTouched_9
def fm_moveBox_L184 (F : Nat) (k145 : MS → Int32 → Int32 → Option (Int32 × MS)) (σ : MS) (x9 : Int32) (s0 : Int32) (s1 : Int32) : Option (Int32 × MS) :=
  lt (s1 + s0) (fun x8_185 => lt (x9 + (1 : Int32)) (fun x9_187 => k145 σ x8_185 x9_187))
def fm_moveBox_L183 (F : Nat) (k145 : MS → Int32 → Int32 → Option (Int32 × MS)) (σ : MS) (x9 : Int32) (s0 : Int32) : Option (Int32 × MS) :=
  fm_moveBox_L184 F k145 σ x9 (0 : Int32) s0
def fm_moveBox_L145_c (F : Nat) (k145 : MS → Int32 → Int32 → Option (Int32 × MS)) (σ : MS) (x8 : Int32) (x9 : Int32) : Option (Int32 × MS) :=
  gd (ix (1 : Int32) 8625 = true) (if (ms_row σ (1 : Int32).toNatClampNeg) ≤ x9 then (some (x8, σ)) else (bd (fm_of F σ x9 (6 : Int32)) (fun r163 => if r163 = (1 : Int32) then (bd (fm_isTouched F σ x9) (fun r173 => if r173 = 0 then (fm_moveBox_L183 F k145 σ x9 x8) else (fm_moveBox_L184 F k145 σ x9 (1 : Int32) x8))) else (fm_moveBox_L183 F k145 σ x9 x8))))
def fm_moveBox_L145 (F : Nat) (n : Nat) (σ : MS) (x8 : Int32) (x9 : Int32) : Option (Int32 × MS) := lpN (fun (k : MS × Int32 × Int32 → Option (Int32 × MS)) a => fm_moveBox_L145_c F (fun σ x8 x9 => k (σ, x8, x9)) a.1 a.2.1 a.2.2) n (σ, x8, x9)
def fm_moveBox_L98 (F : Nat) (σ : MS) : Option (Int32 × MS) :=
  some ((-1002 : Int32), σ)
def fm_moveBox_L34 (F : Nat) (σ : MS) : Option (Int32 × MS) :=
  some ((-1002 : Int32), σ)
def fm_moveBox (F : Nat) (σ : MS) (x1 : Int32) (x2 : Int32) (x3 : Int32) : Option (Int32 × MS) :=
  bd (fm_isBox F σ x1) (fun r2 => if r2 = 0 then (some ((-1001 : Int32), σ)) else (bd (fm_in F x2 (-99 : Int32) (99 : Int32)) (fun r17 => if r17 = 0 then (fm_moveBox_L34 F σ) else (bd (fm_in F x3 (-99 : Int32) (99 : Int32)) (fun r28 => if r28 = 0 then (fm_moveBox_L34 F σ) else (bd (fm_side F σ x1 (0 : Int32)) (fun r41 => lt (r41 + x2) (fun x4_46 => bd (fm_side F σ x1 (1 : Int32)) (fun r51 => lt (r51 + x3) (fun x5_56 => bd (fm_side F σ x1 (2 : Int32)) (fun r61 => lt (r61 + x2) (fun x6_66 => bd (fm_side F σ x1 (3 : Int32)) (fun r71 => lt (r71 + x3) (fun x7_76 => bd (fm_isRange F x4_46 x6_66) (fun r82 => if r82 = 0 then (fm_moveBox_L98 F σ) else (bd (fm_isRange F x5_56 x7_76) (fun r92 => if r92 = 0 then (fm_moveBox_L98 F σ) else (bd (fm_isNear F σ x4_46 x5_56 x6_66 x7_76 x1) (fun r112 => if r112 = 0 then (bd (fm_records F σ) (fun σ123 => bd (fm_lays F σ123 x1 x4_46 x5_56 x6_66 x7_76) (fun σ136 => fm_moveBox_L145 F F σ136 (0 : Int32) (0 : Int32)))) else (some ((-1003 : Int32), σ)))))))))))))))))))))
set_option maxHeartbeats 4000000 in
set_option maxRecDepth 100000 in
theorem km_moveBox (l : Launch) (D : va_G) (cA : Nat → ClassId) (ad : Nat → Nat) (σ0 : MS) (F : Nat) (a1 : Int32) (a2 : Int32) (a3 : Int32) (r : Int32) (σr : MS) (hf : fm_moveBox F σ0 a1 a2 a3 = some (r, σr)) : KW l D (tyG cA) yX10_moveBox cX10_moveBox 10 (some .int) (rmk 3 78) (wM cA ad σ0) [.ref (ad 0), .int a1, .int a2, .int a3] (some (.int r)) (wM cA ad σr) := by
  refine KW.of (by decide) (Nat.le_of_ble_eq_true rfl) ?_
  intro p e s m below meth c A hAe hA C hr hlk hK hP hD hS ls hl
  have hl : lv_has ls 10 [(0, .ref (ad 0)), (1, .int a1), (2, .int a2), (3, .int a3)] := hl
  have hB145 : ∀ (n145 : Nat) (H : Heap) (locs : List Loc) (σ : MS) (ls : Array Slot) (x8 : Int32) (x9 : Int32), va_P D vwCl (wM cA ad σ) H → va_D A (wM cA ad σ) → va_S A s.heap H locs → lv_has ls 10 [(0, .ref (ad 0)), (8, .int x8), (9, .int x9)] → fm_moveBox_L145 F n145 σ x8 x9 = some (r, σr) → WQ p l e 3 78 s m [.ref (ad 0), .int a1, .int a2, .int a3] below meth c (some (.int r)) D (tyG cA) (wM cA ad σ0) (wM cA ad σr) A H locs (F0 m 145 ls []) := by
    intro n145
    induction n145 with
    | zero =>
      intro H locs σ ls x8 x9 hP hD hS hl hf
      cases (show (none : Option _) = _ from hf)
    | succ n145 ih145 =>
      have hB184 : ∀ (H : Heap) (locs : List Loc) (σ : MS) (ls : Array Slot) (x9 : Int32) (s0 : Int32) (s1 : Int32), va_P D vwCl (wM cA ad σ) H → va_D A (wM cA ad σ) → va_S A s.heap H locs → lv_has ls 10 [(0, .ref (ad 0)), (9, .int x9)] → fm_moveBox_L184 F (fm_moveBox_L145 F n145) σ x9 s0 s1 = some (r, σr) → WQ p l e 3 78 s m [.ref (ad 0), .int a1, .int a2, .int a3] below meth c (some (.int r)) D (tyG cA) (wM cA ad σ0) (wM cA ad σr) A H locs (F0 m 184 ls [.int s0, .int s1]) := by
        intro H locs σ ls x9 s0 s1 hP hD hS hl hf
        unfold fm_moveBox_L184 at hf
        refine lv_iadd C.1 C.2.1 dX10_moveBox_184 ?_
        obtain ⟨x8_185, ex8_185, hf⟩ := lt_some hf
        refine lv_tope ex8_185 ?_
        refine lv_istore (lv' := [(8, .int x8_185), (0, .ref (ad 0)), (9, .int x9)]) C.1 C.2.1 dX10_moveBox_185 hl (by decide) rfl (fun ls hl => ?_)
        obtain ⟨x9_187, ex9_187, hf⟩ := lt_some hf
        refine lv_iinc (v := x9_187) (lv' := [(9, .int x9_187), (8, .int x8_185), (0, .ref (ad 0))]) C.1 C.2.1 dX10_moveBox_187 hl (k := 2) rfl (by rw [ex9_187]; rfl) (by decide) rfl (fun ls hl => ?_)
        refine lv_goto (tgt := 145) C.1 C.2.1 dX10_moveBox_190 (by decide) ?_
        exact ih145 _ _ _ ls _ _ hP hD hS (lv_sub hl [2, 1, 0] rfl) hf
      have hB183 : ∀ (H : Heap) (locs : List Loc) (σ : MS) (ls : Array Slot) (x9 : Int32) (s0 : Int32), va_P D vwCl (wM cA ad σ) H → va_D A (wM cA ad σ) → va_S A s.heap H locs → lv_has ls 10 [(0, .ref (ad 0)), (9, .int x9)] → fm_moveBox_L183 F (fm_moveBox_L145 F n145) σ x9 s0 = some (r, σr) → WQ p l e 3 78 s m [.ref (ad 0), .int a1, .int a2, .int a3] below meth c (some (.int r)) D (tyG cA) (wM cA ad σ0) (wM cA ad σr) A H locs (F0 m 183 ls [.int s0]) := by
        intro H locs σ ls x9 s0 hP hD hS hl hf
        unfold fm_moveBox_L183 at hf
        refine lv_iconst (v := (0 : Int32)) C.1 C.2.1 dX10_moveBox_183 (by decide) ?_
        exact hB184 _ _ _ ls _ _ _ hP hD hS (lv_sub hl [0, 1] rfl) hf
      intro H locs σ ls x8 x9 hP hD hS hl hf
      have hf : fm_moveBox_L145_c F (fm_moveBox_L145 F n145) σ x8 x9 = some (r, σr) := hf
      unfold fm_moveBox_L145_c at hf
      refine lv_iload C.1 C.2.1 dX10_moveBox_145 (lv_at hl 2 rfl) ?_
      refine lv_aload_n C.1 C.2.1 dX10_moveBox_147 rfl (lv_at hl 0 rfl) ?_
      refine gm_row C hK hP dX10_moveBox_148 ?_
      refine lv_iconst (v := (1 : Int32)) C.1 C.2.1 dX10_moveBox_151 (by decide) ?_
      obtain ⟨hi152, hf⟩ := gd_some hf
      refine lm_row C hK hP hi152 dX10_moveBox_152 ?_
      refine lv_icmp_ge (tgt := 193) C.1 C.2.1 dX10_moveBox_153 (by decide) (fun c153 => ?_) (fun c153 => ?_)
      · have hf := br_p c153 hf
        refine lv_iload C.1 C.2.1 dX10_moveBox_193 (lv_at hl 1 rfl) ?_
        obtain ⟨rfl, rfl⟩ := Prod.mk.inj (Option.some.inj hf)
        exact KW.iret C hr hlk hK hAe hP hD hS rfl dX10_moveBox_195
      · have hf := br_n c153 hf
        refine lv_iload C.1 C.2.1 dX10_moveBox_156 (lv_at hl 1 rfl) ?_
        refine lv_aload_n C.1 C.2.1 dX10_moveBox_158 rfl (lv_at hl 0 rfl) ?_
        refine lv_iload C.1 C.2.1 dX10_moveBox_159 (lv_at hl 2 rfl) ?_
        refine lv_bipush (v := (6 : Int32)) C.1 C.2.1 dX10_moveBox_161 (by decide) ?_
        obtain ⟨r163, hc163, hf⟩ := bd_some hf
        refine callRV (As := [_, _]) C hK hP wv_X10_95 hl (km_of l D cA ad _ F _ _ r163 hc163) (rcM hK hP) rfl rfl rfl (Nat.le_of_ble_eq_true rfl) ⟨Nat.le_refl _, Nat.le_refl _⟩ dX10_moveBox_163 ?_
        refine lv_iconst (v := (1 : Int32)) C.1 C.2.1 dX10_moveBox_166 (by decide) ?_
        refine lv_icmp_ne (tgt := 183) C.1 C.2.1 dX10_moveBox_167 (by decide) (fun c167 => ?_) (fun c167 => ?_)
        · have hf := br_n c167 hf
          exact hB183 _ _ _ ls _ _ hP hD hS (lv_sub hl [0, 2] rfl) hf
        · have hf := br_p c167 hf
          refine lv_aload_n C.1 C.2.1 dX10_moveBox_170 rfl (lv_at hl 0 rfl) ?_
          refine lv_iload C.1 C.2.1 dX10_moveBox_171 (lv_at hl 2 rfl) ?_
          obtain ⟨r173, hc173, hf⟩ := bd_some hf
          refine callRV (As := [_]) C hK hP wv_X10_98 hl (km_isTouched l D cA ad _ F _ r173 hc173) (rcM hK hP) rfl rfl rfl (Nat.le_of_ble_eq_true rfl) ⟨Nat.le_refl _, Nat.le_refl _⟩ dX10_moveBox_173 ?_
          refine lv_if_eq (tgt := 183) C.1 C.2.1 dX10_moveBox_176 (by decide) (fun c176 => ?_) (fun c176 => ?_)
          · have hf := br_p c176 hf
            exact hB183 _ _ _ ls _ _ hP hD hS (lv_sub hl [0, 2] rfl) hf
          · have hf := br_n c176 hf
            refine lv_iconst (v := (1 : Int32)) C.1 C.2.1 dX10_moveBox_179 (by decide) ?_
            refine lv_goto (tgt := 184) C.1 C.2.1 dX10_moveBox_180 (by decide) ?_
            exact hB184 _ _ _ ls _ _ _ hP hD hS (lv_sub hl [0, 2] rfl) hf
  have hB98 : ∀ (H : Heap) (locs : List Loc) (σ : MS) (ls : Array Slot), va_P D vwCl (wM cA ad σ) H → va_D A (wM cA ad σ) → va_S A s.heap H locs → lv_has ls 10 [(0, .ref (ad 0))] → fm_moveBox_L98 F σ = some (r, σr) → WQ p l e 3 78 s m [.ref (ad 0), .int a1, .int a2, .int a3] below meth c (some (.int r)) D (tyG cA) (wM cA ad σ0) (wM cA ad σr) A H locs (F0 m 98 ls []) := by
    intro H locs σ ls hP hD hS hl hf
    unfold fm_moveBox_L98 at hf
    refine lv_sipush (v := (-1002 : Int32)) C.1 C.2.1 dX10_moveBox_98 (by decide) ?_
    obtain ⟨rfl, rfl⟩ := Prod.mk.inj (Option.some.inj hf)
    exact KW.iret C hr hlk hK hAe hP hD hS rfl dX10_moveBox_101
  have hB34 : ∀ (H : Heap) (locs : List Loc) (σ : MS) (ls : Array Slot), va_P D vwCl (wM cA ad σ) H → va_D A (wM cA ad σ) → va_S A s.heap H locs → lv_has ls 10 [(0, .ref (ad 0))] → fm_moveBox_L34 F σ = some (r, σr) → WQ p l e 3 78 s m [.ref (ad 0), .int a1, .int a2, .int a3] below meth c (some (.int r)) D (tyG cA) (wM cA ad σ0) (wM cA ad σr) A H locs (F0 m 34 ls []) := by
    intro H locs σ ls hP hD hS hl hf
    unfold fm_moveBox_L34 at hf
    refine lv_sipush (v := (-1002 : Int32)) C.1 C.2.1 dX10_moveBox_34 (by decide) ?_
    obtain ⟨rfl, rfl⟩ := Prod.mk.inj (Option.some.inj hf)
    exact KW.iret C hr hlk hK hAe hP hD hS rfl dX10_moveBox_37
  unfold fm_moveBox at hf
  refine lv_aload_n C.1 C.2.1 dX10_moveBox_0 rfl (lv_at hl 0 rfl) ?_
  refine lv_iload_n C.1 C.2.1 dX10_moveBox_1 rfl (lv_at hl 1 rfl) ?_
  obtain ⟨r2, hc2, hf⟩ := bd_some hf
  refine callRV (As := [_]) C hK hP wv_X10_91 hl (km_isBox l D cA ad _ F _ r2 hc2) (rcM hK hP) rfl rfl rfl (Nat.le_of_ble_eq_true rfl) ⟨Nat.le_refl _, Nat.le_refl _⟩ dX10_moveBox_2 ?_
  refine lv_if_ne (tgt := 12) C.1 C.2.1 dX10_moveBox_5 (by decide) (fun c5 => ?_) (fun c5 => ?_)
  · have hf := br_n c5 hf
    refine lv_iload_n C.1 C.2.1 dX10_moveBox_12 rfl (lv_at hl 2 rfl) ?_
    refine lv_bipush (v := (-99 : Int32)) C.1 C.2.1 dX10_moveBox_13 (by decide) ?_
    refine lv_bipush (v := (99 : Int32)) C.1 C.2.1 dX10_moveBox_15 (by decide) ?_
    obtain ⟨r17, hc17, hf⟩ := bd_some hf
    refine callRS (As := [_, _, _]) C hK hP wv_X10_68 hl (km_in l D cA _ F _ _ _ r17 hc17) rfl rfl rfl (Nat.le_of_ble_eq_true rfl) ⟨Nat.le_refl _, Nat.le_refl _⟩ dX10_moveBox_17 ?_
    refine lv_if_eq (tgt := 34) C.1 C.2.1 dX10_moveBox_20 (by decide) (fun c20 => ?_) (fun c20 => ?_)
    · have hf := br_p c20 hf
      exact hB34 _ _ _ ls hP hD hS (lv_sub hl [0] rfl) hf
    · have hf := br_n c20 hf
      refine lv_iload_n C.1 C.2.1 dX10_moveBox_23 rfl (lv_at hl 3 rfl) ?_
      refine lv_bipush (v := (-99 : Int32)) C.1 C.2.1 dX10_moveBox_24 (by decide) ?_
      refine lv_bipush (v := (99 : Int32)) C.1 C.2.1 dX10_moveBox_26 (by decide) ?_
      obtain ⟨r28, hc28, hf⟩ := bd_some hf
      refine callRS (As := [_, _, _]) C hK hP wv_X10_68 hl (km_in l D cA _ F _ _ _ r28 hc28) rfl rfl rfl (Nat.le_of_ble_eq_true rfl) ⟨Nat.le_refl _, Nat.le_refl _⟩ dX10_moveBox_28 ?_
      refine lv_if_ne (tgt := 38) C.1 C.2.1 dX10_moveBox_31 (by decide) (fun c31 => ?_) (fun c31 => ?_)
      · have hf := br_n c31 hf
        refine lv_aload_n C.1 C.2.1 dX10_moveBox_38 rfl (lv_at hl 0 rfl) ?_
        refine lv_iload_n C.1 C.2.1 dX10_moveBox_39 rfl (lv_at hl 1 rfl) ?_
        refine lv_iconst (v := (0 : Int32)) C.1 C.2.1 dX10_moveBox_40 (by decide) ?_
        obtain ⟨r41, hc41, hf⟩ := bd_some hf
        refine callRV (As := [_, _]) C hK hP wv_X10_72 hl (km_side l D cA ad _ F _ _ r41 hc41) (rcM hK hP) rfl rfl rfl (Nat.le_of_ble_eq_true rfl) ⟨Nat.le_refl _, Nat.le_refl _⟩ dX10_moveBox_41 ?_
        refine lv_iload_n C.1 C.2.1 dX10_moveBox_44 rfl (lv_at hl 2 rfl) ?_
        refine lv_iadd C.1 C.2.1 dX10_moveBox_45 ?_
        obtain ⟨x4_46, ex4_46, hf⟩ := lt_some hf
        refine lv_tope ex4_46 ?_
        refine lv_istore (lv' := [(4, .int x4_46), (0, .ref (ad 0)), (1, .int a1), (2, .int a2), (3, .int a3)]) C.1 C.2.1 dX10_moveBox_46 hl (by decide) rfl (fun ls hl => ?_)
        refine lv_aload_n C.1 C.2.1 dX10_moveBox_48 rfl (lv_at hl 1 rfl) ?_
        refine lv_iload_n C.1 C.2.1 dX10_moveBox_49 rfl (lv_at hl 2 rfl) ?_
        refine lv_iconst (v := (1 : Int32)) C.1 C.2.1 dX10_moveBox_50 (by decide) ?_
        obtain ⟨r51, hc51, hf⟩ := bd_some hf
        refine callRV (As := [_, _]) C hK hP wv_X10_72 hl (km_side l D cA ad _ F _ _ r51 hc51) (rcM hK hP) rfl rfl rfl (Nat.le_of_ble_eq_true rfl) ⟨Nat.le_refl _, Nat.le_refl _⟩ dX10_moveBox_51 ?_
        refine lv_iload_n C.1 C.2.1 dX10_moveBox_54 rfl (lv_at hl 4 rfl) ?_
        refine lv_iadd C.1 C.2.1 dX10_moveBox_55 ?_
        obtain ⟨x5_56, ex5_56, hf⟩ := lt_some hf
        refine lv_tope ex5_56 ?_
        refine lv_istore (lv' := [(5, .int x5_56), (4, .int x4_46), (0, .ref (ad 0)), (1, .int a1), (2, .int a2), (3, .int a3)]) C.1 C.2.1 dX10_moveBox_56 hl (by decide) rfl (fun ls hl => ?_)
        refine lv_aload_n C.1 C.2.1 dX10_moveBox_58 rfl (lv_at hl 2 rfl) ?_
        refine lv_iload_n C.1 C.2.1 dX10_moveBox_59 rfl (lv_at hl 3 rfl) ?_
        refine lv_iconst (v := (2 : Int32)) C.1 C.2.1 dX10_moveBox_60 (by decide) ?_
        obtain ⟨r61, hc61, hf⟩ := bd_some hf
        refine callRV (As := [_, _]) C hK hP wv_X10_72 hl (km_side l D cA ad _ F _ _ r61 hc61) (rcM hK hP) rfl rfl rfl (Nat.le_of_ble_eq_true rfl) ⟨Nat.le_refl _, Nat.le_refl _⟩ dX10_moveBox_61 ?_
        refine lv_iload_n C.1 C.2.1 dX10_moveBox_64 rfl (lv_at hl 4 rfl) ?_
        refine lv_iadd C.1 C.2.1 dX10_moveBox_65 ?_
        obtain ⟨x6_66, ex6_66, hf⟩ := lt_some hf
        refine lv_tope ex6_66 ?_
        refine lv_istore (lv' := [(6, .int x6_66), (5, .int x5_56), (4, .int x4_46), (0, .ref (ad 0)), (1, .int a1), (2, .int a2), (3, .int a3)]) C.1 C.2.1 dX10_moveBox_66 hl (by decide) rfl (fun ls hl => ?_)
        refine lv_aload_n C.1 C.2.1 dX10_moveBox_68 rfl (lv_at hl 3 rfl) ?_
        refine lv_iload_n C.1 C.2.1 dX10_moveBox_69 rfl (lv_at hl 4 rfl) ?_
        refine lv_iconst (v := (3 : Int32)) C.1 C.2.1 dX10_moveBox_70 (by decide) ?_
        obtain ⟨r71, hc71, hf⟩ := bd_some hf
        refine callRV (As := [_, _]) C hK hP wv_X10_72 hl (km_side l D cA ad _ F _ _ r71 hc71) (rcM hK hP) rfl rfl rfl (Nat.le_of_ble_eq_true rfl) ⟨Nat.le_refl _, Nat.le_refl _⟩ dX10_moveBox_71 ?_
        refine lv_iload_n C.1 C.2.1 dX10_moveBox_74 rfl (lv_at hl 6 rfl) ?_
        refine lv_iadd C.1 C.2.1 dX10_moveBox_75 ?_
        obtain ⟨x7_76, ex7_76, hf⟩ := lt_some hf
        refine lv_tope ex7_76 ?_
        refine lv_istore (lv' := [(7, .int x7_76), (6, .int x6_66), (5, .int x5_56), (4, .int x4_46), (0, .ref (ad 0)), (1, .int a1), (2, .int a2), (3, .int a3)]) C.1 C.2.1 dX10_moveBox_76 hl (by decide) rfl (fun ls hl => ?_)
        refine lv_iload C.1 C.2.1 dX10_moveBox_78 (lv_at hl 3 rfl) ?_
        refine lv_iload C.1 C.2.1 dX10_moveBox_80 (lv_at hl 1 rfl) ?_
        obtain ⟨r82, hc82, hf⟩ := bd_some hf
        refine callRS (As := [_, _]) C hK hP wv_X10_76 hl (km_isRange l D cA _ F _ _ r82 hc82) rfl rfl rfl (Nat.le_of_ble_eq_true rfl) ⟨Nat.le_refl _, Nat.le_refl _⟩ dX10_moveBox_82 ?_
        refine lv_if_eq (tgt := 98) C.1 C.2.1 dX10_moveBox_85 (by decide) (fun c85 => ?_) (fun c85 => ?_)
        · have hf := br_p c85 hf
          exact hB98 _ _ _ ls hP hD hS (lv_sub hl [4] rfl) hf
        · have hf := br_n c85 hf
          refine lv_iload C.1 C.2.1 dX10_moveBox_88 (lv_at hl 2 rfl) ?_
          refine lv_iload C.1 C.2.1 dX10_moveBox_90 (lv_at hl 0 rfl) ?_
          obtain ⟨r92, hc92, hf⟩ := bd_some hf
          refine callRS (As := [_, _]) C hK hP wv_X10_76 hl (km_isRange l D cA _ F _ _ r92 hc92) rfl rfl rfl (Nat.le_of_ble_eq_true rfl) ⟨Nat.le_refl _, Nat.le_refl _⟩ dX10_moveBox_92 ?_
          refine lv_if_ne (tgt := 102) C.1 C.2.1 dX10_moveBox_95 (by decide) (fun c95 => ?_) (fun c95 => ?_)
          · have hf := br_n c95 hf
            refine lv_aload_n C.1 C.2.1 dX10_moveBox_102 rfl (lv_at hl 4 rfl) ?_
            refine lv_iload C.1 C.2.1 dX10_moveBox_103 (lv_at hl 3 rfl) ?_
            refine lv_iload C.1 C.2.1 dX10_moveBox_105 (lv_at hl 2 rfl) ?_
            refine lv_iload C.1 C.2.1 dX10_moveBox_107 (lv_at hl 1 rfl) ?_
            refine lv_iload C.1 C.2.1 dX10_moveBox_109 (lv_at hl 0 rfl) ?_
            refine lv_iload_n C.1 C.2.1 dX10_moveBox_111 rfl (lv_at hl 5 rfl) ?_
            obtain ⟨r112, hc112, hf⟩ := bd_some hf
            refine callRV (As := [_, _, _, _, _]) C hK hP wv_X10_80 hl (km_isNear l D cA ad _ F _ _ _ _ _ r112 hc112) (rcM hK hP) rfl rfl rfl (Nat.le_of_ble_eq_true rfl) ⟨Nat.le_refl _, Nat.le_refl _⟩ dX10_moveBox_112 ?_
            refine lv_if_eq (tgt := 122) C.1 C.2.1 dX10_moveBox_115 (by decide) (fun c115 => ?_) (fun c115 => ?_)
            · have hf := br_p c115 hf
              refine lv_aload_n C.1 C.2.1 dX10_moveBox_122 rfl (lv_at hl 4 rfl) ?_
              obtain ⟨σ123, hc123, hf⟩ := bd_some hf
              refine callWV (As := []) C hK hP hD hA hS wv_X10_84 hl (km_records l D cA ad _ F σ123 hc123) (rcM hK hP) rfl rfl rfl (Nat.le_of_ble_eq_true rfl) ⟨Nat.le_refl _, Nat.le_refl _⟩ dX10_moveBox_123 (fun H locs hP hD hS => ?_)
              refine lv_aload_n C.1 C.2.1 dX10_moveBox_126 rfl (lv_at hl 4 rfl) ?_
              refine lv_iload_n C.1 C.2.1 dX10_moveBox_127 rfl (lv_at hl 5 rfl) ?_
              refine lv_iload C.1 C.2.1 dX10_moveBox_128 (lv_at hl 3 rfl) ?_
              refine lv_iload C.1 C.2.1 dX10_moveBox_130 (lv_at hl 2 rfl) ?_
              refine lv_iload C.1 C.2.1 dX10_moveBox_132 (lv_at hl 1 rfl) ?_
              refine lv_iload C.1 C.2.1 dX10_moveBox_134 (lv_at hl 0 rfl) ?_
              obtain ⟨σ136, hc136, hf⟩ := bd_some hf
              refine callWV (As := [_, _, _, _, _]) C hK hP hD hA hS wv_X10_87 hl (km_lays l D cA ad _ F _ _ _ _ _ σ136 hc136) (rcM hK hP) rfl rfl rfl (Nat.le_of_ble_eq_true rfl) ⟨Nat.le_refl _, Nat.le_refl _⟩ dX10_moveBox_136 (fun H locs hP hD hS => ?_)
              refine lv_iconst (v := (0 : Int32)) C.1 C.2.1 dX10_moveBox_139 (by decide) ?_
              refine lv_istore (lv' := [(8, .int (0 : Int32)), (7, .int x7_76), (6, .int x6_66), (5, .int x5_56), (4, .int x4_46), (0, .ref (ad 0)), (1, .int a1), (2, .int a2), (3, .int a3)]) C.1 C.2.1 dX10_moveBox_140 hl (by decide) rfl (fun ls hl => ?_)
              refine lv_iconst (v := (0 : Int32)) C.1 C.2.1 dX10_moveBox_142 (by decide) ?_
              refine lv_istore (lv' := [(9, .int (0 : Int32)), (8, .int (0 : Int32)), (7, .int x7_76), (6, .int x6_66), (5, .int x5_56), (4, .int x4_46), (0, .ref (ad 0)), (1, .int a1), (2, .int a2), (3, .int a3)]) C.1 C.2.1 dX10_moveBox_143 hl (by decide) rfl (fun ls hl => ?_)
              exact hB145 F _ _ _ ls _ _ hP hD hS (lv_sub hl [6, 1, 0] rfl) hf
            · have hf := br_n c115 hf
              refine lv_sipush (v := (-1003 : Int32)) C.1 C.2.1 dX10_moveBox_118 (by decide) ?_
              obtain ⟨rfl, rfl⟩ := Prod.mk.inj (Option.some.inj hf)
              exact KW.iret C hr hlk hK hAe hP hD hS rfl dX10_moveBox_121
          · have hf := br_p c95 hf
            exact hB98 _ _ _ ls hP hD hS (lv_sub hl [4] rfl) hf
      · have hf := br_p c31 hf
        exact hB34 _ _ _ ls hP hD hS (lv_sub hl [0] rfl) hf
  · have hf := br_p c5 hf
    refine lv_sipush (v := (-1001 : Int32)) C.1 C.2.1 dX10_moveBox_8 (by decide) ?_
    obtain ⟨rfl, rfl⟩ := Prod.mk.inj (Option.some.inj hf)
    exact KW.iret C hr hlk hK hAe hP hD hS rfl dX10_moveBox_11
def fm_box_L81 (F : Nat) (σ : MS) (k42 : Int32 → Int32 → Int32 → Option (Int32)) (x1 : Int32) (x4 : Int32) (s0 : Int32) (s1 : Int32) : Option (Int32) :=
  lt (s1 + s0) (fun x3_82 => lt (x4 + (1 : Int32)) (fun x4_83 => k42 x1 x3_82 x4_83))
def fm_box_L76 (F : Nat) (σ : MS) (k42 : Int32 → Int32 → Int32 → Option (Int32)) (x1 : Int32) (x4 : Int32) (s0 : Int32) : Option (Int32) :=
  fm_box_L81 F σ k42 x1 x4 (1 : Int32) s0
def fm_box_L42_c (F : Nat) (σ : MS) (k42 : Int32 → Int32 → Int32 → Option (Int32)) (x1 : Int32) (x3 : Int32) (x4 : Int32) : Option (Int32) :=
  gd (ix (1 : Int32) 8625 = true) (if (ms_row σ (1 : Int32).toNatClampNeg) ≤ x4 then (some x3) else (bd (fm_of F σ x4 (0 : Int32)) (fun r58 => if r58 = x1 then (fm_box_L76 F σ k42 x1 x4 x3) else (bd (fm_of F σ x4 (3 : Int32)) (fun r69 => if r69 = x1 then (fm_box_L76 F σ k42 x1 x4 x3) else (fm_box_L81 F σ k42 x1 x4 (0 : Int32) x3))))))
def fm_box_L42 (F : Nat) (σ : MS) (n : Nat) (x1 : Int32) (x3 : Int32) (x4 : Int32) : Option (Int32) := lpN (fun (k : Int32 × Int32 × Int32 → Option (Int32)) a => fm_box_L42_c F σ (fun x1 x3 x4 => k (x1, x3, x4)) a.1 a.2.1 a.2.2) n (x1, x3, x4)
def fm_box (F : Nat) (σ : MS) (x1 : Int32) (x2 : Int32) : Option (Int32) :=
  bd (fm_isBox F σ x1) (fun r2 => if r2 = 0 then (some (-1001 : Int32)) else (bd (fm_in F x2 (0 : Int32) (4 : Int32)) (fun r15 => if r15 = 0 then (some (-1002 : Int32)) else (if (4 : Int32) ≤ x2 then (fm_box_L42 F σ F x1 (0 : Int32) (0 : Int32)) else (bd (fm_side F σ x1 x2) (fun r33 => some r33))))))
set_option maxHeartbeats 4000000 in
set_option maxRecDepth 100000 in
theorem km_box (l : Launch) (D : va_G) (cA : Nat → ClassId) (ad : Nat → Nat) (σ : MS) (F : Nat) (a1 : Int32) (a2 : Int32) (r : Int32) (hf : fm_box F σ a1 a2 = some r) : KR l D (tyG cA) yX10_box cX10_box 5 (some .int) (rmk 2 43) (wM cA ad σ) [.ref (ad 0), .int a1, .int a2] r := by
  refine KR.of (by decide) (Nat.le_of_ble_eq_true rfl) ?_
  intro p e s m below meth c C hr hlk hK hP ls hl
  have hl : lv_has ls 5 [(0, .ref (ad 0)), (1, .int a1), (2, .int a2)] := hl
  have hB42 : ∀ (n42 : Nat) (ls : Array Slot) (x1 : Int32) (x3 : Int32) (x4 : Int32), lv_has ls 5 [(0, .ref (ad 0)), (1, .int x1), (3, .int x3), (4, .int x4)] → fm_box_L42 F σ n42 x1 x3 x4 = some r → WR p l e 2 43 s m [.ref (ad 0), .int a1, .int a2] below meth c r (F0 m 42 ls []) := by
    intro n42
    induction n42 with
    | zero =>
      intro ls x1 x3 x4 hl hf
      cases (show (none : Option _) = _ from hf)
    | succ n42 ih42 =>
      have hB81 : ∀ (ls : Array Slot) (x1 : Int32) (x4 : Int32) (s0 : Int32) (s1 : Int32), lv_has ls 5 [(0, .ref (ad 0)), (1, .int x1), (4, .int x4)] → fm_box_L81 F σ (fm_box_L42 F σ n42) x1 x4 s0 s1 = some r → WR p l e 2 43 s m [.ref (ad 0), .int a1, .int a2] below meth c r (F0 m 81 ls [.int s0, .int s1]) := by
        intro ls x1 x4 s0 s1 hl hf
        unfold fm_box_L81 at hf
        refine lv_iadd C.1 C.2.1 dX10_box_81 ?_
        obtain ⟨x3_82, ex3_82, hf⟩ := lt_some hf
        refine lv_tope ex3_82 ?_
        refine lv_istore_n (lv' := [(3, .int x3_82), (0, .ref (ad 0)), (1, .int x1), (4, .int x4)]) C.1 C.2.1 dX10_box_82 rfl hl (by decide) rfl (fun ls hl => ?_)
        obtain ⟨x4_83, ex4_83, hf⟩ := lt_some hf
        refine lv_iinc (v := x4_83) (lv' := [(4, .int x4_83), (3, .int x3_82), (0, .ref (ad 0)), (1, .int x1)]) C.1 C.2.1 dX10_box_83 hl (k := 3) rfl (by rw [ex4_83]; rfl) (by decide) rfl (fun ls hl => ?_)
        refine lv_goto (tgt := 42) C.1 C.2.1 dX10_box_86 (by decide) ?_
        exact ih42 ls _ _ _ (lv_sub hl [2, 3, 1, 0] rfl) hf
      have hB76 : ∀ (ls : Array Slot) (x1 : Int32) (x4 : Int32) (s0 : Int32), lv_has ls 5 [(0, .ref (ad 0)), (1, .int x1), (4, .int x4)] → fm_box_L76 F σ (fm_box_L42 F σ n42) x1 x4 s0 = some r → WR p l e 2 43 s m [.ref (ad 0), .int a1, .int a2] below meth c r (F0 m 76 ls [.int s0]) := by
        intro ls x1 x4 s0 hl hf
        unfold fm_box_L76 at hf
        refine lv_iconst (v := (1 : Int32)) C.1 C.2.1 dX10_box_76 (by decide) ?_
        refine lv_goto (tgt := 81) C.1 C.2.1 dX10_box_77 (by decide) ?_
        exact hB81 ls _ _ _ _ (lv_sub hl [0, 1, 2] rfl) hf
      intro ls x1 x3 x4 hl hf
      have hf : fm_box_L42_c F σ (fm_box_L42 F σ n42) x1 x3 x4 = some r := hf
      unfold fm_box_L42_c at hf
      refine lv_iload C.1 C.2.1 dX10_box_42 (lv_at hl 3 rfl) ?_
      refine lv_aload_n C.1 C.2.1 dX10_box_44 rfl (lv_at hl 0 rfl) ?_
      refine gm_row C hK hP dX10_box_45 ?_
      refine lv_iconst (v := (1 : Int32)) C.1 C.2.1 dX10_box_48 (by decide) ?_
      obtain ⟨hi49, hf⟩ := gd_some hf
      refine lm_row C hK hP hi49 dX10_box_49 ?_
      refine lv_icmp_ge (tgt := 89) C.1 C.2.1 dX10_box_50 (by decide) (fun c50 => ?_) (fun c50 => ?_)
      · have hf := br_p c50 hf
        refine lv_iload_n C.1 C.2.1 dX10_box_89 rfl (lv_at hl 2 rfl) ?_
        exact KR.iret C hr hlk (Option.some.inj hf) dX10_box_90
      · have hf := br_n c50 hf
        refine lv_iload_n C.1 C.2.1 dX10_box_53 rfl (lv_at hl 2 rfl) ?_
        refine lv_aload_n C.1 C.2.1 dX10_box_54 rfl (lv_at hl 0 rfl) ?_
        refine lv_iload C.1 C.2.1 dX10_box_55 (lv_at hl 3 rfl) ?_
        refine lv_iconst (v := (0 : Int32)) C.1 C.2.1 dX10_box_57 (by decide) ?_
        obtain ⟨r58, hc58, hf⟩ := bd_some hf
        refine callRV (As := [_, _]) C hK hP wv_X10_95 hl (km_of l D cA ad _ F _ _ r58 hc58) (rcM hK hP) rfl rfl rfl (Nat.le_of_ble_eq_true rfl) ⟨Nat.le_refl _, Nat.le_refl _⟩ dX10_box_58 ?_
        refine lv_iload_n C.1 C.2.1 dX10_box_61 rfl (lv_at hl 1 rfl) ?_
        refine lv_icmp_eq (tgt := 76) C.1 C.2.1 dX10_box_62 (by decide) (fun c62 => ?_) (fun c62 => ?_)
        · have hf := br_p c62 hf
          exact hB76 ls _ _ _ (lv_sub hl [0, 1, 3] rfl) hf
        · have hf := br_n c62 hf
          refine lv_aload_n C.1 C.2.1 dX10_box_65 rfl (lv_at hl 0 rfl) ?_
          refine lv_iload C.1 C.2.1 dX10_box_66 (lv_at hl 3 rfl) ?_
          refine lv_iconst (v := (3 : Int32)) C.1 C.2.1 dX10_box_68 (by decide) ?_
          obtain ⟨r69, hc69, hf⟩ := bd_some hf
          refine callRV (As := [_, _]) C hK hP wv_X10_95 hl (km_of l D cA ad _ F _ _ r69 hc69) (rcM hK hP) rfl rfl rfl (Nat.le_of_ble_eq_true rfl) ⟨Nat.le_refl _, Nat.le_refl _⟩ dX10_box_69 ?_
          refine lv_iload_n C.1 C.2.1 dX10_box_72 rfl (lv_at hl 1 rfl) ?_
          refine lv_icmp_ne (tgt := 80) C.1 C.2.1 dX10_box_73 (by decide) (fun c73 => ?_) (fun c73 => ?_)
          · have hf := br_n c73 hf
            refine lv_iconst (v := (0 : Int32)) C.1 C.2.1 dX10_box_80 (by decide) ?_
            exact hB81 ls _ _ _ _ (lv_sub hl [0, 1, 3] rfl) hf
          · have hf := br_p c73 hf
            exact hB76 ls _ _ _ (lv_sub hl [0, 1, 3] rfl) hf
  unfold fm_box at hf
  refine lv_aload_n C.1 C.2.1 dX10_box_0 rfl (lv_at hl 0 rfl) ?_
  refine lv_iload_n C.1 C.2.1 dX10_box_1 rfl (lv_at hl 1 rfl) ?_
  obtain ⟨r2, hc2, hf⟩ := bd_some hf
  refine callRV (As := [_]) C hK hP wv_X10_91 hl (km_isBox l D cA ad _ F _ r2 hc2) (rcM hK hP) rfl rfl rfl (Nat.le_of_ble_eq_true rfl) ⟨Nat.le_refl _, Nat.le_refl _⟩ dX10_box_2 ?_
  refine lv_if_ne (tgt := 12) C.1 C.2.1 dX10_box_5 (by decide) (fun c5 => ?_) (fun c5 => ?_)
  · have hf := br_n c5 hf
    refine lv_iload_n C.1 C.2.1 dX10_box_12 rfl (lv_at hl 2 rfl) ?_
    refine lv_iconst (v := (0 : Int32)) C.1 C.2.1 dX10_box_13 (by decide) ?_
    refine lv_iconst (v := (4 : Int32)) C.1 C.2.1 dX10_box_14 (by decide) ?_
    obtain ⟨r15, hc15, hf⟩ := bd_some hf
    refine callRS (As := [_, _, _]) C hK hP wv_X10_68 hl (km_in l D cA _ F _ _ _ r15 hc15) rfl rfl rfl (Nat.le_of_ble_eq_true rfl) ⟨Nat.le_refl _, Nat.le_refl _⟩ dX10_box_15 ?_
    refine lv_if_ne (tgt := 25) C.1 C.2.1 dX10_box_18 (by decide) (fun c18 => ?_) (fun c18 => ?_)
    · have hf := br_n c18 hf
      refine lv_iload_n C.1 C.2.1 dX10_box_25 rfl (lv_at hl 2 rfl) ?_
      refine lv_iconst (v := (4 : Int32)) C.1 C.2.1 dX10_box_26 (by decide) ?_
      refine lv_icmp_ge (tgt := 37) C.1 C.2.1 dX10_box_27 (by decide) (fun c27 => ?_) (fun c27 => ?_)
      · have hf := br_p c27 hf
        refine lv_iconst (v := (0 : Int32)) C.1 C.2.1 dX10_box_37 (by decide) ?_
        refine lv_istore_n (lv' := [(3, .int (0 : Int32)), (0, .ref (ad 0)), (1, .int a1), (2, .int a2)]) C.1 C.2.1 dX10_box_38 rfl hl (by decide) rfl (fun ls hl => ?_)
        refine lv_iconst (v := (0 : Int32)) C.1 C.2.1 dX10_box_39 (by decide) ?_
        refine lv_istore (lv' := [(4, .int (0 : Int32)), (3, .int (0 : Int32)), (0, .ref (ad 0)), (1, .int a1), (2, .int a2)]) C.1 C.2.1 dX10_box_40 hl (by decide) rfl (fun ls hl => ?_)
        exact hB42 F ls _ _ _ (lv_sub hl [2, 3, 1, 0] rfl) hf
      · have hf := br_n c27 hf
        refine lv_aload_n C.1 C.2.1 dX10_box_30 rfl (lv_at hl 0 rfl) ?_
        refine lv_iload_n C.1 C.2.1 dX10_box_31 rfl (lv_at hl 1 rfl) ?_
        refine lv_iload_n C.1 C.2.1 dX10_box_32 rfl (lv_at hl 2 rfl) ?_
        obtain ⟨r33, hc33, hf⟩ := bd_some hf
        refine callRV (As := [_, _]) C hK hP wv_X10_72 hl (km_side l D cA ad _ F _ _ r33 hc33) (rcM hK hP) rfl rfl rfl (Nat.le_of_ble_eq_true rfl) ⟨Nat.le_refl _, Nat.le_refl _⟩ dX10_box_33 ?_
        exact KR.iret C hr hlk (Option.some.inj hf) dX10_box_36
    · have hf := br_p c18 hf
      refine lv_sipush (v := (-1002 : Int32)) C.1 C.2.1 dX10_box_21 (by decide) ?_
      exact KR.iret C hr hlk (Option.some.inj hf) dX10_box_24
  · have hf := br_p c5 hf
    refine lv_sipush (v := (-1001 : Int32)) C.1 C.2.1 dX10_box_8 (by decide) ?_
    exact KR.iret C hr hlk (Option.some.inj hf) dX10_box_11
def fm_blocker_L32 (F : Nat) (σ : MS) (s0 : Int32) : Option (Int32) :=
  some s0
def fm_blocker_L29 (F : Nat) (σ : MS) : Option (Int32) :=
  fm_blocker_L32 F σ (-1002 : Int32)
def fm_blocker (F : Nat) (σ : MS) (x1 : Int32) (x2 : Int32) : Option (Int32) :=
  bd (fm_in F x1 (0 : Int32) (99 : Int32)) (fun r4 => if r4 = 0 then (fm_blocker_L29 F σ) else (bd (fm_in F x2 (0 : Int32) (99 : Int32)) (fun r14 => if r14 = 0 then (fm_blocker_L29 F σ) else (bd (fm_blockerOf F σ x1 x2) (fun r23 => fm_blocker_L32 F σ r23)))))
set_option maxHeartbeats 4000000 in
set_option maxRecDepth 100000 in
theorem km_blocker (l : Launch) (D : va_G) (cA : Nat → ClassId) (ad : Nat → Nat) (σ : MS) (F : Nat) (a1 : Int32) (a2 : Int32) (r : Int32) (hf : fm_blocker F σ a1 a2 = some r) : KR l D (tyG cA) yX10_blocker cX10_blocker 3 (some .int) (rmk 2 45) (wM cA ad σ) [.ref (ad 0), .int a1, .int a2] r := by
  refine KR.of (by decide) (Nat.le_of_ble_eq_true rfl) ?_
  intro p e s m below meth c C hr hlk hK hP ls hl
  have hl : lv_has ls 3 [(0, .ref (ad 0)), (1, .int a1), (2, .int a2)] := hl
  have hB32 : ∀ (ls : Array Slot) (s0 : Int32), lv_has ls 3 [(0, .ref (ad 0))] → fm_blocker_L32 F σ s0 = some r → WR p l e 2 45 s m [.ref (ad 0), .int a1, .int a2] below meth c r (F0 m 32 ls [.int s0]) := by
    intro ls s0 hl hf
    unfold fm_blocker_L32 at hf
    exact KR.iret C hr hlk (Option.some.inj hf) dX10_blocker_32
  have hB29 : ∀ (ls : Array Slot), lv_has ls 3 [(0, .ref (ad 0))] → fm_blocker_L29 F σ = some r → WR p l e 2 45 s m [.ref (ad 0), .int a1, .int a2] below meth c r (F0 m 29 ls []) := by
    intro ls hl hf
    unfold fm_blocker_L29 at hf
    refine lv_sipush (v := (-1002 : Int32)) C.1 C.2.1 dX10_blocker_29 (by decide) ?_
    exact hB32 ls _ (lv_sub hl [0] rfl) hf
  unfold fm_blocker at hf
  refine lv_iload_n C.1 C.2.1 dX10_blocker_0 rfl (lv_at hl 1 rfl) ?_
  refine lv_iconst (v := (0 : Int32)) C.1 C.2.1 dX10_blocker_1 (by decide) ?_
  refine lv_bipush (v := (99 : Int32)) C.1 C.2.1 dX10_blocker_2 (by decide) ?_
  obtain ⟨r4, hc4, hf⟩ := bd_some hf
  refine callRS (As := [_, _, _]) C hK hP wv_X10_68 hl (km_in l D cA _ F _ _ _ r4 hc4) rfl rfl rfl (Nat.le_of_ble_eq_true rfl) ⟨Nat.le_refl _, Nat.le_refl _⟩ dX10_blocker_4 ?_
  refine lv_if_eq (tgt := 29) C.1 C.2.1 dX10_blocker_7 (by decide) (fun c7 => ?_) (fun c7 => ?_)
  · have hf := br_p c7 hf
    exact hB29 ls (lv_sub hl [0] rfl) hf
  · have hf := br_n c7 hf
    refine lv_iload_n C.1 C.2.1 dX10_blocker_10 rfl (lv_at hl 2 rfl) ?_
    refine lv_iconst (v := (0 : Int32)) C.1 C.2.1 dX10_blocker_11 (by decide) ?_
    refine lv_bipush (v := (99 : Int32)) C.1 C.2.1 dX10_blocker_12 (by decide) ?_
    obtain ⟨r14, hc14, hf⟩ := bd_some hf
    refine callRS (As := [_, _, _]) C hK hP wv_X10_68 hl (km_in l D cA _ F _ _ _ r14 hc14) rfl rfl rfl (Nat.le_of_ble_eq_true rfl) ⟨Nat.le_refl _, Nat.le_refl _⟩ dX10_blocker_14 ?_
    refine lv_if_eq (tgt := 29) C.1 C.2.1 dX10_blocker_17 (by decide) (fun c17 => ?_) (fun c17 => ?_)
    · have hf := br_p c17 hf
      exact hB29 ls (lv_sub hl [0] rfl) hf
    · have hf := br_n c17 hf
      refine lv_aload_n C.1 C.2.1 dX10_blocker_20 rfl (lv_at hl 0 rfl) ?_
      refine lv_iload_n C.1 C.2.1 dX10_blocker_21 rfl (lv_at hl 1 rfl) ?_
      refine lv_iload_n C.1 C.2.1 dX10_blocker_22 rfl (lv_at hl 2 rfl) ?_
      obtain ⟨r23, hc23, hf⟩ := bd_some hf
      refine callRV (As := [_, _]) C hK hP wv_X10_101 hl (km_blockerOf l D cA ad _ F _ _ r23 hc23) (rcM hK hP) rfl rfl rfl (Nat.le_of_ble_eq_true rfl) ⟨Nat.le_refl _, Nat.le_refl _⟩ dX10_blocker_23 ?_
      refine lv_goto (tgt := 32) C.1 C.2.1 dX10_blocker_26 (by decide) ?_
      exact hB32 ls _ (lv_sub hl [0] rfl) hf
def fm_puts (F : Nat) (σ : MS) (x1 : Int32) (x2 : Int32) (x3 : Int32) : Option (MS) :=
  gd (ix (((35 : Int32) + ((169 : Int32) * x1)) + x2) 8625 = true) (lt (st_row σ (((35 : Int32) + ((169 : Int32) * x1)) + x2) x3) (fun σ15 => some σ15))
set_option maxHeartbeats 4000000 in
set_option maxRecDepth 100000 in
theorem km_puts (l : Launch) (D : va_G) (cA : Nat → ClassId) (ad : Nat → Nat) (σ0 : MS) (F : Nat) (a1 : Int32) (a2 : Int32) (a3 : Int32) (σr : MS) (hf : fm_puts F σ0 a1 a2 a3 = some σr) : KW l D (tyG cA) yX10_puts cX10_puts 4 none (rmk 0 0) (wM cA ad σ0) [.ref (ad 0), .int a1, .int a2, .int a3] none (wM cA ad σr) := by
  refine KW.of (by decide) (Nat.le_of_ble_eq_true rfl) ?_
  intro p e s m below meth c A hAe hA C hr hlk hK hP hD hS ls hl
  have hl : lv_has ls 4 [(0, .ref (ad 0)), (1, .int a1), (2, .int a2), (3, .int a3)] := hl
  unfold fm_puts at hf
  refine lv_aload_n C.1 C.2.1 dX10_puts_0 rfl (lv_at hl 0 rfl) ?_
  refine gm_row C hK hP dX10_puts_1 ?_
  refine lv_bipush (v := (35 : Int32)) C.1 C.2.1 dX10_puts_4 (by decide) ?_
  refine lv_sipush (v := (169 : Int32)) C.1 C.2.1 dX10_puts_6 (by decide) ?_
  refine lv_iload_n C.1 C.2.1 dX10_puts_9 rfl (lv_at hl 1 rfl) ?_
  refine lv_imul C.1 C.2.1 dX10_puts_10 ?_
  refine lv_iadd C.1 C.2.1 dX10_puts_11 ?_
  refine lv_iload_n C.1 C.2.1 dX10_puts_12 rfl (lv_at hl 2 rfl) ?_
  refine lv_iadd C.1 C.2.1 dX10_puts_13 ?_
  refine lv_iload_n C.1 C.2.1 dX10_puts_14 rfl (lv_at hl 3 rfl) ?_
  obtain ⟨hi15, hf⟩ := gd_some hf
  replace hf := lt_e hf
  refine sm_row C hK hP hD hS hi15 dX10_puts_15 (fun H locs hP hD hS => ?_)
  obtain rfl := Option.some.inj hf
  exact KW.vret C hr hlk hK hAe hP hD hS rfl dX10_puts_16
def fm_isLink (F : Nat) (σ : MS) (x1 : Int32) : Option (Int32) :=
  gd (ix (1 : Int32) 8625 = true) (bd (fm_in F x1 (0 : Int32) ((ms_row σ (1 : Int32).toNatClampNeg) - (1 : Int32))) (fun r10 => gd (r10 = 0 ∨ r10 = 1) (some r10)))
set_option maxHeartbeats 4000000 in
set_option maxRecDepth 100000 in
theorem km_isLink (l : Launch) (D : va_G) (cA : Nat → ClassId) (ad : Nat → Nat) (σ : MS) (F : Nat) (a1 : Int32) (r : Int32) (hf : fm_isLink F σ a1 = some r) : KR l D (tyG cA) yX10_isLink cX10_isLink 2 (some .boolean) (rmk 1 22) (wM cA ad σ) [.ref (ad 0), .int a1] r := by
  refine KR.of (by decide) (Nat.le_of_ble_eq_true rfl) ?_
  intro p e s m below meth c C hr hlk hK hP ls hl
  have hl : lv_has ls 2 [(0, .ref (ad 0)), (1, .int a1)] := hl
  unfold fm_isLink at hf
  refine lv_iload_n C.1 C.2.1 dX10_isLink_0 rfl (lv_at hl 1 rfl) ?_
  refine lv_iconst (v := (0 : Int32)) C.1 C.2.1 dX10_isLink_1 (by decide) ?_
  refine lv_aload_n C.1 C.2.1 dX10_isLink_2 rfl (lv_at hl 0 rfl) ?_
  refine gm_row C hK hP dX10_isLink_3 ?_
  refine lv_iconst (v := (1 : Int32)) C.1 C.2.1 dX10_isLink_6 (by decide) ?_
  obtain ⟨hi7, hf⟩ := gd_some hf
  refine lm_row C hK hP hi7 dX10_isLink_7 ?_
  refine lv_iconst (v := (1 : Int32)) C.1 C.2.1 dX10_isLink_8 (by decide) ?_
  refine lv_isub C.1 C.2.1 dX10_isLink_9 ?_
  obtain ⟨r10, hc10, hf⟩ := bd_some hf
  refine callRS (As := [_, _, _]) C hK hP wv_X10_68 hl (km_in l D cA _ F _ _ _ r10 hc10) rfl rfl rfl (Nat.le_of_ble_eq_true rfl) ⟨Nat.le_refl _, Nat.le_refl _⟩ dX10_isLink_10 ?_
  obtain ⟨hz13, hf⟩ := gd_some hf
  exact KR.zret C hr hlk hz13 (Option.some.inj hf) dX10_isLink_13
def fm_isPort_L61 (F : Nat) (σ : MS) (s0 : Int32) : Option (Int32) :=
  gd (s0 = 0 ∨ s0 = 1) (some s0)
def fm_isPort_L60 (F : Nat) (σ : MS) : Option (Int32) :=
  fm_isPort_L61 F σ (0 : Int32)
def fm_isPort_L35 (F : Nat) (σ : MS) (x2 : Int32) (x3 : Int32) (s0 : Int32) : Option (Int32) :=
  bd (fm_in F x2 (0 : Int32) (3 : Int32)) (fun r40 => if r40 = 0 then (fm_isPort_L60 F σ) else (bd (fm_in F x3 (0 : Int32) s0) (fun r50 => if r50 = 0 then (fm_isPort_L60 F σ) else (fm_isPort_L61 F σ (1 : Int32)))))
def fm_isPort (F : Nat) (σ : MS) (x1 : Int32) (x2 : Int32) (x3 : Int32) : Option (Int32) :=
  if (x2 - x2 / (2 : Int32) * (2 : Int32)) = 0 then (bd (fm_side F σ x1 (2 : Int32)) (fun r9 => bd (fm_side F σ x1 (0 : Int32)) (fun r15 => fm_isPort_L35 F σ x2 x3 (r9 - r15)))) else (bd (fm_side F σ x1 (3 : Int32)) (fun r25 => bd (fm_side F σ x1 (1 : Int32)) (fun r31 => fm_isPort_L35 F σ x2 x3 (r25 - r31))))
set_option maxHeartbeats 4000000 in
set_option maxRecDepth 100000 in
theorem km_isPort (l : Launch) (D : va_G) (cA : Nat → ClassId) (ad : Nat → Nat) (σ : MS) (F : Nat) (a1 : Int32) (a2 : Int32) (a3 : Int32) (r : Int32) (hf : fm_isPort F σ a1 a2 a3 = some r) : KR l D (tyG cA) yX10_isPort cX10_isPort 5 (some .boolean) (rmk 1 22) (wM cA ad σ) [.ref (ad 0), .int a1, .int a2, .int a3] r := by
  refine KR.of (by decide) (Nat.le_of_ble_eq_true rfl) ?_
  intro p e s m below meth c C hr hlk hK hP ls hl
  have hl : lv_has ls 5 [(0, .ref (ad 0)), (1, .int a1), (2, .int a2), (3, .int a3)] := hl
  have hB61 : ∀ (ls : Array Slot) (s0 : Int32), lv_has ls 5 [(0, .ref (ad 0))] → fm_isPort_L61 F σ s0 = some r → WR p l e 1 22 s m [.ref (ad 0), .int a1, .int a2, .int a3] below meth c r (F0 m 61 ls [.int s0]) := by
    intro ls s0 hl hf
    unfold fm_isPort_L61 at hf
    obtain ⟨hz61, hf⟩ := gd_some hf
    exact KR.zret C hr hlk hz61 (Option.some.inj hf) dX10_isPort_61
  have hB60 : ∀ (ls : Array Slot), lv_has ls 5 [(0, .ref (ad 0))] → fm_isPort_L60 F σ = some r → WR p l e 1 22 s m [.ref (ad 0), .int a1, .int a2, .int a3] below meth c r (F0 m 60 ls []) := by
    intro ls hl hf
    unfold fm_isPort_L60 at hf
    refine lv_iconst (v := (0 : Int32)) C.1 C.2.1 dX10_isPort_60 (by decide) ?_
    exact hB61 ls _ (lv_sub hl [0] rfl) hf
  have hB35 : ∀ (ls : Array Slot) (x2 : Int32) (x3 : Int32) (s0 : Int32), lv_has ls 5 [(0, .ref (ad 0)), (2, .int x2), (3, .int x3)] → fm_isPort_L35 F σ x2 x3 s0 = some r → WR p l e 1 22 s m [.ref (ad 0), .int a1, .int a2, .int a3] below meth c r (F0 m 35 ls [.int s0]) := by
    intro ls x2 x3 s0 hl hf
    unfold fm_isPort_L35 at hf
    refine lv_istore (lv' := [(4, .int s0), (0, .ref (ad 0)), (2, .int x2), (3, .int x3)]) C.1 C.2.1 dX10_isPort_35 hl (by decide) rfl (fun ls hl => ?_)
    refine lv_iload_n C.1 C.2.1 dX10_isPort_37 rfl (lv_at hl 2 rfl) ?_
    refine lv_iconst (v := (0 : Int32)) C.1 C.2.1 dX10_isPort_38 (by decide) ?_
    refine lv_iconst (v := (3 : Int32)) C.1 C.2.1 dX10_isPort_39 (by decide) ?_
    obtain ⟨r40, hc40, hf⟩ := bd_some hf
    refine callRS (As := [_, _, _]) C hK hP wv_X10_68 hl (km_in l D cA _ F _ _ _ r40 hc40) rfl rfl rfl (Nat.le_of_ble_eq_true rfl) ⟨Nat.le_refl _, Nat.le_refl _⟩ dX10_isPort_40 ?_
    refine lv_if_eq (tgt := 60) C.1 C.2.1 dX10_isPort_43 (by decide) (fun c43 => ?_) (fun c43 => ?_)
    · have hf := br_p c43 hf
      exact hB60 ls (lv_sub hl [1] rfl) hf
    · have hf := br_n c43 hf
      refine lv_iload_n C.1 C.2.1 dX10_isPort_46 rfl (lv_at hl 3 rfl) ?_
      refine lv_iconst (v := (0 : Int32)) C.1 C.2.1 dX10_isPort_47 (by decide) ?_
      refine lv_iload C.1 C.2.1 dX10_isPort_48 (lv_at hl 0 rfl) ?_
      obtain ⟨r50, hc50, hf⟩ := bd_some hf
      refine callRS (As := [_, _, _]) C hK hP wv_X10_68 hl (km_in l D cA _ F _ _ _ r50 hc50) rfl rfl rfl (Nat.le_of_ble_eq_true rfl) ⟨Nat.le_refl _, Nat.le_refl _⟩ dX10_isPort_50 ?_
      refine lv_if_eq (tgt := 60) C.1 C.2.1 dX10_isPort_53 (by decide) (fun c53 => ?_) (fun c53 => ?_)
      · have hf := br_p c53 hf
        exact hB60 ls (lv_sub hl [1] rfl) hf
      · have hf := br_n c53 hf
        refine lv_iconst (v := (1 : Int32)) C.1 C.2.1 dX10_isPort_56 (by decide) ?_
        refine lv_goto (tgt := 61) C.1 C.2.1 dX10_isPort_57 (by decide) ?_
        exact hB61 ls _ (lv_sub hl [1] rfl) hf
  unfold fm_isPort at hf
  refine lv_iload_n C.1 C.2.1 dX10_isPort_0 rfl (lv_at hl 2 rfl) ?_
  refine lv_iconst (v := (2 : Int32)) C.1 C.2.1 dX10_isPort_1 (by decide) ?_
  refine lv_irem C.1 C.2.1 dX10_isPort_2 (by decide) ?_
  refine lv_if_ne (tgt := 22) C.1 C.2.1 dX10_isPort_3 (by decide) (fun c3 => ?_) (fun c3 => ?_)
  · have hf := br_n c3 hf
    refine lv_aload_n C.1 C.2.1 dX10_isPort_22 rfl (lv_at hl 0 rfl) ?_
    refine lv_iload_n C.1 C.2.1 dX10_isPort_23 rfl (lv_at hl 1 rfl) ?_
    refine lv_iconst (v := (3 : Int32)) C.1 C.2.1 dX10_isPort_24 (by decide) ?_
    obtain ⟨r25, hc25, hf⟩ := bd_some hf
    refine callRV (As := [_, _]) C hK hP wv_X10_72 hl (km_side l D cA ad _ F _ _ r25 hc25) (rcM hK hP) rfl rfl rfl (Nat.le_of_ble_eq_true rfl) ⟨Nat.le_refl _, Nat.le_refl _⟩ dX10_isPort_25 ?_
    refine lv_aload_n C.1 C.2.1 dX10_isPort_28 rfl (lv_at hl 0 rfl) ?_
    refine lv_iload_n C.1 C.2.1 dX10_isPort_29 rfl (lv_at hl 1 rfl) ?_
    refine lv_iconst (v := (1 : Int32)) C.1 C.2.1 dX10_isPort_30 (by decide) ?_
    obtain ⟨r31, hc31, hf⟩ := bd_some hf
    refine callRV (As := [_, _]) C hK hP wv_X10_72 hl (km_side l D cA ad _ F _ _ r31 hc31) (rcM hK hP) rfl rfl rfl (Nat.le_of_ble_eq_true rfl) ⟨Nat.le_refl _, Nat.le_refl _⟩ dX10_isPort_31 ?_
    refine lv_isub C.1 C.2.1 dX10_isPort_34 ?_
    exact hB35 ls _ _ _ (lv_sub hl [0, 2, 3] rfl) hf
  · have hf := br_p c3 hf
    refine lv_aload_n C.1 C.2.1 dX10_isPort_6 rfl (lv_at hl 0 rfl) ?_
    refine lv_iload_n C.1 C.2.1 dX10_isPort_7 rfl (lv_at hl 1 rfl) ?_
    refine lv_iconst (v := (2 : Int32)) C.1 C.2.1 dX10_isPort_8 (by decide) ?_
    obtain ⟨r9, hc9, hf⟩ := bd_some hf
    refine callRV (As := [_, _]) C hK hP wv_X10_72 hl (km_side l D cA ad _ F _ _ r9 hc9) (rcM hK hP) rfl rfl rfl (Nat.le_of_ble_eq_true rfl) ⟨Nat.le_refl _, Nat.le_refl _⟩ dX10_isPort_9 ?_
    refine lv_aload_n C.1 C.2.1 dX10_isPort_12 rfl (lv_at hl 0 rfl) ?_
    refine lv_iload_n C.1 C.2.1 dX10_isPort_13 rfl (lv_at hl 1 rfl) ?_
    refine lv_iconst (v := (0 : Int32)) C.1 C.2.1 dX10_isPort_14 (by decide) ?_
    obtain ⟨r15, hc15, hf⟩ := bd_some hf
    refine callRV (As := [_, _]) C hK hP wv_X10_72 hl (km_side l D cA ad _ F _ _ r15 hc15) (rcM hK hP) rfl rfl rfl (Nat.le_of_ble_eq_true rfl) ⟨Nat.le_refl _, Nat.le_refl _⟩ dX10_isPort_15 ?_
    refine lv_isub C.1 C.2.1 dX10_isPort_18 ?_
    refine lv_goto (tgt := 35) C.1 C.2.1 dX10_isPort_19 (by decide) ?_
    exact hB35 ls _ _ _ (lv_sub hl [0, 2, 3] rfl) hf
def fm_link_L100_c (F : Nat) (k100 : MS → Int32 → Int32 → Int32 → Int32 → Int32 → Int32 → Int32 → Int32 → Option (Int32 × MS)) (σ : MS) (x1 : Int32) (x2 : Int32) (x3 : Int32) (x4 : Int32) (x5 : Int32) (x6 : Int32) (x7 : Int32) (x8 : Int32) : Option (Int32 × MS) :=
  if (169 : Int32) ≤ x8 then (bd (fm_puts F σ x7 (0 : Int32) x1) (fun σ128 => bd (fm_puts F σ128 x7 (1 : Int32) x2) (fun σ136 => bd (fm_puts F σ136 x7 (2 : Int32) x3) (fun σ144 => bd (fm_puts F σ144 x7 (3 : Int32) x4) (fun σ153 => bd (fm_puts F σ153 x7 (4 : Int32) x5) (fun σ162 => bd (fm_puts F σ162 x7 (5 : Int32) x6) (fun σ171 => gd (ix (1 : Int32) 8625 = true) (gd (ix (1 : Int32) 8625 = true) (lt (st_row σ171 (1 : Int32) ((ms_row σ171 (1 : Int32).toNatClampNeg) + (1 : Int32))) (fun σ183 => some (x7, σ183))))))))))) else (bd (fm_puts F σ x7 x8 (0 : Int32)) (fun σ114 => lt (x8 + (1 : Int32)) (fun x8_117 => k100 σ114 x1 x2 x3 x4 x5 x6 x7 x8_117)))
def fm_link_L100 (F : Nat) (n : Nat) (σ : MS) (x1 : Int32) (x2 : Int32) (x3 : Int32) (x4 : Int32) (x5 : Int32) (x6 : Int32) (x7 : Int32) (x8 : Int32) : Option (Int32 × MS) := lpN (fun (k : MS × Int32 × Int32 × Int32 × Int32 × Int32 × Int32 × Int32 × Int32 → Option (Int32 × MS)) a => fm_link_L100_c F (fun σ x1 x2 x3 x4 x5 x6 x7 x8 => k (σ, x1, x2, x3, x4, x5, x6, x7, x8)) a.1 a.2.1 a.2.2.1 a.2.2.2.1 a.2.2.2.2.1 a.2.2.2.2.2.1 a.2.2.2.2.2.2.1 a.2.2.2.2.2.2.2.1 a.2.2.2.2.2.2.2.2) n (σ, x1, x2, x3, x4, x5, x6, x7, x8)
def fm_link_L70 (F : Nat) (σ : MS) (x1 : Int32) (x2 : Int32) (x3 : Int32) (x4 : Int32) (x5 : Int32) (x6 : Int32) : Option (Int32 × MS) :=
  gd (ix (1 : Int32) 8625 = true) (if (ms_row σ (1 : Int32).toNatClampNeg) = (10 : Int32) then (some ((-1004 : Int32), σ)) else (bd (fm_records F σ) (fun σ86 => gd (ix (1 : Int32) 8625 = true) (lt (ms_row σ86 (1 : Int32).toNatClampNeg) (fun x7_95 => fm_link_L100 F F σ86 x1 x2 x3 x4 x5 x6 x7_95 (0 : Int32))))))
def fm_link_L44 (F : Nat) (σ : MS) : Option (Int32 × MS) :=
  some ((-1002 : Int32), σ)
def fm_link_L17 (F : Nat) (σ : MS) : Option (Int32 × MS) :=
  some ((-1001 : Int32), σ)
def fm_link (F : Nat) (σ : MS) (x1 : Int32) (x2 : Int32) (x3 : Int32) (x4 : Int32) (x5 : Int32) (x6 : Int32) : Option (Int32 × MS) :=
  bd (fm_isBox F σ x1) (fun r2 => if r2 = 0 then (fm_link_L17 F σ) else (bd (fm_isBox F σ x4) (fun r11 => if r11 = 0 then (fm_link_L17 F σ) else (bd (fm_isPort F σ x1 x2 x3) (fun r25 => if r25 = 0 then (fm_link_L44 F σ) else (bd (fm_isPort F σ x4 x5 x6) (fun r38 => if r38 = 0 then (fm_link_L44 F σ) else (if x1 = x4 then (if x2 = x5 then (if x3 = x6 then (some ((-1003 : Int32), σ)) else (fm_link_L70 F σ x1 x2 x3 x4 x5 x6)) else (fm_link_L70 F σ x1 x2 x3 x4 x5 x6)) else (fm_link_L70 F σ x1 x2 x3 x4 x5 x6)))))))))
set_option maxHeartbeats 4000000 in
set_option maxRecDepth 100000 in
theorem km_link (l : Launch) (D : va_G) (cA : Nat → ClassId) (ad : Nat → Nat) (σ0 : MS) (F : Nat) (a1 : Int32) (a2 : Int32) (a3 : Int32) (a4 : Int32) (a5 : Int32) (a6 : Int32) (r : Int32) (σr : MS) (hf : fm_link F σ0 a1 a2 a3 a4 a5 a6 = some (r, σr)) : KW l D (tyG cA) yX10_link cX10_link 9 (some .int) (rmk 2 46) (wM cA ad σ0) [.ref (ad 0), .int a1, .int a2, .int a3, .int a4, .int a5, .int a6] (some (.int r)) (wM cA ad σr) := by
  refine KW.of (by decide) (Nat.le_of_ble_eq_true rfl) ?_
  intro p e s m below meth c A hAe hA C hr hlk hK hP hD hS ls hl
  have hl : lv_has ls 9 [(0, .ref (ad 0)), (1, .int a1), (2, .int a2), (3, .int a3), (4, .int a4), (5, .int a5), (6, .int a6)] := hl
  have hB100 : ∀ (n100 : Nat) (H : Heap) (locs : List Loc) (σ : MS) (ls : Array Slot) (x1 : Int32) (x2 : Int32) (x3 : Int32) (x4 : Int32) (x5 : Int32) (x6 : Int32) (x7 : Int32) (x8 : Int32), va_P D vwCl (wM cA ad σ) H → va_D A (wM cA ad σ) → va_S A s.heap H locs → lv_has ls 9 [(0, .ref (ad 0)), (1, .int x1), (2, .int x2), (3, .int x3), (4, .int x4), (5, .int x5), (6, .int x6), (7, .int x7), (8, .int x8)] → fm_link_L100 F n100 σ x1 x2 x3 x4 x5 x6 x7 x8 = some (r, σr) → WQ p l e 2 46 s m [.ref (ad 0), .int a1, .int a2, .int a3, .int a4, .int a5, .int a6] below meth c (some (.int r)) D (tyG cA) (wM cA ad σ0) (wM cA ad σr) A H locs (F0 m 100 ls []) := by
    intro n100
    induction n100 with
    | zero =>
      intro H locs σ ls x1 x2 x3 x4 x5 x6 x7 x8 hP hD hS hl hf
      cases (show (none : Option _) = _ from hf)
    | succ n100 ih100 =>
      intro H locs σ ls x1 x2 x3 x4 x5 x6 x7 x8 hP hD hS hl hf
      have hf : fm_link_L100_c F (fm_link_L100 F n100) σ x1 x2 x3 x4 x5 x6 x7 x8 = some (r, σr) := hf
      unfold fm_link_L100_c at hf
      refine lv_iload C.1 C.2.1 dX10_link_100 (lv_at hl 8 rfl) ?_
      refine lv_sipush (v := (169 : Int32)) C.1 C.2.1 dX10_link_102 (by decide) ?_
      refine lv_icmp_ge (tgt := 123) C.1 C.2.1 dX10_link_105 (by decide) (fun c105 => ?_) (fun c105 => ?_)
      · have hf := br_p c105 hf
        refine lv_aload_n C.1 C.2.1 dX10_link_123 rfl (lv_at hl 0 rfl) ?_
        refine lv_iload C.1 C.2.1 dX10_link_124 (lv_at hl 7 rfl) ?_
        refine lv_iconst (v := (0 : Int32)) C.1 C.2.1 dX10_link_126 (by decide) ?_
        refine lv_iload_n C.1 C.2.1 dX10_link_127 rfl (lv_at hl 1 rfl) ?_
        obtain ⟨σ128, hc128, hf⟩ := bd_some hf
        refine callWV (As := [_, _, _]) C hK hP hD hA hS wv_X10_107 hl (km_puts l D cA ad _ F _ _ _ σ128 hc128) (rcM hK hP) rfl rfl rfl (Nat.le_of_ble_eq_true rfl) ⟨Nat.le_refl _, Nat.le_refl _⟩ dX10_link_128 (fun H locs hP hD hS => ?_)
        refine lv_aload_n C.1 C.2.1 dX10_link_131 rfl (lv_at hl 0 rfl) ?_
        refine lv_iload C.1 C.2.1 dX10_link_132 (lv_at hl 7 rfl) ?_
        refine lv_iconst (v := (1 : Int32)) C.1 C.2.1 dX10_link_134 (by decide) ?_
        refine lv_iload_n C.1 C.2.1 dX10_link_135 rfl (lv_at hl 2 rfl) ?_
        obtain ⟨σ136, hc136, hf⟩ := bd_some hf
        refine callWV (As := [_, _, _]) C hK hP hD hA hS wv_X10_107 hl (km_puts l D cA ad _ F _ _ _ σ136 hc136) (rcM hK hP) rfl rfl rfl (Nat.le_of_ble_eq_true rfl) ⟨Nat.le_refl _, Nat.le_refl _⟩ dX10_link_136 (fun H locs hP hD hS => ?_)
        refine lv_aload_n C.1 C.2.1 dX10_link_139 rfl (lv_at hl 0 rfl) ?_
        refine lv_iload C.1 C.2.1 dX10_link_140 (lv_at hl 7 rfl) ?_
        refine lv_iconst (v := (2 : Int32)) C.1 C.2.1 dX10_link_142 (by decide) ?_
        refine lv_iload_n C.1 C.2.1 dX10_link_143 rfl (lv_at hl 3 rfl) ?_
        obtain ⟨σ144, hc144, hf⟩ := bd_some hf
        refine callWV (As := [_, _, _]) C hK hP hD hA hS wv_X10_107 hl (km_puts l D cA ad _ F _ _ _ σ144 hc144) (rcM hK hP) rfl rfl rfl (Nat.le_of_ble_eq_true rfl) ⟨Nat.le_refl _, Nat.le_refl _⟩ dX10_link_144 (fun H locs hP hD hS => ?_)
        refine lv_aload_n C.1 C.2.1 dX10_link_147 rfl (lv_at hl 0 rfl) ?_
        refine lv_iload C.1 C.2.1 dX10_link_148 (lv_at hl 7 rfl) ?_
        refine lv_iconst (v := (3 : Int32)) C.1 C.2.1 dX10_link_150 (by decide) ?_
        refine lv_iload C.1 C.2.1 dX10_link_151 (lv_at hl 4 rfl) ?_
        obtain ⟨σ153, hc153, hf⟩ := bd_some hf
        refine callWV (As := [_, _, _]) C hK hP hD hA hS wv_X10_107 hl (km_puts l D cA ad _ F _ _ _ σ153 hc153) (rcM hK hP) rfl rfl rfl (Nat.le_of_ble_eq_true rfl) ⟨Nat.le_refl _, Nat.le_refl _⟩ dX10_link_153 (fun H locs hP hD hS => ?_)
        refine lv_aload_n C.1 C.2.1 dX10_link_156 rfl (lv_at hl 0 rfl) ?_
        refine lv_iload C.1 C.2.1 dX10_link_157 (lv_at hl 7 rfl) ?_
        refine lv_iconst (v := (4 : Int32)) C.1 C.2.1 dX10_link_159 (by decide) ?_
        refine lv_iload C.1 C.2.1 dX10_link_160 (lv_at hl 5 rfl) ?_
        obtain ⟨σ162, hc162, hf⟩ := bd_some hf
        refine callWV (As := [_, _, _]) C hK hP hD hA hS wv_X10_107 hl (km_puts l D cA ad _ F _ _ _ σ162 hc162) (rcM hK hP) rfl rfl rfl (Nat.le_of_ble_eq_true rfl) ⟨Nat.le_refl _, Nat.le_refl _⟩ dX10_link_162 (fun H locs hP hD hS => ?_)
        refine lv_aload_n C.1 C.2.1 dX10_link_165 rfl (lv_at hl 0 rfl) ?_
        refine lv_iload C.1 C.2.1 dX10_link_166 (lv_at hl 7 rfl) ?_
        refine lv_iconst (v := (5 : Int32)) C.1 C.2.1 dX10_link_168 (by decide) ?_
        refine lv_iload C.1 C.2.1 dX10_link_169 (lv_at hl 6 rfl) ?_
        obtain ⟨σ171, hc171, hf⟩ := bd_some hf
        refine callWV (As := [_, _, _]) C hK hP hD hA hS wv_X10_107 hl (km_puts l D cA ad _ F _ _ _ σ171 hc171) (rcM hK hP) rfl rfl rfl (Nat.le_of_ble_eq_true rfl) ⟨Nat.le_refl _, Nat.le_refl _⟩ dX10_link_171 (fun H locs hP hD hS => ?_)
        refine lv_aload_n C.1 C.2.1 dX10_link_174 rfl (lv_at hl 0 rfl) ?_
        refine gm_row C hK hP dX10_link_175 ?_
        refine lv_iconst (v := (1 : Int32)) C.1 C.2.1 dX10_link_178 (by decide) ?_
        refine lv_dup2_11 C.1 C.2.1 dX10_link_179 rfl rfl ?_
        obtain ⟨hi180, hf⟩ := gd_some hf
        refine lm_row C hK hP hi180 dX10_link_180 ?_
        refine lv_iconst (v := (1 : Int32)) C.1 C.2.1 dX10_link_181 (by decide) ?_
        refine lv_iadd C.1 C.2.1 dX10_link_182 ?_
        obtain ⟨hi183, hf⟩ := gd_some hf
        replace hf := lt_e hf
        refine sm_row C hK hP hD hS hi183 dX10_link_183 (fun H locs hP hD hS => ?_)
        refine lv_iload C.1 C.2.1 dX10_link_184 (lv_at hl 7 rfl) ?_
        obtain ⟨rfl, rfl⟩ := Prod.mk.inj (Option.some.inj hf)
        exact KW.iret C hr hlk hK hAe hP hD hS rfl dX10_link_186
      · have hf := br_n c105 hf
        refine lv_aload_n C.1 C.2.1 dX10_link_108 rfl (lv_at hl 0 rfl) ?_
        refine lv_iload C.1 C.2.1 dX10_link_109 (lv_at hl 7 rfl) ?_
        refine lv_iload C.1 C.2.1 dX10_link_111 (lv_at hl 8 rfl) ?_
        refine lv_iconst (v := (0 : Int32)) C.1 C.2.1 dX10_link_113 (by decide) ?_
        obtain ⟨σ114, hc114, hf⟩ := bd_some hf
        refine callWV (As := [_, _, _]) C hK hP hD hA hS wv_X10_107 hl (km_puts l D cA ad _ F _ _ _ σ114 hc114) (rcM hK hP) rfl rfl rfl (Nat.le_of_ble_eq_true rfl) ⟨Nat.le_refl _, Nat.le_refl _⟩ dX10_link_114 (fun H locs hP hD hS => ?_)
        obtain ⟨x8_117, ex8_117, hf⟩ := lt_some hf
        refine lv_iinc (v := x8_117) (lv' := [(8, .int x8_117), (0, .ref (ad 0)), (1, .int x1), (2, .int x2), (3, .int x3), (4, .int x4), (5, .int x5), (6, .int x6), (7, .int x7)]) C.1 C.2.1 dX10_link_117 hl (k := 8) rfl (by rw [ex8_117]; rfl) (by decide) rfl (fun ls hl => ?_)
        refine lv_goto (tgt := 100) C.1 C.2.1 dX10_link_120 (by decide) ?_
        exact ih100 _ _ _ ls _ _ _ _ _ _ _ _ hP hD hS (lv_sub hl [1, 2, 3, 4, 5, 6, 7, 8, 0] rfl) hf
  have hB70 : ∀ (H : Heap) (locs : List Loc) (σ : MS) (ls : Array Slot) (x1 : Int32) (x2 : Int32) (x3 : Int32) (x4 : Int32) (x5 : Int32) (x6 : Int32), va_P D vwCl (wM cA ad σ) H → va_D A (wM cA ad σ) → va_S A s.heap H locs → lv_has ls 9 [(0, .ref (ad 0)), (1, .int x1), (2, .int x2), (3, .int x3), (4, .int x4), (5, .int x5), (6, .int x6)] → fm_link_L70 F σ x1 x2 x3 x4 x5 x6 = some (r, σr) → WQ p l e 2 46 s m [.ref (ad 0), .int a1, .int a2, .int a3, .int a4, .int a5, .int a6] below meth c (some (.int r)) D (tyG cA) (wM cA ad σ0) (wM cA ad σr) A H locs (F0 m 70 ls []) := by
    intro H locs σ ls x1 x2 x3 x4 x5 x6 hP hD hS hl hf
    unfold fm_link_L70 at hf
    refine lv_aload_n C.1 C.2.1 dX10_link_70 rfl (lv_at hl 0 rfl) ?_
    refine gm_row C hK hP dX10_link_71 ?_
    refine lv_iconst (v := (1 : Int32)) C.1 C.2.1 dX10_link_74 (by decide) ?_
    obtain ⟨hi75, hf⟩ := gd_some hf
    refine lm_row C hK hP hi75 dX10_link_75 ?_
    refine lv_bipush (v := (10 : Int32)) C.1 C.2.1 dX10_link_76 (by decide) ?_
    refine lv_icmp_ne (tgt := 85) C.1 C.2.1 dX10_link_78 (by decide) (fun c78 => ?_) (fun c78 => ?_)
    · have hf := br_n c78 hf
      refine lv_aload_n C.1 C.2.1 dX10_link_85 rfl (lv_at hl 0 rfl) ?_
      obtain ⟨σ86, hc86, hf⟩ := bd_some hf
      refine callWV (As := []) C hK hP hD hA hS wv_X10_84 hl (km_records l D cA ad _ F σ86 hc86) (rcM hK hP) rfl rfl rfl (Nat.le_of_ble_eq_true rfl) ⟨Nat.le_refl _, Nat.le_refl _⟩ dX10_link_86 (fun H locs hP hD hS => ?_)
      refine lv_aload_n C.1 C.2.1 dX10_link_89 rfl (lv_at hl 0 rfl) ?_
      refine gm_row C hK hP dX10_link_90 ?_
      refine lv_iconst (v := (1 : Int32)) C.1 C.2.1 dX10_link_93 (by decide) ?_
      obtain ⟨hi94, hf⟩ := gd_some hf
      refine lm_row C hK hP hi94 dX10_link_94 ?_
      obtain ⟨x7_95, ex7_95, hf⟩ := lt_some hf
      refine lv_tope ex7_95 ?_
      refine lv_istore (lv' := [(7, .int x7_95), (0, .ref (ad 0)), (1, .int x1), (2, .int x2), (3, .int x3), (4, .int x4), (5, .int x5), (6, .int x6)]) C.1 C.2.1 dX10_link_95 hl (by decide) rfl (fun ls hl => ?_)
      refine lv_iconst (v := (0 : Int32)) C.1 C.2.1 dX10_link_97 (by decide) ?_
      refine lv_istore (lv' := [(8, .int (0 : Int32)), (7, .int x7_95), (0, .ref (ad 0)), (1, .int x1), (2, .int x2), (3, .int x3), (4, .int x4), (5, .int x5), (6, .int x6)]) C.1 C.2.1 dX10_link_98 hl (by decide) rfl (fun ls hl => ?_)
      exact hB100 F _ _ _ ls _ _ _ _ _ _ _ _ hP hD hS (lv_sub hl [2, 3, 4, 5, 6, 7, 8, 1, 0] rfl) hf
    · have hf := br_p c78 hf
      refine lv_sipush (v := (-1004 : Int32)) C.1 C.2.1 dX10_link_81 (by decide) ?_
      obtain ⟨rfl, rfl⟩ := Prod.mk.inj (Option.some.inj hf)
      exact KW.iret C hr hlk hK hAe hP hD hS rfl dX10_link_84
  have hB44 : ∀ (H : Heap) (locs : List Loc) (σ : MS) (ls : Array Slot), va_P D vwCl (wM cA ad σ) H → va_D A (wM cA ad σ) → va_S A s.heap H locs → lv_has ls 9 [(0, .ref (ad 0))] → fm_link_L44 F σ = some (r, σr) → WQ p l e 2 46 s m [.ref (ad 0), .int a1, .int a2, .int a3, .int a4, .int a5, .int a6] below meth c (some (.int r)) D (tyG cA) (wM cA ad σ0) (wM cA ad σr) A H locs (F0 m 44 ls []) := by
    intro H locs σ ls hP hD hS hl hf
    unfold fm_link_L44 at hf
    refine lv_sipush (v := (-1002 : Int32)) C.1 C.2.1 dX10_link_44 (by decide) ?_
    obtain ⟨rfl, rfl⟩ := Prod.mk.inj (Option.some.inj hf)
    exact KW.iret C hr hlk hK hAe hP hD hS rfl dX10_link_47
  have hB17 : ∀ (H : Heap) (locs : List Loc) (σ : MS) (ls : Array Slot), va_P D vwCl (wM cA ad σ) H → va_D A (wM cA ad σ) → va_S A s.heap H locs → lv_has ls 9 [(0, .ref (ad 0))] → fm_link_L17 F σ = some (r, σr) → WQ p l e 2 46 s m [.ref (ad 0), .int a1, .int a2, .int a3, .int a4, .int a5, .int a6] below meth c (some (.int r)) D (tyG cA) (wM cA ad σ0) (wM cA ad σr) A H locs (F0 m 17 ls []) := by
    intro H locs σ ls hP hD hS hl hf
    unfold fm_link_L17 at hf
    refine lv_sipush (v := (-1001 : Int32)) C.1 C.2.1 dX10_link_17 (by decide) ?_
    obtain ⟨rfl, rfl⟩ := Prod.mk.inj (Option.some.inj hf)
    exact KW.iret C hr hlk hK hAe hP hD hS rfl dX10_link_20
  unfold fm_link at hf
  refine lv_aload_n C.1 C.2.1 dX10_link_0 rfl (lv_at hl 0 rfl) ?_
  refine lv_iload_n C.1 C.2.1 dX10_link_1 rfl (lv_at hl 1 rfl) ?_
  obtain ⟨r2, hc2, hf⟩ := bd_some hf
  refine callRV (As := [_]) C hK hP wv_X10_91 hl (km_isBox l D cA ad _ F _ r2 hc2) (rcM hK hP) rfl rfl rfl (Nat.le_of_ble_eq_true rfl) ⟨Nat.le_refl _, Nat.le_refl _⟩ dX10_link_2 ?_
  refine lv_if_eq (tgt := 17) C.1 C.2.1 dX10_link_5 (by decide) (fun c5 => ?_) (fun c5 => ?_)
  · have hf := br_p c5 hf
    exact hB17 _ _ _ ls hP hD hS (lv_sub hl [0] rfl) hf
  · have hf := br_n c5 hf
    refine lv_aload_n C.1 C.2.1 dX10_link_8 rfl (lv_at hl 0 rfl) ?_
    refine lv_iload C.1 C.2.1 dX10_link_9 (lv_at hl 4 rfl) ?_
    obtain ⟨r11, hc11, hf⟩ := bd_some hf
    refine callRV (As := [_]) C hK hP wv_X10_91 hl (km_isBox l D cA ad _ F _ r11 hc11) (rcM hK hP) rfl rfl rfl (Nat.le_of_ble_eq_true rfl) ⟨Nat.le_refl _, Nat.le_refl _⟩ dX10_link_11 ?_
    refine lv_if_ne (tgt := 21) C.1 C.2.1 dX10_link_14 (by decide) (fun c14 => ?_) (fun c14 => ?_)
    · have hf := br_n c14 hf
      refine lv_aload_n C.1 C.2.1 dX10_link_21 rfl (lv_at hl 0 rfl) ?_
      refine lv_iload_n C.1 C.2.1 dX10_link_22 rfl (lv_at hl 1 rfl) ?_
      refine lv_iload_n C.1 C.2.1 dX10_link_23 rfl (lv_at hl 2 rfl) ?_
      refine lv_iload_n C.1 C.2.1 dX10_link_24 rfl (lv_at hl 3 rfl) ?_
      obtain ⟨r25, hc25, hf⟩ := bd_some hf
      refine callRV (As := [_, _, _]) C hK hP wv_X10_104 hl (km_isPort l D cA ad _ F _ _ _ r25 hc25) (rcM hK hP) rfl rfl rfl (Nat.le_of_ble_eq_true rfl) ⟨Nat.le_refl _, Nat.le_refl _⟩ dX10_link_25 ?_
      refine lv_if_eq (tgt := 44) C.1 C.2.1 dX10_link_28 (by decide) (fun c28 => ?_) (fun c28 => ?_)
      · have hf := br_p c28 hf
        exact hB44 _ _ _ ls hP hD hS (lv_sub hl [0] rfl) hf
      · have hf := br_n c28 hf
        refine lv_aload_n C.1 C.2.1 dX10_link_31 rfl (lv_at hl 0 rfl) ?_
        refine lv_iload C.1 C.2.1 dX10_link_32 (lv_at hl 4 rfl) ?_
        refine lv_iload C.1 C.2.1 dX10_link_34 (lv_at hl 5 rfl) ?_
        refine lv_iload C.1 C.2.1 dX10_link_36 (lv_at hl 6 rfl) ?_
        obtain ⟨r38, hc38, hf⟩ := bd_some hf
        refine callRV (As := [_, _, _]) C hK hP wv_X10_104 hl (km_isPort l D cA ad _ F _ _ _ r38 hc38) (rcM hK hP) rfl rfl rfl (Nat.le_of_ble_eq_true rfl) ⟨Nat.le_refl _, Nat.le_refl _⟩ dX10_link_38 ?_
        refine lv_if_ne (tgt := 48) C.1 C.2.1 dX10_link_41 (by decide) (fun c41 => ?_) (fun c41 => ?_)
        · have hf := br_n c41 hf
          refine lv_iload_n C.1 C.2.1 dX10_link_48 rfl (lv_at hl 1 rfl) ?_
          refine lv_iload C.1 C.2.1 dX10_link_49 (lv_at hl 4 rfl) ?_
          refine lv_icmp_ne (tgt := 70) C.1 C.2.1 dX10_link_51 (by decide) (fun c51 => ?_) (fun c51 => ?_)
          · have hf := br_n c51 hf
            exact hB70 _ _ _ ls _ _ _ _ _ _ hP hD hS (lv_sub hl [0, 1, 2, 3, 4, 5, 6] rfl) hf
          · have hf := br_p c51 hf
            refine lv_iload_n C.1 C.2.1 dX10_link_54 rfl (lv_at hl 2 rfl) ?_
            refine lv_iload C.1 C.2.1 dX10_link_55 (lv_at hl 5 rfl) ?_
            refine lv_icmp_ne (tgt := 70) C.1 C.2.1 dX10_link_57 (by decide) (fun c57 => ?_) (fun c57 => ?_)
            · have hf := br_n c57 hf
              exact hB70 _ _ _ ls _ _ _ _ _ _ hP hD hS (lv_sub hl [0, 1, 2, 3, 4, 5, 6] rfl) hf
            · have hf := br_p c57 hf
              refine lv_iload_n C.1 C.2.1 dX10_link_60 rfl (lv_at hl 3 rfl) ?_
              refine lv_iload C.1 C.2.1 dX10_link_61 (lv_at hl 6 rfl) ?_
              refine lv_icmp_ne (tgt := 70) C.1 C.2.1 dX10_link_63 (by decide) (fun c63 => ?_) (fun c63 => ?_)
              · have hf := br_n c63 hf
                exact hB70 _ _ _ ls _ _ _ _ _ _ hP hD hS (lv_sub hl [0, 1, 2, 3, 4, 5, 6] rfl) hf
              · have hf := br_p c63 hf
                refine lv_sipush (v := (-1003 : Int32)) C.1 C.2.1 dX10_link_66 (by decide) ?_
                obtain ⟨rfl, rfl⟩ := Prod.mk.inj (Option.some.inj hf)
                exact KW.iret C hr hlk hK hAe hP hD hS rfl dX10_link_69
        · have hf := br_p c41 hf
          exact hB44 _ _ _ ls hP hD hS (lv_sub hl [0] rfl) hf
    · have hf := br_p c14 hf
      exact hB17 _ _ _ ls hP hD hS (lv_sub hl [0] rfl) hf
