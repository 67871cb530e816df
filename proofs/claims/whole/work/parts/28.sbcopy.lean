theorem wArrB : Cond.arrayClass .byte ∈ gT := gT_i 339 (by decide +kernel) rfl
def fitB (f : Nat → Int32) (n : Nat) : Bool := (List.range n).all (fun i => fits .byte (.int (f i)))
theorem fitB_at {f : Nat → Int32} {n : Nat} (h : fitB f n = true) {i : Nat} (hi : i < n) : fits .byte (.int (f i)) = true := List.all_eq_true.mp h i (List.mem_range.mpr hi)
def QB (n : Nat) (f : Nat → Int32) (D : va_G) (cA : Nat → ClassId) (ad : Nat → Nat) (σ : CSt) (η : HS) (sz : Nat) : Array Value → State → Outcome → State → Prop := fun _ st oc t => ∃ q : Nat, oc = .returned (some (.ref q)) ∧ va_P D vwCl (wC cA ad σ η ++ [(q, .inl (cA 2, n, .inl f))]) t.heap ∧ va_K D vwCl (tyG cA) t ∧ va_D (va_A (wC cA ad σ η) sz) (wC cA ad σ η ++ [(q, .inl (cA 2, n, .inl f))]) ∧ va_F (va_A (wC cA ad σ η) sz) st t
set_option maxHeartbeats 4000000 in
set_option maxRecDepth 100000 in
theorem kc_copyOfB (l : Launch) (D : va_G) (cA : Nat → ClassId) (ad : Nat → Nat) (σ : CSt) (η : HS) (x : Int32) (hx0 : ¬ x < 0) (hx1 : x.toNatClampNeg ≤ 65536) (hne : ¬ x = nI (cs_scap σ)) (n9 : Int32) (hn9 : n9 = if x < nI (cs_scap σ) then x else nI (cs_scap σ)) (hcp : cpo 0 0 n9 (cs_scap σ) x.toNatClampNeg = true) (hfit : fitB (cs_sv σ) n9.toNatClampNeg = true) : KX l D cA ad σ η yJ7_copyOf_9075b cJ7_copyOf_9075b 3 (some (.array .byte)) (rmc 1 40 1 x.toNatClampNeg) [.ref η.2.2.1, .int x] (QB x.toNatClampNeg (va_cpy (cs_sv σ) (fun _ => 0) 0 0 n9.toNatClampNeg) D cA ad σ η) := by
  refine KX.of (by decide) (Nat.le_of_ble_eq_true rfl) ?_
  intro p e s m below meth c A hAe hA C hr hlk hK hP hD hS hZ ls hl
  have hl : lv_has ls 3 [(0, .ref η.2.2.1), (1, .int x)] := hl
  refine lv_iload_n C.1 C.2.1 dJ7_copyOf_9075b_0 rfl (lv_at hl 1 rfl) ?_
  refine lv_aload_n C.1 C.2.1 dJ7_copyOf_9075b_1 rfl (lv_at hl 0 rfl) ?_
  refine nb_sv C hK hP dJ7_copyOf_9075b_2 ?_
  refine lv_icmp_ne (tgt := 14) C.1 C.2.1 dJ7_copyOf_9075b_3 (by decide) (fun c3 => ?_) (fun c3 => absurd c3 hne)
  refine lv_iload_n C.1 C.2.1 dJ7_copyOf_9075b_14 rfl (lv_at hl 1 rfl) ?_
  refine va_newa (atype := .byte) (ty := .byte) C.1 C.2.1 (C.2.2.2.2 _ wArrB) rfl hK hP.2 hD hS hA (N' := x.toNatClampNeg) (a0 := (x.toNatClampNeg, .inl fun _ => 0)) (fun _ => by rw [vp_cell_i]; rfl) hx0 rfl (by show x.toNatClampNeg * 1 ≤ _; omega) (Nat.le_refl _) (by show 0 + x.toNatClampNeg ≤ x.toNatClampNeg; omega) dJ7_copyOf_9075b_15 (fun q cB H hK1 hPw hD hS => ?_)
  have hcB : cB = cA 2 := by
    have h1 : s.vm.findClass ("[" ++ FieldType.byte.toString) = some cB := (hK1.2 5 (cB, .byte) rfl).2
    have h2 : s.vm.findClass ("[" ++ FieldType.byte.toString) = some (cA 2) := (hK1.2 2 (cA 2, .byte) rfl).2
    exact Option.some.inj (h1.symm.trans h2)
  subst hcB
  refine lv_astore_n (lv' := [(2, .ref q), (0, .ref η.2.2.1), (1, .int x)]) C.1 C.2.1 dJ7_copyOf_9075b_17 rfl hl (by decide) rfl (fun ls hl => ?_)
  refine lv_aload_n C.1 C.2.1 dJ7_copyOf_9075b_18 rfl (lv_at hl 1 rfl) ?_
  refine lv_iconst (v := (0 : Int32)) C.1 C.2.1 dJ7_copyOf_9075b_19 (by decide) ?_
  refine lv_aload_n C.1 C.2.1 dJ7_copyOf_9075b_20 rfl (lv_at hl 0 rfl) ?_
  refine lv_iconst (v := (0 : Int32)) C.1 C.2.1 dJ7_copyOf_9075b_21 (by decide) ?_
  refine lv_aload_n C.1 C.2.1 dJ7_copyOf_9075b_22 rfl (lv_at hl 1 rfl) ?_
  refine va_alen C.1 C.2.1 hK1 hPw 46 2 (v := nI (cs_scap σ)) rfl rfl rfl dJ7_copyOf_9075b_23 ?_
  refine lv_iload_n C.1 C.2.1 dJ7_copyOf_9075b_24 rfl (lv_at hl 2 rfl) ?_
  refine va_mmin C.1 C.2.1 (by rw [C.2.2.1]; exact hl.1.symm) C.2.2.2.1 (C.2.2.2.2 _ wm_J7_304.1) (C.2.2.2.2 _ wm_J7_304.2.1) (C.2.2.2.2 _ wm_J7_304.2.2.1) (C.2.2.2.2 _ wm_J7_304.2.2.2) (Nat.le_of_ble_eq_true rfl) (Nat.le_of_ble_eq_true rfl) (Nat.le_refl _) (by show 0 + x.toNatClampNeg ≤ x.toNatClampNeg; omega) dJ7_copyOf_9075b_25 ?_
  rw [← hn9]
  obtain ⟨p1, p2, p3, p4, p5⟩ := cpo_in hcp
  refine va_copyi (ty := .byte) C.1 C.2.1 (by rw [C.2.2.1]; exact hl.1.symm) C.2.2.2.1 (C.2.2.2.2 _ wy_J7_150.1) (C.2.2.2.2 _ wy_J7_150.2.1) (C.2.2.2.2 _ wy_J7_150.2.2.1) (C.2.2.2.2 _ wy_J7_150.2.2.2) hK1 hPw hD hS 46 (wC cA ad σ η).length 2 5 (f := cs_sv σ) (g := fun _ => 0) rfl (get_last _ _) rfl rfl rfl p1 p2 p3 p4 p5 (fun i hi => by
    show fits .byte (.int (cs_sv σ (0 + i))) = true
    rw [Nat.zero_add]
    exact fitB_at hfit hi) (Nat.le_of_ble_eq_true rfl) (Nat.le_of_ble_eq_true rfl) dJ7_copyOf_9075b_28 (fun H locs hPw hD hS => ?_)
  rw [set_last] at hPw hD
  refine lv_aload_n C.1 C.2.1 dJ7_copyOf_9075b_31 rfl (lv_at hl 0 rfl) ?_
  refine W.widen (k := 1) (n := x.toNatClampNeg) (Nat.le_refl _) (by omega) ?_
  refine W.aret C.1 C.2.1 hr (Or.inr ⟨_, rfl⟩) (Or.inr ⟨_, rfl⟩) (fun t ht hW => ?_) hS.2.2 dJ7_copyOf_9075b_32 hlk
  subst hAe
  exact ⟨q, rfl, by rw [ht]; exact hPw, va_K.moved hW.alike hK, hD, hS.F ht⟩
