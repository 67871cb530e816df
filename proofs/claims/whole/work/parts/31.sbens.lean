theorem we_J5_15 : Cond.fieldLink RJ5 15 "java/lang/AbstractStringBuilder" "value" "[B" ∈ gT := gT_i 326 (by decide +kernel) rfl
theorem we_J5_22 : Cond.fieldLink RJ5 22 "java/lang/AbstractStringBuilder" "coder" "B" ∈ gT := gT_i 327 (by decide +kernel) rfl
theorem we_J5_104 : CU RJ5 104 yJ5_newCapacity_0f7a4 cJ5_newCapacity_0f7a4 6 (some .int) 1 := ⟨gT_i 864 (by decide +kernel) rfl, gT_i 1579 (by decide +kernel) rfl, gT_x 1 rfl, gT_i 866 (by decide +kernel) rfl, gT_i 85 (by decide +kernel) rfl, gT_i 867 (by decide +kernel) rfl, by decide, by decide, by decide +kernel⟩
theorem we_J5_108 : CS RJ5 108 yJ7_copyOf_9075b cJ7_copyOf_9075b 3 (some (.array .byte)) 2 := ⟨gT_i 877 (by decide +kernel) rfl, gT_i 878 (by decide +kernel) rfl, gT_i 93 (by decide +kernel) rfl, gT_i 879 (by decide +kernel) rfl, by decide, by decide, by decide +kernel⟩
def egr (σ : CSt) (n : Nat) (m : Nat) : CSt := cs_scap_s (cs_sv_s (bump σ 1 n) (va_cpy (cs_sv σ) (fun _ => 0) 0 0 m)) n
def fc_J5_ensureCapacityInternal_d00df (F : Nat) (σ : CSt) (x1 : Int32) : Option (CSt) :=
  if (x1 - (nI (cs_scap σ) >>> ((0 : Int32) &&& 31))) ≤ 0 then some σ else bd (fc_J5_newCapacity_0f7a4 F σ x1) (fun r24 => gd (¬ (r24 <<< ((0 : Int32) &&& 31)) < 0) (gd ((r24 <<< ((0 : Int32) &&& 31)).toNatClampNeg ≤ 65536) (gd (¬ (r24 <<< ((0 : Int32) &&& 31)) = nI (cs_scap σ)) (gd (cpo 0 0 (if (r24 <<< ((0 : Int32) &&& 31)) < nI (cs_scap σ) then (r24 <<< ((0 : Int32) &&& 31)) else nI (cs_scap σ)) (cs_scap σ) (r24 <<< ((0 : Int32) &&& 31)).toNatClampNeg = true) (gd (fitB (cs_sv σ) (if (r24 <<< ((0 : Int32) &&& 31)) < nI (cs_scap σ) then (r24 <<< ((0 : Int32) &&& 31)) else nI (cs_scap σ)).toNatClampNeg = true) (lt (egr σ (r24 <<< ((0 : Int32) &&& 31)).toNatClampNeg (if (r24 <<< ((0 : Int32) &&& 31)) < nI (cs_scap σ) then (r24 <<< ((0 : Int32) &&& 31)) else nI (cs_scap σ)).toNatClampNeg) (fun σ1 => some σ1)))))))
theorem mo_J5_ensureCapacityInternal_d00df {F : Nat} {σ : CSt} {x1 : Int32} {σr : CSt} (h : fc_J5_ensureCapacityInternal_d00df F σ x1 = some σr) : Mo σ σr := by
  unfold fc_J5_ensureCapacityInternal_d00df at h
  rcases br_any h with h | h
  · obtain rfl := Option.some.inj h
    exact Mo.rf
  · obtain ⟨r24, -, h⟩ := bd_some h
    obtain ⟨-, h⟩ := gd_some h
    obtain ⟨-, h⟩ := gd_some h
    obtain ⟨-, h⟩ := gd_some h
    obtain ⟨-, h⟩ := gd_some h
    obtain ⟨-, h⟩ := gd_some h
    obtain ⟨σ1, he, h⟩ := lt_some h
    obtain rfl := Option.some.inj h
    rw [he]
    exact (Mo.bump σ 1 _)
set_option maxHeartbeats 4000000 in
set_option maxRecDepth 100000 in
theorem kc_J5_ensureCapacityInternal_d00df (l : Launch) (D : va_G) (cA : Nat → ClassId) (ad : Nat → Nat) (σ0 : CSt) (η0 : HS) (F : Nat) (z1 : Int32) (σr : CSt) (hf : fc_J5_ensureCapacityInternal_d00df F σ0 z1 = some σr) : KE l D cA ad σ0 η0 yJ5_ensureCapacityInternal_d00df cJ5_ensureCapacityInternal_d00df 3 none (rmc 3 69 (cs_nc σr - cs_nc σ0) (cs_ns σr - cs_ns σ0)) [.ref (ad 45), .int z1] none σr := by
  refine KE.of (by decide) (Nat.le_of_ble_eq_true rfl) ?_
  intro p e s m below meth c A hAe hA C hr hlk hK hP hD hS hZ ls hl
  have hl : lv_has ls 3 [(0, .ref (ad 45)), (1, .int z1)] := hl
  unfold fc_J5_ensureCapacityInternal_d00df at hf
  refine lv_aload_n C.1 C.2.1 dJ5_ensureCapacityInternal_d00df_0 rfl (lv_at hl 0 rfl) ?_
  refine gb_value C hK hP we_J5_15 dJ5_ensureCapacityInternal_d00df_1 ?_
  refine nb_sv C hK hP dJ5_ensureCapacityInternal_d00df_4 ?_
  refine lv_aload_n C.1 C.2.1 dJ5_ensureCapacityInternal_d00df_5 rfl (lv_at hl 0 rfl) ?_
  refine gb_coder C hK hP we_J5_22 dJ5_ensureCapacityInternal_d00df_6 ?_
  refine lv_ishr C.1 C.2.1 dJ5_ensureCapacityInternal_d00df_9 ?_
  refine lv_istore_n (lv' := [(2, .int (nI (cs_scap σ0) >>> ((0 : Int32) &&& 31))), (0, .ref (ad 45)), (1, .int z1)]) C.1 C.2.1 dJ5_ensureCapacityInternal_d00df_10 rfl hl (by decide) rfl (fun ls hl => ?_)
  refine lv_iload_n C.1 C.2.1 dJ5_ensureCapacityInternal_d00df_11 rfl (lv_at hl 2 rfl) ?_
  refine lv_iload_n C.1 C.2.1 dJ5_ensureCapacityInternal_d00df_12 rfl (lv_at hl 0 rfl) ?_
  refine lv_isub C.1 C.2.1 dJ5_ensureCapacityInternal_d00df_13 ?_
  refine lv_if_le (tgt := 38) C.1 C.2.1 dJ5_ensureCapacityInternal_d00df_14 (by decide) (fun c14 => ?_) (fun c14 => ?_)
  · have hf := br_p c14 hf
    obtain rfl := Option.some.inj hf
    exact KE.vret C hr hlk hK hAe ext.rf hP hD hS (Nat.zero_le _) (Nat.zero_le _) rfl dJ5_ensureCapacityInternal_d00df_38
  · have hf := br_n c14 hf
    obtain ⟨r24, hc24, hf⟩ := bd_some hf
    obtain ⟨w, hw⟩ : ∃ w, w = r24 <<< ((0 : Int32) &&& 31) := ⟨_, rfl⟩
    rw [← hw] at hf
    obtain ⟨n9, hn9⟩ : ∃ n9, n9 = if w < nI (cs_scap σ0) then w else nI (cs_scap σ0) := ⟨_, rfl⟩
    rw [← hn9] at hf
    obtain ⟨g1, hf⟩ := gd_some hf
    obtain ⟨g2, hf⟩ := gd_some hf
    obtain ⟨g3, hf⟩ := gd_some hf
    obtain ⟨g4, hf⟩ := gd_some hf
    obtain ⟨g5, hf⟩ := gd_some hf
    replace hf := lt_e hf
    obtain rfl := Option.some.inj hf
    have hmc : cs_nc (egr σ0 w.toNatClampNeg n9.toNatClampNeg) - cs_nc σ0 = 1 := by show cs_nc σ0 + 1 - cs_nc σ0 = 1; omega
    have hms : cs_ns (egr σ0 w.toNatClampNeg n9.toNatClampNeg) - cs_ns σ0 = w.toNatClampNeg := by show cs_ns σ0 + w.toNatClampNeg - cs_ns σ0 = _; omega
    rw [hmc, hms]
    refine lv_aload_n C.1 C.2.1 dJ5_ensureCapacityInternal_d00df_17 rfl (lv_at hl 1 rfl) ?_
    refine lv_aload_n C.1 C.2.1 dJ5_ensureCapacityInternal_d00df_18 rfl (lv_at hl 1 rfl) ?_
    refine gb_value C hK hP we_J5_15 dJ5_ensureCapacityInternal_d00df_19 ?_
    refine lv_aload_n C.1 C.2.1 dJ5_ensureCapacityInternal_d00df_22 rfl (lv_at hl 1 rfl) ?_
    refine lv_iload_n C.1 C.2.1 dJ5_ensureCapacityInternal_d00df_23 rfl (lv_at hl 2 rfl) ?_
    refine cV_go ((CU.run (As := [_]) we_J5_104 C hl (kc_J5_newCapacity_0f7a4 l D cA ad σ0 η0 F z1 r24 hc24) (preR hK hP hZ hS (rcS hK hP)) rfl rfl rfl (Nat.le_of_ble_eq_true rfl) ⟨Nat.zero_le _, Nat.zero_le _⟩ dJ5_ensureCapacityInternal_d00df_24).run) ?_
    refine lv_aload_n C.1 C.2.1 dJ5_ensureCapacityInternal_d00df_27 rfl (lv_at hl 1 rfl) ?_
    refine gb_coder C hK hP we_J5_22 dJ5_ensureCapacityInternal_d00df_28 ?_
    refine lv_ishl C.1 C.2.1 dJ5_ensureCapacityInternal_d00df_31 ?_
    rw [← hw]
    have hr5 := va_runS (p := p) (l := l) (e := e) (below := below) (meth := meth) (R := rmc 3 69 1 w.toNatClampNeg) (locs := []) (cells := 0) (slots := 0) (As := [.ref η0.2.2.1, .int w]) (g := F0 m 32 ls [.int w, .ref η0.2.2.1, .ref (ad 45)]) (rest := [.ref (ad 45)]) C (kc_copyOfB l D cA ad σ0 η0 w g1 g2 g3 n9 hn9 g4 g5 s.heap.size) (we_J5_108.cwE C ⟨Nat.le_of_ble_eq_true rfl, Nat.le_of_ble_eq_true rfl⟩) ⟨KC.blind, fun U hU hW => ⟨rfl, by rw [hU], by rw [hU]; exact hP, va_K.moved hW.alike hK, hD.weaken (fun _ _ _ _ => trivial), hZ.go hS (hF_of hD hA hS) hU hW⟩⟩ rfl rfl hl.1 rfl (lv_room (Nat.le_of_ble_eq_true rfl)) dJ5_ensureCapacityInternal_d00df_32 ⟨by show 0 + 1 ≤ 1; omega, by show 0 + w.toNatClampNeg ≤ w.toNatClampNeg; omega⟩
    have hF := hF_of hD hA hS
    intro T hT X
    obtain ⟨v, st₀, t, T', L, h0, X', hL, e1, e2, ⟨q, hv, hp, hk, hd, hz, hq⟩, st⟩ := hr5 T hT X
    cases hv
    rw [h0] at hz hq
    have hS2 : va_S A s.heap T'.heap ([] ++ L) := ⟨by rw [e1]; exact hz, fun q h1 h2 => by rw [e1]; exact hq q h1 (fun z => h2 (hF q z)), fun q hq' => hF _ (hL q (by simpa using hq'))⟩
    have hPw : va_P D vwCl (wC cA ad σ0 η0 ++ [(q, .inl (cA 2, w.toNatClampNeg, .inl (va_cpy (cs_sv σ0) (fun _ => 0) 0 0 n9.toNatClampNeg)))]) T'.heap := by rw [e1]; exact hp
    have hDw : va_D A (wC cA ad σ0 η0 ++ [(q, .inl (cA 2, w.toNatClampNeg, .inl (va_cpy (cs_sv σ0) (fun _ => 0) 0 0 n9.toNatClampNeg)))]) := hd.weaken (fun k q _ h => hF q.1 h)
    obtain ⟨t2, a1, b1⟩ := (show W p l e (rmc 3 69 1 w.toNatClampNeg) s m ([.ref (ad 45), .int z1] : List Value).toArray below meth c T'.heap ([] ++ L) (0 + 1) (0 + w.toNatClampNeg) (MQ below (QE none D cA ad σ0 η0 (egr σ0 w.toNatClampNeg n9.toNatClampNeg) s.heap.size) ([.ref (ad 45), .int z1] : List Value).toArray s 1 w.toNatClampNeg A) (F0 m 35 ls [.ref q, .ref (ad 45)]) from by
      refine va_put (ci := 0) (C := RJ4) (T := TJ4) (N := 4) (v := .ref q) (ty := .array .byte) C.1 C.2.1 C.2.2.2.2 cW_inJ4 tyJ4 tyJ4_ok nmJ4 C.2.2.2.1 hK hPw hDw hS2 45 rfl rfl 0 (by decide) (C.2.2.2.2 _ we_J5_15) (fun _ h9 => h9) rfl (by decide +kernel) rfl rfl (Nat.le_of_ble_eq_true rfl) dJ5_ensureCapacityInternal_d00df_35 (fun H1 locs1 a1 a2 a3 => ?_)
      obtain ⟨η1, hη1⟩ : ∃ η1 : HS, η1 = (η0.1, η0.2.1, q, η0.2.2.2.1, η0.2.2.2.2) := ⟨_, rfl⟩
      have hP1 : va_P D vwCl (((wCf cA ad (egr σ0 w.toNatClampNeg n9.toNatClampNeg) (η0.1, η0.2.1, q, η0.2.2.2.1, η0.2.2.2.2)).take 46) ++ (η0.2.2.1, .inl (cA 2, cs_scap σ0, .inl (cs_sv σ0))) :: va_pl η0.2.2.2.1 η0.2.2.2.2 ++ [(q, .inl (cA 2, w.toNatClampNeg, .inl (va_cpy (cs_sv σ0) (fun _ => 0) 0 0 n9.toNatClampNeg)))]) H1 := a1
      have hD1 : va_D A (((wCf cA ad (egr σ0 w.toNatClampNeg n9.toNatClampNeg) (η0.1, η0.2.1, q, η0.2.2.2.1, η0.2.2.2.2)).take 46) ++ (η0.2.2.1, .inl (cA 2, cs_scap σ0, .inl (cs_sv σ0))) :: va_pl η0.2.2.2.1 η0.2.2.2.2 ++ [(q, .inl (cA 2, w.toNatClampNeg, .inl (va_cpy (cs_sv σ0) (fun _ => 0) 0 0 n9.toNatClampNeg)))]) := a2
      have hx : ext η0 (η0.1, η0.2.1, q, η0.2.2.2.1, η0.2.2.2.2) := fun _ h => ⟨h, rfl⟩
      have hP2 : va_P D vwCl (wC cA ad (egr σ0 w.toNatClampNeg n9.toNatClampNeg) (η0.1, η0.2.1, q, η0.2.2.2.1, η0.2.2.2.2)) H1 := gr_P hP1
      have hD2 : va_D A (wC cA ad (egr σ0 w.toNatClampNeg n9.toNatClampNeg) (η0.1, η0.2.1, q, η0.2.2.2.1, η0.2.2.2.2)) := gr_D hD1
      exact KE.vret C hr hlk hK hAe hx ⟨rel_ext (σ := egr σ0 w.toNatClampNeg n9.toNatClampNeg) hP.1 hx rfl rfl, hP2⟩ hD2 a3 (Nat.le_refl _) (by omega) rfl dJ5_ensureCapacityInternal_d00df_38) T' rfl X'
    exact ⟨t2, st t2 a1, b1⟩
