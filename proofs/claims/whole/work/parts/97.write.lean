/-! write, written: the builder and the reference's row -/
section W1
variable {F : Nat} {σ σ' σ'' : CSt} {τ τ' τ'' : MS} {O : Nat → Int32} {m : Nat}
/-- all but the builder and the room -/
def Ks (σ σ' : CSt) : Prop := σ'.1 = σ.1 ∧ σ'.2.1 = σ.2.1 ∧ σ'.2.2.1 = σ.2.2.1 ∧ σ'.2.2.2.2.1 = σ.2.2.2.2.1 ∧ gtx σ' = gtx σ
theorem Ks.rf : Ks σ σ := ⟨rfl, rfl, rfl, rfl, rfl⟩
theorem Ks.tr (h1 : Ks σ σ') (h2 : Ks σ' σ'') : Ks σ σ'' := by
  obtain ⟨a1, a2, a3, a4, a5⟩ := h1
  obtain ⟨b1, b2, b3, b4, b5⟩ := h2
  exact ⟨b1.trans a1, b2.trans a2, b3.trans a3, b4.trans a4, b5.trans a5⟩
theorem Ks_sct (v : Int32) : Ks σ (cs_sct_s σ v) := ⟨rfl, rfl, rfl, rfl, rfl⟩
theorem Ks_sml (v : Int32) : Ks σ (cs_sml_s σ v) := ⟨rfl, rfl, rfl, rfl, rfl⟩
theorem Ks_sv (v : Nat → Int32) : Ks σ (cs_sv_s σ v) := ⟨rfl, rfl, rfl, rfl, rfl⟩
theorem Ks_scap (v : Nat) : Ks σ (cs_scap_s σ v) := ⟨rfl, rfl, rfl, rfl, rfl⟩
theorem Ks_nc (v : Nat) : Ks σ (cs_nc_s σ v) := ⟨rfl, rfl, rfl, rfl, rfl⟩
theorem Ks_ns (v : Nat) : Ks σ (cs_ns_s σ v) := ⟨rfl, rfl, rfl, rfl, rfl⟩
/-- how the room goes with the builder's size -/
def SbG (σ σ' : CSt) : Prop := cs_scap σ ≤ cs_scap σ' ∧ cs_nc σ ≤ cs_nc σ' ∧ cs_nc σ' + cs_scap σ ≤ cs_nc σ + cs_scap σ' ∧ cs_ns σ ≤ cs_ns σ' ∧ cs_ns σ' + 2 * cs_scap σ ≤ cs_ns σ + 2 * cs_scap σ'
theorem SbG.rf : SbG σ σ := ⟨by omega, by omega, by omega, by omega, by omega⟩
theorem SbG.tr (h1 : SbG σ σ') (h2 : SbG σ' σ'') : SbG σ σ'' := by
  unfold SbG at h1 h2 ⊢
  omega
theorem SbG.eq (e1 : cs_scap σ' = cs_scap σ) (e2 : cs_nc σ' = cs_nc σ) (e3 : cs_ns σ' = cs_ns σ) : SbG σ σ' := by
  unfold SbG
  omega
def SbK (σ σ' : CSt) : Prop := Ks σ σ' ∧ SbG σ σ'
theorem SbK.rf : SbK σ σ := ⟨Ks.rf, SbG.rf⟩
theorem SbK.tr (h1 : SbK σ σ') (h2 : SbK σ' σ'') : SbK σ σ'' := ⟨h1.1.tr h2.1, h1.2.tr h2.2⟩
theorem SbK_sct (v : Int32) : SbK σ (cs_sct_s σ v) := ⟨Ks_sct v, SbG.eq rfl rfl rfl⟩
theorem SbK_sml (v : Int32) : SbK σ (cs_sml_s σ v) := ⟨Ks_sml v, SbG.eq rfl rfl rfl⟩
theorem SbK_sv (v : Nat → Int32) : SbK σ (cs_sv_s σ v) := ⟨Ks_sv v, SbG.eq rfl rfl rfl⟩
/-- the builder's text is O up to m -/
def SbO (σ : CSt) (O : Nat → Int32) (m : Nat) : Prop := cs_sct σ = I m ∧ m ≤ cs_scap σ ∧ 16 ≤ cs_scap σ ∧ cs_scap σ ≤ 402 ∧ (∀ j, 0 ≤ (cs_sv σ j).toInt ∧ (cs_sv σ j).toInt ≤ 127) ∧ ∀ j, j < m → cs_sv σ j = O j
def OuM (τ : MS) (O : Nat → Int32) (m : Nat) : Prop := ms_outMany τ = I m ∧ ∀ j, j < m → ms_out τ j = O j
def KoM (τ τ' : MS) : Prop := ms_row τ' = ms_row τ ∧ ms_kept τ' = ms_kept τ ∧ ms_text τ' = ms_text τ ∧ ms_length τ' = ms_length τ ∧ ms_silent τ' = ms_silent τ
theorem KoM.rf : KoM τ τ := ⟨rfl, rfl, rfl, rfl, rfl⟩
theorem KoM.tr (h1 : KoM τ τ') (h2 : KoM τ' τ'') : KoM τ τ'' := by
  obtain ⟨a1, a2, a3, a4, a5⟩ := h1
  obtain ⟨b1, b2, b3, b4, b5⟩ := h2
  exact ⟨b1.trans a1, b2.trans a2, b3.trans a3, b4.trans a4, b5.trans a5⟩
theorem KoM_out (v : Nat → Int32) : KoM τ (ms_out_s τ v) := ⟨rfl, rfl, rfl, rfl, rfl⟩
theorem KoM_many (v : Int32) : KoM τ (ms_outMany_s τ v) := ⟨rfl, rfl, rfl, rfl, rfl⟩
theorem shr0 (x : Int32) : x >>> ((0 : Int32) &&& 31) = x := by
  rw [Int32.zero_and, Int32.shiftRight_zero]
theorem shl0 (x : Int32) : x <<< ((0 : Int32) &&& 31) = x := by
  rw [Int32.zero_and, Int32.shiftLeft_zero]
theorem byt_0 : ∀ k : Fin 128, vp_nar .byte (I ((k.val : Nat) : Int)) = I ((k.val : Nat) : Int) := by decide +kernel
theorem byt_1 : ∀ k : Fin 128, (I ((k.val : Nat) : Int)).toInt8.toInt32 = I ((k.val : Nat) : Int) := by decide +kernel
theorem byt_2 : ∀ k : Fin 128, (((I ((k.val : Nat) : Int)) &&& (255 : Int32)).toUInt32 % 65536).toInt32 = I ((k.val : Nat) : Int) := by decide +kernel
theorem byt_3 : ∀ k : Fin 128, vp_nar .char (I ((k.val : Nat) : Int)) = I ((k.val : Nat) : Int) := by decide +kernel
theorem byt_4 : ∀ k : Fin 128, fits .byte (.int (I ((k.val : Nat) : Int))) = true := by decide +kernel
theorem byt_n {x : Int32} (h0 : 0 ≤ x.toInt) (h1 : x.toInt ≤ 127) : ∃ k : Fin 128, x = I ((k.val : Nat) : Int) := by
  refine ⟨⟨x.toInt.toNat, by omega⟩, ?_⟩
  show x = I ((x.toInt.toNat : Nat) : Int)
  rw [show ((x.toInt.toNat : Nat) : Int) = x.toInt by omega, I_of]
theorem sb_fit (h : ∀ j, 0 ≤ (cs_sv σ j).toInt ∧ (cs_sv σ j).toInt ≤ 127) (k : Nat) : fitB (cs_sv σ) k = true := by
  unfold fitB
  refine List.all_eq_true.mpr fun j _ => ?_
  obtain ⟨b, hb⟩ := byt_n (h j).1 (h j).2
  rw [hb]
  exact byt_4 b
theorem sb_new {x : Nat} (hcap : cs_scap σ ≤ 402) (hx : x ≤ 1000) (hlt : cs_scap σ < x) : fc_J5_newCapacity_0f7a4 F σ (I x) = some (I ((max x (2 * cs_scap σ + 2) : Nat) : Int)) := by
  unfold fc_J5_newCapacity_0f7a4 fc_J8_newLength_cabcc
  rw [lt_r, lt_r, lt_r, lt_r, shl0, shl0, I_nat, I_sub, I_2, I_add]
  have e1 : (if I ((x : Int) - (cs_scap σ : Int)) < I ((cs_scap σ : Int) + 2) then I ((cs_scap σ : Int) + 2) else I ((x : Int) - (cs_scap σ : Int))) = I ((max x (2 * cs_scap σ + 2) : Nat) - (cs_scap σ : Int)) := by
    have e0 : (I ((x : Int) - (cs_scap σ : Int)) < I ((cs_scap σ : Int) + 2)) = ((x : Int) - (cs_scap σ : Int) < (cs_scap σ : Int) + 2) := I_lt (by omega) (by omega) (by omega) (by omega)
    by_cases hq : (x : Int) - (cs_scap σ : Int) < (cs_scap σ : Int) + 2
    · rw [if_pos (e0.mpr hq)]
      exact congrArg I (by omega)
    · rw [if_neg (fun hy => hq (e0.mp hy))]
      exact congrArg I (by omega)
  rw [e1, I_add, show (cs_scap σ : Int) + (((max x (2 * cs_scap σ + 2) : Nat) : Int) - (cs_scap σ : Int)) = ((max x (2 * cs_scap σ + 2) : Nat) : Int) by omega]
  have z1 : ¬ I ((max x (2 * cs_scap σ + 2) : Nat) : Int) ≤ 0 := by rw [I_0, I_le] <;> omega
  have z2 : ¬ 2147483639 < I ((max x (2 * cs_scap σ + 2) : Nat) : Int) := by rw [show (2147483639 : Int32) = I 2147483639 from rfl, I_lt] <;> omega
  have z3 : ¬ I ((max x (2 * cs_scap σ + 2) : Nat) : Int) = 2147483647 := by rw [show (2147483647 : Int32) = I 2147483647 from rfl, I_eq] <;> omega
  rw [if_neg z1, if_neg z2, bd_s, if_neg z3, shr0]
theorem sb_ens (h : SbO σ O m) {x : Nat} (hx : x ≤ 201) : ∃ σ9 : CSt, fc_J5_ensureCapacityInternal_d00df F σ (I x) = some σ9 ∧ SbO σ9 O m ∧ SbK σ σ9 ∧ x ≤ cs_scap σ9 := by
  obtain ⟨h1, h2, h3, h4, h5, h6⟩ := id h
  unfold fc_J5_ensureCapacityInternal_d00df
  rw [shr0, I_nat, I_sub]
  by_cases hq : x ≤ cs_scap σ
  · have z1 : I ((x : Int) - (cs_scap σ : Int)) ≤ 0 := by rw [I_0, I_le] <;> omega
    exact ⟨σ, by rw [if_pos z1], h, SbK.rf, hq⟩
  · have z1 : ¬ I ((x : Int) - (cs_scap σ : Int)) ≤ 0 := by rw [I_0, I_le] <;> omega
    rw [if_neg z1, sb_new h4 (by omega) (by omega), bd_s, shl0]
    generalize hn : max x (2 * cs_scap σ + 2) = n9
    have y1 : ¬ I ((n9 : Nat) : Int) < 0 := by rw [I_0, I_lt] <;> omega
    have y2 : (I ((n9 : Nat) : Int)).toNatClampNeg = n9 := by rw [I_cl (by omega) (by omega)]; omega
    have y3 : ¬ I ((n9 : Nat) : Int) = I ((cs_scap σ : Nat) : Int) := by rw [I_eq] <;> omega
    have y4 : ¬ I ((n9 : Nat) : Int) < I ((cs_scap σ : Nat) : Int) := by rw [I_lt] <;> omega
    have y5 : (I ((cs_scap σ : Nat) : Int)).toNatClampNeg = cs_scap σ := by rw [I_cl (by omega) (by omega)]; omega
    have y6 : cpo 0 0 (I ((cs_scap σ : Nat) : Int)) (cs_scap σ) n9 = true := by
      unfold cpo
      have y7 : (0 : Int32) ≤ I ((cs_scap σ : Nat) : Int) := by rw [I_0, I_le] <;> omega
      rw [y5, cN0, decide_eq_true (show (0 : Int32) ≤ 0 from i_rf 0), decide_eq_true y7]
      simp only [Bool.true_and, Bool.and_eq_true, Nat.ble_eq]
      omega
    rw [if_neg y4, gd_t y1, y2, gd_t (show n9 ≤ 65536 by omega), gd_t y3, gd_t y6, y5, gd_t (sb_fit h5 _), lt_r]
    have k1 : Ks σ (egr σ n9 (cs_scap σ)) := (((Ks_nc _).tr (Ks_ns _)).tr (Ks_sv _)).tr (Ks_scap _)
    have c1 : cs_scap (egr σ n9 (cs_scap σ)) = n9 := rfl
    have c2 : cs_sv (egr σ n9 (cs_scap σ)) = va_cpy (cs_sv σ) (fun _ => 0) 0 0 (cs_scap σ) := rfl
    have c3 : cs_sct (egr σ n9 (cs_scap σ)) = cs_sct σ := rfl
    have c4 : cs_nc (egr σ n9 (cs_scap σ)) = cs_nc σ + 1 := rfl
    have c5 : cs_ns (egr σ n9 (cs_scap σ)) = cs_ns σ + n9 := rfl
    refine ⟨egr σ n9 (cs_scap σ), rfl, ⟨c3.trans h1, by rw [c1]; omega, by rw [c1]; omega, by rw [c1]; omega, fun j => ?_, fun j hj => ?_⟩, ⟨k1, ?_⟩, by rw [c1]; omega⟩
    · rw [c2]
      unfold va_cpy
      split
      · exact h5 _
      · show 0 ≤ (0 : Int32).toInt ∧ (0 : Int32).toInt ≤ 127
        decide
    · rw [c2, ← h6 j hj]
      exact cpy0 _ _ (by omega)
    · unfold SbG
      rw [c1, c4, c5]
      omega
theorem sb_lat : fc_J5_isLatin1_aae02 F σ = some 1 := by
  unfold fc_J5_isLatin1_aae02 fc_J5_isLatin1_aae02_L18
  rw [if_neg (show ¬ (1 : Int32) = 0 by decide), if_pos (show (0 : Int32) = 0 from rfl), gd_t (Or.inr rfl)]
/-- a byte is put at a place -/
theorem sb_put (h5 : ∀ j, 0 ≤ (cs_sv σ j).toInt ∧ (cs_sv σ j).toInt ≤ 127) {p9 : Nat} {x : Int32} (h0 : 0 ≤ x.toInt) (h1 : x.toInt ≤ 127) (hp : p9 < 1000) : cs_sv (sc_sv σ (I p9) x) = upd (cs_sv σ) p9 x ∧ (∀ j, 0 ≤ (cs_sv (sc_sv σ (I p9) x) j).toInt ∧ (cs_sv (sc_sv σ (I p9) x) j).toInt ≤ 127) ∧ SbK σ (sc_sv σ (I p9) x) := by
  have e2 : cs_sv (sc_sv σ (I p9) x) = upd (cs_sv σ) p9 x := by
    show upd (cs_sv σ) (I ((p9 : Nat) : Int)).toNatClampNeg (vp_nar .byte x) = _
    obtain ⟨b, hb⟩ := byt_n h0 h1
    rw [I_cl (by omega) (by omega), hb, byt_0 b]
    rfl
  refine ⟨e2, fun j => ?_, SbK_sv _⟩
  rw [e2]
  unfold upd
  split
  · exact ⟨h0, h1⟩
  · exact h5 j
theorem sb_chr (h : SbO σ O m) (hm : m + 1 ≤ 201) {c : Nat} (hc : c < 128) : ∃ σ9 : CSt, fc_J4_append_cf468 F σ (I c) = some σ9 ∧ SbO σ9 (upd O m (I c)) (m + 1) ∧ SbK σ σ9 := by
  obtain ⟨h1, -⟩ := id h
  unfold fc_J4_append_cf468 fc_J5_append_3fe6f fc_J5_append_3fe6f_L75 fc_J1_canEncode_fc78d fc_J1_canEncode_fc78d_L12
  rw [h1, I_S]
  obtain ⟨σ1, g1, ⟨a1, a2, a3, a4, a5, a6⟩, g3, g4⟩ := sb_ens (F := F) h (x := m + 1) hm
  have z1 : ¬ 255 < I ((c : Nat) : Int) := by rw [show (255 : Int32) = I 255 from rfl, I_lt] <;> omega
  have ixm : ix (I ((m : Nat) : Int)) (cs_scap σ1) = true := of_eq_true (I_ix (by omega) (by omega) (by omega))
  have hb0 : 0 ≤ (I ((c : Nat) : Int)).toInt := by rw [I_toInt] <;> omega
  have hb1 : (I ((c : Nat) : Int)).toInt ≤ 127 := by rw [I_toInt] <;> omega
  have hb2 : (I ((c : Nat) : Int)).toInt8.toInt32 = I ((c : Nat) : Int) := byt_1 ⟨c, hc⟩
  rw [g1, bd_s, sb_lat, bd_s, if_neg (show ¬ (1 : Int32) = 0 by decide), if_neg z1, gd_t (Or.inr rfl), bd_s, if_neg (show ¬ (1 : Int32) = 0 by decide), a1, I_S, lt_r, hb2]
  have c0 : cs_scap (cs_sct_s σ1 (I ((m + 1 : Nat) : Int))) = cs_scap σ1 := rfl
  rw [c0, gd_t ixm, lt_r, bd_s]
  obtain ⟨b1, b2', b3⟩ := sb_put (σ := cs_sct_s σ1 (I ((m + 1 : Nat) : Int))) (p9 := m) (x := I ((c : Nat) : Int)) a5 hb0 hb1 (by omega)
  refine ⟨_, rfl, ⟨rfl, ?_, a3, a4, b2', fun j hj => ?_⟩, (g3.tr (SbK_sct _)).tr b3⟩
  · show m + 1 ≤ cs_scap σ1
    omega
  · rw [b1]
    unfold upd
    by_cases hjm : j = m
    · rw [if_pos hjm, if_pos hjm]
    · rw [if_neg hjm, if_neg hjm]
      exact a6 j (by omega)
end W1
