/-! write, written: numbers, the loops -/
section W2
variable {F : Nat} {σ σ' σ'' : CSt} {τ τ' τ'' : MS} {O : Nat → Int32} {m v : Nat}
theorem I_addN (a b : Nat) : I (a : Int) + I (b : Int) = I ((a + b : Nat) : Int) := by rw [I_add]; rfl
def nmL (v : Nat) : Nat := if 10 ≤ v then 2 else 1
def nmO (O : Nat → Int32) (m v : Nat) : Nat → Int32 := if 10 ≤ v then upd (upd O (m + 1) (I ((48 + v % 10 : Nat) : Int))) m (I ((48 + v / 10 : Nat) : Int)) else upd O m (I ((48 + v % 10 : Nat) : Int))
theorem nmL_le : nmL v ≤ 2 := by
  unfold nmL
  split <;> omega
theorem sz_ok (hF : 10 ≤ F) (hv : v ≤ 99) : fc_J6_stringSize_0f7a4 F σ (I v) = some (I ((nmL v : Nat) : Int)) := by
  have z0 : ¬ I ((v : Nat) : Int) < 0 := by rw [I_0, I_lt] <;> omega
  have stp : ∀ (K : Nat) (a b c d : Int32), fc_J6_stringSize_0f7a4_L16 F σ (K + 1) a b c d = fc_J6_stringSize_0f7a4_L16_c F σ (fc_J6_stringSize_0f7a4_L16 F σ K) a b c d := fun _ _ _ _ _ => rfl
  have key : ∀ K : Nat, 2 ≤ K → fc_J6_stringSize_0f7a4_L16 F σ K (I (-(v : Int))) 0 (-10) 1 = some (I ((nmL v : Nat) : Int)) := fun K hK => by
    obtain ⟨K9, rfl⟩ : ∃ K9, K = K9 + 2 := ⟨K - 2, by omega⟩
    rw [stp]
    unfold fc_J6_stringSize_0f7a4_L16_c
    rw [if_neg (show ¬ (10 : Int32) ≤ 1 by decide)]
    have e1 : (I (-(v : Int)) ≤ (-10 : Int32)) = (-(v : Int) ≤ -10) := by rw [show (-10 : Int32) = I (-10) from rfl, I_le] <;> omega
    by_cases hq : 10 ≤ v
    · rw [if_pos (e1.mpr (by omega)), lt_r, lt_r, stp]
      unfold fc_J6_stringSize_0f7a4_L16_c
      have e2 : (I (-(v : Int)) ≤ (10 * -10 : Int32)) = (-(v : Int) ≤ -100) := by rw [show (10 * -10 : Int32) = I (-100) from rfl, I_le] <;> omega
      rw [if_neg (show ¬ (10 : Int32) ≤ 1 + 1 by decide), if_neg (fun hy => absurd (e2.mp hy) (by omega))]
      unfold nmL
      rw [if_pos hq]
      rfl
    · rw [if_neg (fun hy => absurd (e1.mp hy) (by omega))]
      unfold nmL
      rw [if_neg hq]
      rfl
  unfold fc_J6_stringSize_0f7a4 fc_J6_stringSize_0f7a4_L11
  rw [if_neg z0, lt_r, I_neg]
  exact key F (by omega)
theorem gc_0 (hF : 1 ≤ F) {x : Int32} (hv : v ≤ 99) : fc_J6_getChars_ba4f3 F σ (I v) x = lt (x + -1) (fun x5_73 => gd (ix (I v) 100 = true) (gd (ix x5_73 (cs_scap σ) = true) (lt (sc_sv σ x5_73 (nI (48 + (I v).toNatClampNeg % 10))) (fun σ84 => if -9 ≤ I (-(v : Int)) then (some (x5_73, σ84)) else (lt (x5_73 + -1) (fun x5_92 => gd (ix (I v) 100 = true) (gd (ix x5_92 (cs_scap σ84) = true) (lt (sc_sv σ84 x5_92 (nI (48 + (I v).toNatClampNeg / 10))) (fun σ103 => some (x5_92, σ103)))))))))) := by
  have z0 : 0 ≤ I ((v : Nat) : Int) := by rw [I_0, I_le] <;> omega
  have z1 : -100 < I (-(v : Int)) := by rw [show (-100 : Int32) = I (-100) from rfl, I_lt] <;> omega
  have stp : ∀ (K : Nat) (x0 x5 x6 : Int32), fc_J6_getChars_ba4f3_L22 F (K + 1) σ x0 x5 x6 = fc_J6_getChars_ba4f3_L22_c F (fc_J6_getChars_ba4f3_L22 F K) σ x0 x5 x6 := fun _ _ _ _ => rfl
  have key : ∀ K : Nat, 1 ≤ K → fc_J6_getChars_ba4f3_L22 F K σ (I (-(v : Int))) x 0 = lt (x + -1) (fun x5_73 => gd (ix (I v) 100 = true) (gd (ix x5_73 (cs_scap σ) = true) (lt (sc_sv σ x5_73 (nI (48 + (I v).toNatClampNeg % 10))) (fun σ84 => if -9 ≤ I (-(v : Int)) then (some (x5_73, σ84)) else (lt (x5_73 + -1) (fun x5_92 => gd (ix (I v) 100 = true) (gd (ix x5_92 (cs_scap σ84) = true) (lt (sc_sv σ84 x5_92 (nI (48 + (I v).toNatClampNeg / 10))) (fun σ103 => some (x5_92, σ103)))))))))) := fun K hK => by
    obtain ⟨K9, rfl⟩ : ∃ K9, K = K9 + 1 := ⟨K - 1, by omega⟩
    rw [stp]
    unfold fc_J6_getChars_ba4f3_L22_c
    rw [if_pos z1, I_neg, Int.neg_neg]
    rfl
  unfold fc_J6_getChars_ba4f3 fc_J6_getChars_ba4f3_L12
  rw [if_pos z0, if_pos (show (0 : Int32) = 0 from rfl), lt_r, I_neg]
  exact key F hF
theorem gc_1 (hF : 1 ≤ F) (hv : v ≤ 9) (hm : m + 1 ≤ cs_scap σ) (hc : cs_scap σ ≤ 402) : fc_J6_getChars_ba4f3 F σ (I v) (I ((m + 1 : Nat) : Int)) = some (I m, sc_sv σ (I m) (I ((48 + v % 10 : Nat) : Int))) := by
  have e0 : I ((m + 1 : Nat) : Int) + -1 = I m := by rw [show (-1 : Int32) = I (-1) from rfl, I_add]; exact congrArg I (by omega)
  have e1 : (I ((v : Nat) : Int)).toNatClampNeg = v := by rw [I_cl (by omega) (by omega)]; omega
  have z1 : -9 ≤ I (-(v : Int)) := by rw [show (-9 : Int32) = I (-9) from rfl, I_le] <;> omega
  rw [gc_0 hF (by omega), lt_r, e0, gd_t (of_eq_true (I_ix (by omega) (by omega) (by omega))), gd_t (of_eq_true (I_ix (by omega) (by omega) (by omega))), lt_r, if_pos z1, e1, I_nat]
theorem gc_2 (hF : 1 ≤ F) (h10 : 10 ≤ v) (hv : v ≤ 99) (hm : m + 2 ≤ cs_scap σ) (hc : cs_scap σ ≤ 402) : fc_J6_getChars_ba4f3 F σ (I v) (I ((m + 2 : Nat) : Int)) = some (I m, sc_sv (sc_sv σ (I ((m + 1 : Nat) : Int)) (I ((48 + v % 10 : Nat) : Int))) (I m) (I ((48 + v / 10 : Nat) : Int))) := by
  have e0 : I ((m + 2 : Nat) : Int) + -1 = I ((m + 1 : Nat) : Int) := by rw [show (-1 : Int32) = I (-1) from rfl, I_add]; exact congrArg I (by omega)
  have e2 : I ((m + 1 : Nat) : Int) + -1 = I m := by rw [show (-1 : Int32) = I (-1) from rfl, I_add]; exact congrArg I (by omega)
  have e1 : (I ((v : Nat) : Int)).toNatClampNeg = v := by rw [I_cl (by omega) (by omega)]; omega
  have z1 : ¬ -9 ≤ I (-(v : Int)) := by rw [show (-9 : Int32) = I (-9) from rfl, I_le] <;> omega
  have ixv : ix (I ((v : Nat) : Int)) 100 = true := of_eq_true (I_ix (by omega) (by omega) (by omega))
  have ix1 : ix (I ((m + 1 : Nat) : Int)) (cs_scap σ) = true := of_eq_true (I_ix (by omega) (by omega) (by omega))
  have ix0 : ix (I ((m : Nat) : Int)) (cs_scap σ) = true := of_eq_true (I_ix (by omega) (by omega) (by omega))
  have c0 : cs_scap (sc_sv σ (I ((m + 1 : Nat) : Int)) (I ((48 + v % 10 : Nat) : Int))) = cs_scap σ := rfl
  rw [gc_0 hF hv, lt_r, e0, gd_t ixv, gd_t ix1, lt_r, if_neg z1, e1, I_nat, I_nat, lt_r, e2, gd_t ixv, c0, gd_t ix0, lt_r]
theorem sb_int (hF : 10 ≤ F) (h : SbO σ O m) (hv : v ≤ 99) (hm : m + 2 ≤ 201) : ∃ σ9 : CSt, fc_J4_append_bf812 F σ (I v) = some σ9 ∧ SbO σ9 (nmO O m v) (m + nmL v) ∧ SbK σ σ9 := by
  obtain ⟨h1, -⟩ := id h
  have hl := nmL_le (v := v)
  obtain ⟨σ1, g1, ⟨a1, a2, a3, a4, a5, a6⟩, g3, g4⟩ := sb_ens (F := F) h (x := m + nmL v) (by omega)
  unfold fc_J4_append_bf812 fc_J5_append_c97b9 fc_J5_append_c97b9_L48
  rw [h1, lt_r, sz_ok hF hv, bd_s, lt_r, I_addN, g1, bd_s, sb_lat, bd_s, if_neg (show ¬ (1 : Int32) = 0 by decide)]
  have q0 : 0 ≤ (I ((48 + v % 10 : Nat) : Int)).toInt := by rw [I_toInt] <;> omega
  have q1 : (I ((48 + v % 10 : Nat) : Int)).toInt ≤ 127 := by rw [I_toInt] <;> omega
  have q2 : 0 ≤ (I ((48 + v / 10 : Nat) : Int)).toInt := by rw [I_toInt] <;> omega
  have q3 : (I ((48 + v / 10 : Nat) : Int)).toInt ≤ 127 := by rw [I_toInt] <;> omega
  by_cases hq : 10 ≤ v
  · have e1 : nmL v = 2 := if_pos hq
    have e2 : nmO O m v = upd (upd O (m + 1) (I ((48 + v % 10 : Nat) : Int))) m (I ((48 + v / 10 : Nat) : Int)) := if_pos hq
    rw [e1] at g4 ⊢
    rw [gc_2 (by omega) hq hv g4 a4, bd2_s, lt_r, bd_s, e2]
    obtain ⟨b1, b2', b3⟩ := sb_put (σ := σ1) (p9 := m + 1) a5 q0 q1 (by omega)
    obtain ⟨b4, b5, b6⟩ := sb_put (σ := sc_sv σ1 (I ((m + 1 : Nat) : Int)) (I ((48 + v % 10 : Nat) : Int))) (p9 := m) b2' q2 q3 (by omega)
    refine ⟨_, rfl, ⟨rfl, g4, a3, a4, b5, fun j hj => ?_⟩, ((g3.tr b3).tr b6).tr (SbK_sct _)⟩
    rw [zc_sv_sct, b4, b1]
    unfold upd
    by_cases hj0 : j = m
    · rw [if_pos hj0, if_pos hj0]
    · rw [if_neg hj0, if_neg hj0]
      by_cases hj1 : j = m + 1
      · rw [if_pos hj1, if_pos hj1]
      · rw [if_neg hj1, if_neg hj1]
        exact a6 j (by omega)
  · have e1 : nmL v = 1 := if_neg hq
    have e2 : nmO O m v = upd O m (I ((48 + v % 10 : Nat) : Int)) := if_neg hq
    rw [e1] at g4 ⊢
    rw [gc_1 (by omega) (by omega) g4 a4, bd2_s, lt_r, bd_s, e2]
    obtain ⟨b1, b2', b3⟩ := sb_put (σ := σ1) (p9 := m) a5 q0 q1 (by omega)
    refine ⟨_, rfl, ⟨rfl, g4, a3, a4, b2', fun j hj => ?_⟩, (g3.tr b3).tr (SbK_sct _)⟩
    rw [zc_sv_sct, b1]
    unfold upd
    by_cases hj0 : j = m
    · rw [if_pos hj0, if_pos hj0]
    · rw [if_neg hj0, if_neg hj0]
      exact a6 j (by omega)
theorem OuM.cg {O' : Nat → Int32} (h : OuM τ O m) (he : ∀ j, j < m → O j = O' j) : OuM τ O' m := ⟨h.1, fun j hj => (h.2 j hj).trans (he j hj)⟩
theorem om_chr (h : OuM τ O m) (hm : m + 1 ≤ 201) (x : Int32) : ∃ τ9 : MS, fm_writes F τ x = some τ9 ∧ OuM τ9 (upd O m x) (m + 1) ∧ KoM τ τ9 := by
  obtain ⟨h1, h2⟩ := h
  have ixm : ix (I ((m : Nat) : Int)) 400 = true := of_eq_true (I_ix (by omega) (by omega) (by omega))
  have c0 : ms_outMany (st_out τ (I m) x) = I m := h1
  have n6 : (I ((m : Nat) : Int)).toNatClampNeg = m := by rw [I_cl (by omega) (by omega)]; omega
  unfold fm_writes
  rw [h1, gd_t ixm, lt_r, lt_r, c0, I_S]
  refine ⟨_, rfl, ⟨rfl, fun j hj => ?_⟩, (KoM_out _).tr (KoM_many _)⟩
  show upd (ms_out τ) (I ((m : Nat) : Int)).toNatClampNeg x j = _
  rw [n6]
  unfold upd
  by_cases hj0 : j = m
  · rw [if_pos hj0, if_pos hj0]
  · rw [if_neg hj0, if_neg hj0]
    exact h2 j (by omega)
theorem dg_1 : ∀ k : Fin 100, (48 : Int32) + I ((k.val : Nat) : Int) / 10 = I ((48 + k.val / 10 : Nat) : Int) := by decide +kernel
theorem dg_2 : ∀ k : Fin 100, (48 : Int32) + (I ((k.val : Nat) : Int) - I ((k.val : Nat) : Int) / 10 * 10) = I ((48 + k.val % 10 : Nat) : Int) := by decide +kernel
theorem om_int (h : OuM τ O m) (hv : v ≤ 99) (hm : m + 2 ≤ 201) : ∃ τ9 : MS, fm_number F τ (I v) = some τ9 ∧ OuM τ9 (nmO O m v) (m + nmL v) ∧ KoM τ τ9 := by
  have d1 : (48 : Int32) + I ((v : Nat) : Int) / 10 = I ((48 + v / 10 : Nat) : Int) := dg_1 ⟨v, by omega⟩
  have d2 : (48 : Int32) + (I ((v : Nat) : Int) - I ((v : Nat) : Int) / 10 * 10) = I ((48 + v % 10 : Nat) : Int) := dg_2 ⟨v, by omega⟩
  have e0 : (I ((v : Nat) : Int) ≤ 9) = ((v : Int) ≤ 9) := by rw [I_9, I_le] <;> omega
  unfold fm_number fm_number_L17
  rw [d1, d2]
  by_cases hq : 10 ≤ v
  · have e1 : nmL v = 2 := if_pos hq
    have e2 : nmO O m v = upd (upd O (m + 1) (I ((48 + v % 10 : Nat) : Int))) m (I ((48 + v / 10 : Nat) : Int)) := if_pos hq
    rw [if_neg (fun hy => absurd (e0.mp hy) (by omega)), e1, e2]
    obtain ⟨τ1, g1, g2, g3⟩ := om_chr (F := F) h (by omega) (I ((48 + v / 10 : Nat) : Int))
    obtain ⟨τ2, k1, k2, k3⟩ := om_chr (F := F) g2 (by omega) (I ((48 + v % 10 : Nat) : Int))
    rw [g1, bd_s, k1, bd_s]
    refine ⟨τ2, rfl, k2.cg fun j hj => ?_, g3.tr k3⟩
    unfold upd
    by_cases hj0 : j = m
    · rw [if_pos hj0, if_pos hj0, if_neg (by omega)]
    · rw [if_neg hj0, if_neg hj0]
  · have e1 : nmL v = 1 := if_neg hq
    have e2 : nmO O m v = upd O m (I ((48 + v % 10 : Nat) : Int)) := if_neg hq
    rw [if_pos (e0.mpr (by omega)), e1, e2]
    obtain ⟨τ1, g1, g2, g3⟩ := om_chr (F := F) h (by omega) (I ((48 + v % 10 : Nat) : Int))
    rw [g1, bd_s]
    exact ⟨τ1, rfl, g2, g3⟩
end W2
