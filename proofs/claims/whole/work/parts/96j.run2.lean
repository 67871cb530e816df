/-! run, type, clearText: the calls -/
section U7
variable {F : Nat} {σ σ' : CSt} {τ τ' : MS} {n : Nat} {T : Nat → Int32}
/-- all but the text -/
def KeT (σ σ' : CSt) : Prop := σ'.1 = σ.1 ∧ σ'.2.1 = σ.2.1 ∧ σ'.2.2.1 = σ.2.2.1 ∧ σ'.2.2.2.2.1 = σ.2.2.2.2.1 ∧ gsb σ' = gsb σ ∧ ggh σ' = ggh σ
def KeM (τ τ' : MS) : Prop := ms_row τ' = ms_row τ ∧ ms_kept τ' = ms_kept τ ∧ ms_out τ' = ms_out τ ∧ ms_outMany τ' = ms_outMany τ ∧ ms_silent τ' = ms_silent τ
theorem KeT.rf : KeT σ σ := ⟨rfl, rfl, rfl, rfl, rfl, rfl⟩
theorem KeM.rf : KeM τ τ := ⟨rfl, rfl, rfl, rfl, rfl⟩
theorem KeT.tr {σ'' : CSt} (h1 : KeT σ σ') (h2 : KeT σ' σ'') : KeT σ σ'' := by
  obtain ⟨a1, a2, a3, a4, a5, a6⟩ := h1
  obtain ⟨b1, b2, b3, b4, b5, b6⟩ := h2
  exact ⟨b1.trans a1, b2.trans a2, b3.trans a3, b4.trans a4, b5.trans a5, b6.trans a6⟩
theorem KeM.tr {τ'' : MS} (h1 : KeM τ τ') (h2 : KeM τ' τ'') : KeM τ τ'' := by
  obtain ⟨a1, a2, a3, a4, a5⟩ := h1
  obtain ⟨b1, b2, b3, b4, b5⟩ := h2
  exact ⟨b1.trans a1, b2.trans a2, b3.trans a3, b4.trans a4, b5.trans a5⟩
theorem KeT_tl (v : Int32) : KeT σ (cs_tl_s σ v) := ⟨rfl, rfl, rfl, rfl, rfl, rfl⟩
theorem KeT_tb (v : Nat → Int32) : KeT σ (cs_tb_s σ v) := ⟨rfl, rfl, rfl, rfl, rfl, rfl⟩
theorem KeM_tx (v : Nat → Int32) : KeM τ (ms_text_s τ v) := ⟨rfl, rfl, rfl, rfl, rfl⟩
theorem KeM_ln (v : Int32) : KeM τ (ms_length_s τ v) := ⟨rfl, rfl, rfl, rfl, rfl⟩
theorem op_type (hX : TxC σ τ) (x : Int32) : ∃ (r : Int32) (σ' : CSt) (τ' : MS), fc_X9_type F σ x = some (r, σ') ∧ fm_type F τ x = some (r, τ') ∧ TxC σ' τ' ∧ KeT σ σ' ∧ KeM τ τ' := by
  obtain ⟨T, n, hS, hM, hB⟩ := hX
  obtain ⟨s1, s2, s3⟩ := id hS
  obtain ⟨m1, m2, m3⟩ := id hM
  unfold fc_X9_type fm_type
  rw [sc_isWithin, sm_in, bd_s, bd_s]
  cases hq : (decide (0 ≤ x) && decide (x ≤ 255)) with
  | false => exact ⟨-1002, σ, τ, by rw [if_pos (show b2 false = 0 by decide)], by rw [if_pos (show b2 false = 0 by decide)], ⟨T, n, hS, hM, hB⟩, KeT.rf, KeM.rf⟩
  | true =>
    obtain ⟨e1, e2, e3⟩ := in_num (a := 0) (b := 255) (by omega) (by omega) (by omega) (by omega) hq
    rw [if_neg (show ¬ b2 true = 0 by decide), if_neg (show ¬ b2 true = 0 by decide), s1, m1]
    by_cases h120 : n = 120
    · subst h120
      exact ⟨-1004, σ, τ, by rw [if_neg (show ¬ I ((120 : Nat) : Int) < 120 by decide)], by rw [if_pos (show I ((120 : Nat) : Int) = 120 from rfl)], ⟨T, 120, hS, hM, hB⟩, KeT.rf, KeM.rf⟩
    · have z1 : I ((n : Nat) : Int) < 120 := by rw [show (120 : Int32) = I 120 from rfl, I_lt] <;> omega
      have z2 : ¬ I ((n : Nat) : Int) = 120 := by rw [show (120 : Int32) = I 120 from rfl, I_eq] <;> omega
      have z3 : ¬ 120 ≤ I ((n : Nat) : Int) := by rw [show (120 : Int32) = I 120 from rfl, I_le] <;> omega
      have ixn : ix (I ((n : Nat) : Int)) 120 = true := of_eq_true (I_ix (by omega) (by omega) (by omega))
      have n6 : (I ((n : Nat) : Int)).toNatClampNeg = n := by rw [I_cl (by omega) (by omega)]; omega
      have c1 : cs_tl (sc_tb σ (I n) x) = I n := s1
      have c2 : ms_length (st_text τ (I n) x) = I n := m1
      unfold fc_X2_append fc_X2_append_L29
      rw [if_pos z1, if_neg z2, s1, if_neg z3, gd_t ixn, gd_t ixn, lt_r, lt_r, lt_r, lt_r, c1, c2, I_S, bd_s]
      refine ⟨I ((n + 1 : Nat) : Int), _, _, rfl, rfl, ⟨upd T n x, n + 1, ⟨rfl, by omega, fun j hj => ?_⟩, ⟨rfl, by omega, fun j hj => ?_⟩, fun j hj => ?_⟩, (KeT_tb _).tr (KeT_tl _), (KeM_tx _).tr (KeM_ln _)⟩
      · show upd (cs_tb σ) (I ((n : Nat) : Int)).toNatClampNeg x j = upd T n x j
        rw [n6]
        unfold upd
        by_cases hj0 : j = n
        · rw [if_pos hj0, if_pos hj0]
        · rw [if_neg hj0, if_neg hj0]
          exact s3 j (by omega)
      · show upd (ms_text τ) (I ((n : Nat) : Int)).toNatClampNeg x j = upd T n x j
        rw [n6]
        unfold upd
        by_cases hj0 : j = n
        · rw [if_pos hj0, if_pos hj0]
        · rw [if_neg hj0, if_neg hj0]
          exact m3 j (by omega)
      · unfold upd
        by_cases hj0 : j = n
        · rw [if_pos hj0, e1, show (-1000 : Int32) = I (-1000) from rfl, I_eq (by omega) (by omega) (by omega) (by omega)]
          omega
        · rw [if_neg hj0]
          exact hB j (by omega)
theorem op_clear (hX : TxC σ τ) : ∃ (r : Int32) (σ' : CSt) (τ' : MS), fc_X9_clearText F σ = some (r, σ') ∧ fm_clearText F τ = some (r, τ') ∧ TxC σ' τ' ∧ KeT σ σ' ∧ KeM τ τ' := by
  obtain ⟨T, n, hS, hM, hB⟩ := hX
  unfold fc_X9_clearText fm_clearText
  rw [lt_r, lt_r, lt_r, lt_r, hS.1, hM.1]
  exact ⟨_, _, _, rfl, rfl, ⟨fun _ => 0, 0, ⟨rfl, by omega, fun j hj => absurd hj (Nat.not_lt_zero _)⟩, ⟨rfl, by omega, fun j hj => absurd hj (Nat.not_lt_zero _)⟩, fun j hj => absurd hj (Nat.not_lt_zero _)⟩, KeT_tl _, KeM_ln _⟩
theorem core_run (h : Core σ τ) (v : Int32) : Core (cs_run_s σ v) τ := h
theorem core_sil (h : Core σ τ) (v : Int32) : Core σ (ms_silent_s τ v) := h.kf Kf.rf rfl rfl
theorem op_run (hF : 1000000000000 ≤ F) (hC : Core σ τ) (h17 : G17 σ) (hr : cs_run σ = 0) (hs : ms_silent τ = 0) (hX : TxC σ τ) : ∃ (r : Int32) (σ' : CSt) (τ' : MS), fc_X9_run F σ = some (r, σ') ∧ fm_run F τ = some (r, τ') ∧ Core σ' τ' ∧ G17 σ' ∧ cs_run σ' = 0 ∧ ms_silent τ' = 0 ∧ TxC σ' τ' ∧ gsb σ' = gsb σ ∧ ms_out τ' = ms_out τ ∧ ms_outMany τ' = ms_outMany τ ∧ GhR σ σ' 300 13500 := by
  obtain ⟨T, n, hS, hT, hB⟩ := hX
  have hn := hS.2.1
  obtain ⟨σ1, τ1, x, f1, f2, f3, f4, f5⟩ := flt (F := F) (by omega) hS hT hB
  have cr1 : cs_run σ1 = 0 := by
    have e9 : cs_run σ1 = cs_run σ := congrArg (fun q : CT_hi => q.2.2) f1.2.2.1
    rw [e9, hr]
  have si1 : ms_silent τ1 = 0 := f2.2.2.2.2.2.2.trans hs
  have hC1 : Core σ1 τ1 := f1.core hC f2.1 f2.2.1
  have gh1 : ggh σ1 = ggh σ := f1.2.2.2.2.2.1
  have sb1 : gsb σ1 = gsb σ := f1.2.2.2.2.1
  unfold fc_X9_run fm_run
  rw [f3, f4, bd2_s, bd2_s]
  rcases f5 with ⟨g1, f, g2, g3, g4⟩ | ⟨g1, g2, g3⟩
  · have z1 : ¬ cs_tf σ1 = -1000 := by rw [g3, show (-1000 : Int32) = I (-1000) from rfl, I_eq] <;> omega
    rw [if_neg z1, if_pos g1]
    exact ⟨-1003, σ1, τ1, rfl, rfl, hC1, f1.g17 h17, cr1, si1, ⟨T, n, f1.tx hS, f2.tx hT, hB⟩, sb1, f2.2.2.2.2.1, f2.2.2.2.2.2.1, (GhR.eq gh1).w (by omega) (by omega)⟩
  · rw [if_pos g2, if_neg (show ¬ ms_fine τ1 = 0 by rw [g1]; decide)]
    obtain ⟨σ2, τ2, r1, r2, hC2, kp2, km2, gh2, cv2, -⟩ := rem_ok (F := F) (by omega) hC1 (Or.inl ⟨cr1, si1⟩)
    rw [r1, r2, bd_s, bd_s, lt_r, lt_r]
    have hC3 : Core (cs_run_s σ2 1) (ms_silent_s τ2 1) := core_sil (core_run hC2 1) 1
    have hS3 : TxS (cs_run_s σ2 1) T n := kp2.tx (f1.tx hS)
    have hT3 : TxM (ms_silent_s τ2 1) T n := km2.tx (f2.tx hT)
    have h173 : G17 (cs_run_s σ2 1) := kp2.2.2.2 (f1.g17 h17)
    have K4 : KtX (cs_run_s σ2 1) (cs_tf_s (cs_te_s (cs_tc_s (cs_run_s σ2 1) 0) 0) (-1000)) := ((KtX_tc _).tr (KtX_te _)).tr (KtX_tf _)
    have R4 : Kr (ms_silent_s τ2 1) (ms_fine_s (ms_at_s (ms_silent_s τ2 1) 0) 1) := (Kr_at _).tr (Kr_fine _)
    have cr4 : cs_run (cs_tf_s (cs_te_s (cs_tc_s (cs_run_s σ2 1) 0) 0) (-1000)) = 1 := by
      have e9 : cs_run (cs_tf_s (cs_te_s (cs_tc_s (cs_run_s σ2 1) 0) 0) (-1000)) = cs_run (cs_run_s σ2 1) := congrArg (fun q : CT_hi => q.2.2) K4.2.2.1
      exact e9.trans rfl
    have hC4 := K4.core hC3 R4.1 R4.2.1
    have st4 := stl_10 hC4
    obtain ⟨r, σ5, τ5, a, j1, j2, ⟨j3, j4, j5, j6', j7, j8, j9, j10⟩, j11⟩ := runs (F := F) (T := T) (n := n) hF hB 121 0 0 F F 0 _ _ 0 g3 (by omega) (by omega) (by omega) (by omega) (K4.tx hS3) rfl rfl (R4.tx hT3) rfl hC4 cr4 (R4.2.2.2.2.2.2.trans rfl) (K4.g17 h173) (by omega)
    have e1 : fc_X2_rewind F (cs_run_s σ2 1) = some (cs_tf_s (cs_te_s (cs_tc_s (cs_run_s σ2 1) 0) 0) (-1000)) := rfl
    have e2 : fm_commands F (ms_silent_s τ2 1) 1 = some (r, τ5) := j2
    rw [e1, bd_s, e2, bd2_s, lt_r]
    refine ⟨r, cs_run_s σ5 0, ms_silent_s τ5 0, j1, rfl, core_sil (core_run j3 0) 0, j4, rfl, rfl, ⟨T, n, j5, j6', hB⟩, ?_, ?_, ?_, ?_⟩
    · have e3 : gsb (cs_run_s σ5 0) = gsb σ5 := rfl
      have e4 : gsb (cs_run_s σ2 1) = gsb σ2 := rfl
      exact e3.trans (j7.trans (K4.2.2.2.2.1.trans (e4.trans (kp2.2.1.trans sb1))))
    · have e3 : ms_out (ms_silent_s τ5 0) = ms_out τ5 := rfl
      have e4 : ms_out (ms_silent_s τ2 1) = ms_out τ2 := rfl
      exact e3.trans (j8.trans (R4.2.2.2.2.1.trans (e4.trans (km2.2.2.2.2.2.1.trans f2.2.2.2.2.1))))
    · have e3 : ms_outMany (ms_silent_s τ5 0) = ms_outMany τ5 := rfl
      have e4 : ms_outMany (ms_silent_s τ2 1) = ms_outMany τ2 := rfl
      exact e3.trans (j9.trans (R4.2.2.2.2.2.1.trans (e4.trans (km2.2.2.2.2.2.2.1.trans f2.2.2.2.2.2.1))))
    · have e3 : ggh (cs_run_s σ5 0) = ggh σ5 := rfl
      have e4 : ggh (cs_run_s σ2 1) = ggh σ2 := rfl
      have e5 := (GhR.eq (K4.2.2.2.2.2.1.trans (e4.trans (gh2.trans gh1)))).tr (j10.tr (GhR.eq e3))
      exact e5.w (by omega) (by omega)
end U7
