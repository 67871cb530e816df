/-! setPenalty, blocker, box, undo, moveBox -/
section S1
variable {F : Nat} {σ : CSt} {τ : MS}
theorem in_num {x : Int32} {a b : Int} (ha : -1000 ≤ a) (ha2 : a ≤ 1000) (hb2 : -1000 ≤ b) (hb : b ≤ 1000) (h : (decide (I a ≤ x) && decide (x ≤ I b)) = true) : x = I x.toInt ∧ a ≤ x.toInt ∧ x.toInt ≤ b := by
  simp only [Bool.and_eq_true, decide_eq_true_eq] at h
  obtain ⟨h1, h2⟩ := h
  rw [Int32.le_iff_toInt_le] at h1 h2
  rw [I_toInt (by omega) (by omega)] at h1
  rw [I_toInt (by omega) (by omega)] at h2
  exact ⟨(I_of x).symm, h1, h2⟩
theorem op_penalty (hF : 2000 ≤ F) (hC : Core σ τ) (hr : RunOk σ τ) (x : Int32) : ∃ (r : Int32) (σ' : CSt) (τ' : MS), fc_X9_setPenalty F σ x = some (r, σ') ∧ fm_setPenalty F τ x = some (r, τ') ∧ OpR σ σ' τ τ' := by
  unfold fc_X9_setPenalty fm_setPenalty
  rw [sc_isWithin, sm_in, bd_s, bd_s]
  cases hq : (decide (0 ≤ x) && decide (x ≤ 50)) with
  | false => exact ⟨-1002, σ, τ, by rw [if_pos (by decide)], by rw [if_pos (by decide)], OpR.rf hC⟩
  | true =>
    obtain ⟨σ1, τ1, c1, c2, ⟨⟨nb, nl, d1, d2, hP, hV⟩, hH⟩, k1, k2, k3, k4, k5⟩ := rem_ok hF hC hr
    have e5 : ms_row τ1 2 = cs_cp σ1 := hP.2.2.2.2.1
    refine ⟨cs_cp σ1, cs_cp_s σ1 x, ms_row_s τ1 (upd (ms_row τ1) 2 x), ?_, ?_, ⟨⟨nb, nl, d1, d2, ?_, ?_⟩, ?_⟩, k1.tr ⟨rfl, rfl, rfl, fun h => h⟩, k2.tr ⟨rfl, rfl, rfl, rfl, rfl, rfl, rfl, rfl⟩, k3⟩
    · rw [if_neg (by decide), c1, bd_s, lt_r, lt_r]
    · rw [if_neg (by decide), c2, bd_s, gd_t (of_eq_true ix28), lt_r, cN2, e5, gd_t (of_eq_true ix28), lt_r]
      rfl
    · obtain ⟨p1, p2, p3, p4, p5, p6, p7, p8⟩ := hP
      refine ⟨p1, p2, p3, p4, rfl, fun j hj => ?_, fun c hc j hj => ?_, fun c hc => (p8 c hc).cg fun j hj => ?_⟩
      · exact (if_neg (by omega)).trans (p6 j hj)
      · exact (if_neg (by omega)).trans (p7 c hc j hj)
      · exact if_neg (by omega)
    · obtain ⟨v1, v2, v3, v4, v5⟩ := hV
      simp only [Bool.and_eq_true, decide_eq_true_eq] at hq
      exact ⟨hq, v2, v3, v4, v5⟩
    · obtain ⟨h, o, a1, a2, a3, a4, a5, a6⟩ := hH
      exact ⟨h, o, a1, a2, a3, a4, a5, fun i hi => Canv.cg (a6 i hi) (fun j hj => if_neg (by omega)) rfl rfl rfl (fun _ _ => rfl) (fun _ _ => rfl) (fun _ _ => rfl)⟩
theorem op_blocker (hF : 2000 ≤ F) (hC : Core σ τ) (x y : Int32) : ∃ r : Int32, fc_X9_blocker F σ x y = some r ∧ fm_blocker F τ x y = some r := by
  obtain ⟨nb, nl, h1, h2, h3, h4, h5, h6, hP, hV⟩ := hC.num
  unfold fc_X9_blocker fm_blocker fc_X9_blocker_L20 fm_blocker_L29 fm_blocker_L32 fc_X9_blocker_L48
  rw [sc_isWithin, sm_in, bd_s, bd_s]
  cases hq : (decide (0 ≤ x) && decide (x ≤ 99)) with
  | false => exact ⟨-1002, by rw [if_pos (by decide)], by rw [if_pos (by decide)]⟩
  | true =>
    rw [if_neg (by decide), if_neg (by decide), sc_isWithin, sm_in, bd_s, bd_s]
    cases hq2 : (decide (0 ≤ y) && decide (y ≤ 99)) with
    | false => exact ⟨-1002, by rw [if_pos (by decide)], by rw [if_pos (by decide)]⟩
    | true =>
      obtain ⟨e1, e2, e3⟩ := in_num (a := 0) (b := 99) (by omega) (by omega) (by omega) (by omega) hq
      obtain ⟨e4, e5, e6⟩ := in_num (a := 0) (b := 99) (by omega) (by omega) (by omega) (by omega) hq2
      rw [if_neg (by decide), if_neg (by decide), e1, e4]
      generalize x.toInt = a at e2 e3
      generalize y.toInt = b at e5 e6
      have hB : ∀ k, k < nb → BxB (bxI (cs_ce σ)) k := fun k hk => (hV.2.1 k hk).bd
      rw [sc_first (F := F) (by omega) h3 h1 hB (by omega) (by omega) (by omega) (by omega), sm_blockerOf (F := F) (by omega) hP hB (by omega) (by omega), bd_s, bd_s]
      generalize blk (bxI (cs_ce σ)) a b a b = p
      have hle := fstN_le (p := p) (n := nb)
      unfold fbR
      by_cases c1 : fstN p nb < nb
      · rw [if_pos c1, if_pos c1, if_neg (I_nm1 (by omega))]
        exact ⟨_, rfl, rfl⟩
      · rw [if_neg c1, if_neg c1, if_pos rfl]
        exact ⟨_, rfl, rfl⟩
/-- a box's number -/
theorem bx_ok (h : Core σ τ) (x : Int32) : (fc_X1_hasBox F σ x = some 0 ∧ fm_isBox F τ x = some 0) ∨ ∃ nb k : Nat, nb ≤ 8 ∧ k < nb ∧ cs_cb σ = I nb ∧ x = I k ∧ fc_X1_hasBox F σ x = some 1 ∧ fm_isBox F τ x = some 1 := by
  obtain ⟨nb, nl, h1, h2, h3, h4, h5, h6, hP, -⟩ := h.num
  have a1 := sc_hasBox (F := F) h3 x
  have a2 := sm_isBox (F := F) hP x
  cases hq : (decide (0 ≤ x) && decide (x < I nb)) with
  | false =>
    rw [hq] at a1 a2
    exact Or.inl ⟨a1, a2⟩
  | true =>
    rw [hq] at a1 a2
    simp only [Bool.and_eq_true, decide_eq_true_eq] at hq
    obtain ⟨c, q1, q2⟩ := I_num (by omega) hq.1 hq.2
    exact Or.inr ⟨nb, c, h1, q1, h3, q2, a1, a2⟩
theorem op_box (hF : 2000 ≤ F) (hC : Core σ τ) (x y : Int32) : ∃ r : Int32, fc_X9_box F σ x y = some r ∧ fm_box F τ x y = some r := by
  rcases bx_ok (F := F) hC x with ⟨a1, a2⟩ | ⟨nb, k, h1, h2, h3, rfl, a1, a2⟩
  · unfold fc_X9_box fm_box
    rw [a1, a2, bd_s, bd_s]
    exact ⟨-1001, by rw [if_pos rfl], by rw [if_pos rfl]⟩
  · obtain ⟨nb', nl, -, g2, -, g4, -, g6, hP, hV⟩ := hC.num
    unfold fc_X9_box fm_box fc_X9_box_L53
    rw [a1, a2, bd_s, bd_s, if_neg (show ¬ (1 : Int32) = 0 by decide), if_neg (show ¬ (1 : Int32) = 0 by decide), sc_isWithin, sm_in, bd_s, bd_s]
    cases hq : (decide (0 ≤ y) && decide (y ≤ 4)) with
    | false => exact ⟨-1002, by rw [if_pos (show b2 false = 0 by decide)], by rw [if_pos (show b2 false = 0 by decide)]⟩
    | true =>
      obtain ⟨e1, e2, e3⟩ := in_num (a := 0) (b := 4) (by omega) (by omega) (by omega) (by omega) hq
      obtain ⟨j, hj⟩ : ∃ j : Nat, y.toInt = j := ⟨y.toInt.toNat, by omega⟩
      rw [hj] at e1 e2 e3
      subst e1
      rw [if_neg (show ¬ b2 true = 0 by decide), if_neg (show ¬ b2 true = 0 by decide)]
      by_cases c4 : j < 4
      · have z1 : ¬ (4 : Int32) ≤ I j := by rw [I_4, I_le] <;> omega
        rw [if_neg z1, if_neg z1, sc_edge k j (by omega) c4, sm_side hP k j (by omega) c4]
        exact ⟨_, rfl, rfl⟩
      · have z1 : (4 : Int32) ≤ I j := by rw [I_4, I_le] <;> omega
        rw [if_pos z1, if_pos z1]
        generalize hf : (fun c => if cs_cq σ (6 * c) = I k ∨ cs_cq σ (6 * c + 3) = I k then (1 : Int32) else 0) = f
        refine ⟨sumN f nl, ?_, ?_⟩
        · have : fc_X1_connectorsAt F σ (I k) = some (sumN f nl) := by
            refine lp_r (fun c => (I k, sumN f c, I c)) _ nl rfl (by omega) (fun c rec hc => ?_) (fun rec => ?_)
            · have z2 : ¬ I nl ≤ I c := by rw [I_le] <;> omega
              have d0 : fc_X1_portDetail F σ (I c) 0 = _ := sc_detail (F := F) (σ := σ) c 0 (by omega) (by omega)
              have d3 : fc_X1_portDetail F σ (I c) 3 = _ := sc_detail (F := F) (σ := σ) c 3 (by omega) (by omega)
              simp only [fc_X1_connectorsAt_L4_c, fc_X1_connectorsAt_L32, fc_X1_connectorsAt_L35, g4, z2, if_false, d0, d3, bd_s, lt_r, I_S, Nat.add_zero]
              show _ = rec (I k, sumN f c + f c, I ((c + 1 : Nat) : Int))
              rw [← hf]
              by_cases q1 : cs_cq σ (6 * c) = I k
              · simp only [q1, true_or, if_true]
              · by_cases q2 : cs_cq σ (6 * c + 3) = I k
                · simp only [q1, q2, or_true, if_true, if_false]
                · simp only [q1, q2, or_self, if_false, Int32.add_zero]
            · have z2 : I nl ≤ I nl := by rw [I_le] <;> omega
              simp only [fc_X1_connectorsAt_L4_c, g4, z2, if_true]
          rw [this, bd_s]
        · refine lp_r (fun c => (I k, sumN f c, I c)) _ nl rfl (by omega) (fun c rec hc => ?_) (fun rec => ?_)
          · have z2 : ¬ I nl ≤ I c := by rw [I_le] <;> omega
            have d0 : fm_of F τ (I c) 0 = _ := (sm_of (F := F) (τ := τ) c 0 (by omega) (by omega)).trans (congrArg some (hP.2.2.2.2.2.2.1 c (by omega) 0 (by omega)))
            have d3 : fm_of F τ (I c) 3 = _ := (sm_of (F := F) (τ := τ) c 3 (by omega) (by omega)).trans (congrArg some (hP.2.2.2.2.2.2.1 c (by omega) 3 (by omega)))
            simp only [fm_box_L42_c, fm_box_L76, fm_box_L81, ix1_ (n := 8625) (by decide), gd_T, cN1, g6, z2, if_false, d0, d3, bd_s, lt_r, I_S, Nat.add_zero]
            show _ = rec (I k, sumN f c + f c, I ((c + 1 : Nat) : Int))
            rw [← hf]
            by_cases q1 : cs_cq σ (6 * c) = I k
            · simp only [q1, true_or, if_true]
            · by_cases q2 : cs_cq σ (6 * c + 3) = I k
              · simp only [q1, q2, or_true, if_true, if_false]
              · simp only [q1, q2, or_self, if_false]
          · have z2 : I nl ≤ I nl := by rw [I_le] <;> omega
            simp only [fm_box_L42_c, ix1_ (n := 8625) (by decide), gd_T, cN1, g6, z2, if_true]
theorem op_undo (hF : 2000 ≤ F) (hC : Core σ τ) : ∃ (r : Int32) (σ' : CSt) (τ' : MS), fc_X9_undo F σ = some (r, σ') ∧ fm_undo F τ = some (r, τ') ∧ OpR σ σ' τ τ' := by
  obtain ⟨hCur, h, o, a1, a2, a3, a4, a5, a6⟩ := id hC
  unfold fc_X9_undo fm_undo
  cases h with
  | zero =>
    refine ⟨-1003, σ, τ, ?_, ?_, OpR.rf hC⟩
    · rw [if_pos (show cs_hs σ = 0 from a3)]
    · rw [if_pos (show ms_kept τ = 0 from a5)]
  | succ h =>
    have z1 : ¬ cs_hs σ = 0 := by rw [a3, I_0, I_eq] <;> omega
    have z2 : ¬ ms_kept τ = 0 := by rw [a5, I_0, I_eq] <;> omega
    have r1 := sc_restore hF σ h o (by omega) a2 a3 a4
    have e1 : (1725 : Int32) * ms_kept τ = I ((1725 * (h + 1) : Nat) : Int) := by
      rw [a5, I_1725, I_mul]
      exact congrArg I (by omega)
    have r2 := sm_copies hF τ (1725 * (h + 1)) 0 (by omega) (by omega) (by omega)
    have r2' : fm_copies F τ (I ((1725 * (h + 1) : Nat) : Int)) 0 = _ := r2
    have e2 : ms_kept τ - 1 = I h := by
      rw [a5, I_1, I_sub]
      exact congrArg I (by omega)
    refine ⟨I h, kcpM (cs_hs_s σ (I h)) ((o + h) % 4), ms_kept_s (ms_row_s τ (cpf (ms_row τ) (1725 * (h + 1)) 0 1725)) (I h), ?_, ?_, ⟨?_, h, o, by omega, a2, rfl, a4, rfl, fun i hi => ?_⟩, ⟨rfl, rfl, rfl, fun h => h⟩, ⟨rfl, rfl, rfl, rfl, rfl, rfl, rfl, rfl⟩, rfl⟩
    · rw [if_neg z1, r1, bd_s]
      rfl
    · rw [if_neg z2, e1, r2', bd_s, lt_r, zm_kept_row, e2, zm_kept_kept]
    · refine Canv.cg (a6 h (by omega)) (fun j hj => ?_) rfl rfl rfl (fun j hj => cpy0 _ _ hj) (fun j hj => cpy0 _ _ hj) (fun c hc => if_pos hc)
      show cpf (ms_row τ) (1725 * (h + 1)) 0 1725 j = _
      unfold cpf
      rw [if_pos (by omega)]
      exact congrArg _ (by omega)
    · refine Canv.cg (a6 i (by omega)) (fun j hj => ?_) rfl rfl rfl (fun _ _ => rfl) (fun _ _ => rfl) (fun _ _ => rfl)
      show cpf (ms_row τ) (1725 * (h + 1)) 0 1725 (1725 * (i + 1) + j) = _
      unfold cpf
      rw [if_neg (by omega)]
end S1
