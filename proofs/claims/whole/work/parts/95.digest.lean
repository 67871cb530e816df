/-! digest -/
def hsh (f : Nat → Int32) (h : Int64) : Nat → Int64
  | 0 => h
  | k + 1 => (31 : Int64) * hsh f h k + (f k).toInt64
theorem hsh_cg {f g : Nat → Int32} {h : Int64} : ∀ n, (∀ k, k < n → f k = g k) → hsh f h n = hsh g h n
  | 0, _ => rfl
  | n + 1, q => by
    show (31 : Int64) * hsh f h n + (f n).toInt64 = (31 : Int64) * hsh g h n + (g n).toInt64
    rw [hsh_cg n (fun k hk => q k (by omega)), q n (by omega)]
section D5
variable {F : Nat} {σ : CSt} {τ : MS}
theorem hS_h {h g : Int64} : ms_h_s (ms_h_s τ h) g = ms_h_s τ g := rfl
theorem sm_note (h v : Int64) : fm_note F (ms_h_s τ h) v = some (ms_h_s τ ((31 : Int64) * h + v)) := by
  unfold fm_note
  rw [lt_r, hS_h]
  rfl
def rcN : Option RV → Nat
  | none => 7
  | some v => 9 + 2 * v.2.1
/-- the hash over the connectors -/
def hcn (f : Nat → Int32) (R : Nat → Option RV) (h : Int64) : Nat → Int64
  | 0 => h
  | c + 1 => hsh (fun k => f (35 + 169 * c + k)) (hcn f R h c) (rcN (R c))
theorem op_digest (hF : 2000 ≤ F) (hC : Core σ τ) : ∃ (r : Int64) (τ' : MS), fc_X9_digest F σ = some r ∧ fm_digest F τ = some (r, τ') ∧ Core σ τ' ∧ Km τ τ' := by
  obtain ⟨nb, nl, h1, h2, h3, h4, h5, h6, hP, hV⟩ := hC.num
  have hE := hP.2.2.2.2.2.1
  have hQ := hP.2.2.2.2.2.2.1
  have e5 : ms_row τ 2 = cs_cp σ := hP.2.2.2.2.1
  generalize hh0 : (31 : Int64) * 19 + (I nb).toInt64 = h0
  generalize hh1 : (31 : Int64) * ((31 : Int64) * hsh (fun k => ms_row τ (3 + k)) h0 (4 * nb) + (cs_cp σ).toInt64) + (I nl).toInt64 = g1
  have rowh : ∀ h, ms_row (ms_h_s τ h) = ms_row τ := fun _ => rfl
  refine ⟨hcn (ms_row τ) (cs_cr σ) g1 nl, ms_h_s τ (hcn (ms_row τ) (cs_cr σ) g1 nl), ?_, ?_, hC.kf Kf.rf rfl rfl, ⟨rfl, rfl, rfl, rfl, rfl, rfl, rfl, rfl⟩⟩
  · have e0 : (589 : Int64) + (cs_cb σ).toInt64 = h0 := by rw [← hh0, h3]; rfl
    unfold fc_X9_digest
    rw [lt_r, e0]
    refine lp_r (fun i => (hsh (fun k => ms_row τ (3 + k)) h0 (4 * i), I i)) _ nb rfl (by omega) (fun i rec hi => ?_) (fun rec => ?_)
    · have z1 : ¬ I nb ≤ I i := by rw [I_le] <;> omega
      simp only [fc_X9_digest_L15_c, h3, z1, if_false]
      refine lp_r (fun w => (hsh (fun k => ms_row τ (3 + k)) h0 (4 * i + w), I i, I w)) _ 4 rfl (by omega) (fun w rec2 hw => ?_) (fun rec2 => ?_)
      · have z2 : ¬ (4 : Int32) ≤ I w := by rw [I_4, I_le] <;> omega
        have ed := sc_edge (F := F) (σ := σ) i w (by omega) hw
        rw [← hE (4 * i + w) (by omega)] at ed
        simp only [fc_X9_digest_L29_c, z2, if_false, ed, bd_s, lt_r, I_S]
        rfl
      · have z2 : (4 : Int32) ≤ I ((4 : Nat) : Int) := by decide
        simp only [fc_X9_digest_L29_c, z2, if_true, lt_r, I_S]
        rfl
    · simp only [fc_X9_digest_L15_c, h3, i_rf, if_true, lt_r, h4, hh1]
      refine lp_r (fun c => (hcn (ms_row τ) (cs_cr σ) g1 c, I c)) _ nl rfl (by omega) (fun c rec2 hc => ?_) (fun rec2 => ?_)
      · have z1 : ¬ I nl ≤ I c := by rw [I_le] <;> omega
        simp only [fc_X9_digest_L97_c, h4, z1, if_false]
        generalize hH : hcn (ms_row τ) (cs_cr σ) g1 c = H
        show fc_X9_digest_L111 F σ (fun a b => rec2 (a, b)) F H (I c) 0 = rec2 (hsh (fun k => ms_row τ (35 + 169 * c + k)) (hcn (ms_row τ) (cs_cr σ) g1 c) (rcN (cs_cr σ c)), I ((c + 1 : Nat) : Int))
        rw [hH]
        refine lp_r (fun w => (hsh (fun k => ms_row τ (35 + 169 * c + k)) H w, I c, I w)) _ 6 rfl (by omega) (fun w rec3 hw => ?_) (fun rec3 => ?_)
        · have z2 : ¬ (6 : Int32) ≤ I w := by rw [I_6, I_le] <;> omega
          have ed := sc_detail (F := F) (σ := σ) c w (by omega) hw
          rw [← hQ c (by omega) w hw] at ed
          simp only [fc_X9_digest_L111_c, z2, if_false, ed, bd_s, lt_r, I_S]
          rfl
        · have z2 : (6 : Int32) ≤ I ((6 : Nat) : Int) := by decide
          have n6 : ((c : Nat) : Int).toNat = c := by omega
          have hRt := hP.2.2.2.2.2.2.2 c hc
          simp (disch := omega) only [fc_X9_digest_L111_c, z2, if_true, I_ix, gd_T, I_cl, n6, fc_X9_digest_L178, lt_r, I_S]
          cases hq : cs_cr σ c with
          | none =>
            rw [hq] at hRt
            have r6 : ms_row τ (35 + 169 * c + 6) = 0 := hRt
            rw [mo_N]
            have : hsh (fun k => ms_row τ (35 + 169 * c + k)) H (rcN none) = (31 : Int64) * hsh (fun k => ms_row τ (35 + 169 * c + k)) H 6 := by
              show (31 : Int64) * hsh (fun k => ms_row τ (35 + 169 * c + k)) H 6 + (ms_row τ (35 + 169 * c + 6)).toInt64 = _
              rw [r6]
              exact Int64.add_zero _
            rw [this]
          | some v =>
            rw [hq] at hRt
            obtain ⟨r6, r7, r80, r8, rk⟩ := hRt
            have v66 := (hV.2.2.2.2 c hc v hq).2.1
            have r6' : ms_row τ (35 + 169 * c + 6) = 1 := r6
            have r7' : ms_row τ (35 + 169 * c + 7) = v.1 := r7
            have r8' : ms_row τ (35 + 169 * c + 8) = I v.2.1 := r8
            have e7 : (31 : Int64) * hsh (fun k => ms_row τ (35 + 169 * c + k)) H 6 + 1 = hsh (fun k => ms_row τ (35 + 169 * c + k)) H 7 := by
              show _ = (31 : Int64) * hsh (fun k => ms_row τ (35 + 169 * c + k)) H 6 + (ms_row τ (35 + 169 * c + 6)).toInt64
              rw [r6']
              rfl
            have e8 : (31 : Int64) * hsh (fun k => ms_row τ (35 + 169 * c + k)) H 7 + v.1.toInt64 = hsh (fun k => ms_row τ (35 + 169 * c + k)) H 8 := by
              show _ = (31 : Int64) * hsh (fun k => ms_row τ (35 + 169 * c + k)) H 7 + (ms_row τ (35 + 169 * c + 7)).toInt64
              rw [r7']
            have e9 : (31 : Int64) * hsh (fun k => ms_row τ (35 + 169 * c + k)) H 8 + (I v.2.1).toInt64 = hsh (fun k => ms_row τ (35 + 169 * c + k)) H 9 := by
              show _ = (31 : Int64) * hsh (fun k => ms_row τ (35 + 169 * c + k)) H 8 + (ms_row τ (35 + 169 * c + 8)).toInt64
              rw [r8']
            have ho : fc_X6_hashOnto F σ v ((31 : Int64) * hsh (fun k => ms_row τ (35 + 169 * c + k)) H 6 + 1) = some (hsh (fun k => ms_row τ (35 + 169 * c + k)) H (9 + 2 * v.2.1)) := by
              unfold fc_X6_hashOnto fc_X6_corners
              rw [e7, lt_r, e8, bd_s, I_nat, lt_r, e9]
              refine lp_r (fun k => (v, hsh (fun k => ms_row τ (35 + 169 * c + k)) H (9 + 2 * k), I k)) _ v.2.1 rfl (by omega) (fun k rec4 hk => ?_) (fun rec4 => ?_)
              · have z3 : ¬ I v.2.1 ≤ I k := by rw [I_le] <;> omega
                have n7 : ((k : Nat) : Int).toNat = k := by omega
                obtain ⟨x1, y1⟩ := rk k hk
                have x1' : v.2.2.1 k = ms_row τ (35 + 169 * c + (9 + 2 * k)) := x1.symm
                have y1' : v.2.2.2 k = ms_row τ (35 + 169 * c + (10 + 2 * k)) := y1.symm
                simp (disch := omega) only [fc_X6_hashOnto_L27_c, fc_X6_corners, bd_s, I_nat, z3, if_false, I_ix, gd_T, I_cl, n7, lt_r, I_S, x1', y1']
                refine congrArg (fun z => rec4 (v, z, I ((k + 1 : Nat) : Int))) ?_
                rw [show 9 + 2 * (k + 1) = 9 + 2 * k + 1 + 1 by omega]
                show (31 : Int64) * ((31 : Int64) * _ + _) + _ = (31 : Int64) * ((31 : Int64) * hsh _ H (9 + 2 * k) + (ms_row τ (35 + 169 * c + (9 + 2 * k))).toInt64) + (ms_row τ (35 + 169 * c + (9 + 2 * k + 1))).toInt64
                rw [show 9 + 2 * k + 1 = 10 + 2 * k by omega]
              · simp only [fc_X6_hashOnto_L27_c, fc_X6_corners, bd_s, I_nat, i_rf, if_true]
            rw [mo_S, ho, bd_s]
            rfl
      · simp only [fc_X9_digest_L97_c, h4, i_rf, if_true]
  · unfold fm_digest
    have r0 : ∀ h, ms_row (ms_h_s τ h) 0 = I nb := fun _ => h5
    have r1 : ∀ h, ms_row (ms_h_s τ h) 1 = I nl := fun _ => h6
    have r2 : ∀ h, ms_row (ms_h_s τ h) 2 = cs_cp σ := fun _ => e5
    rw [lt_r, gd_t (of_eq_true (ixz (n := 8625) (by decide))), cN0, r0, sm_note, bd_s, hh0]
    refine lp_r (fun k => (ms_h_s τ (hsh (fun k => ms_row τ (3 + k)) h0 k), I k)) _ (4 * nb) rfl (by omega) (fun k rec hk => ?_) (fun rec => ?_)
    · have z0 : (4 : Int32) * I nb = I ((4 * nb : Nat) : Int) := by rw [I_4, I_mul]; exact congrArg I (by omega)
      have z1 : ¬ I ((4 * nb : Nat) : Int) ≤ I k := by rw [I_le] <;> omega
      have z3 : (3 : Int32) + I k = I ((3 + k : Nat) : Int) := by rw [I_3, I_add]; exact congrArg I (by omega)
      have n7 : ((3 + k : Nat) : Int).toNat = 3 + k := by omega
      simp (disch := omega) only [fm_digest_L20_c, ixz (n := 8625) (by decide), gd_T, cN0, r0, z0, z1, if_false, z3, I_ix, I_cl, n7, rowh, sm_note, bd_s, lt_r, I_S]
      rfl
    · have z0 : (4 : Int32) * I nb = I ((4 * nb : Nat) : Int) := by rw [I_4, I_mul]; exact congrArg I (by omega)
      simp only [fm_digest_L20_c, ixz (n := 8625) (by decide), ix1_ (n := 8625) (by decide), ix28, gd_T, cN0, cN1, cN2, r0, r1, r2, z0, i_rf, if_true, sm_note, bd_s, hh1]
      refine lp_r (fun c => (ms_h_s τ (hcn (ms_row τ) (cs_cr σ) g1 c), I c)) _ nl rfl (by omega) (fun c rec2 hc => ?_) (fun rec2 => ?_)
      · have z1 : ¬ I nl ≤ I c := by rw [I_le] <;> omega
        simp only [fm_digest_L75_c, ix1_ (n := 8625) (by decide), gd_T, cN1, r1, z1, if_false]
        generalize hH : hcn (ms_row τ) (cs_cr σ) g1 c = H
        show fm_digest_L87 F (fun a b => rec2 (a, b)) F (ms_h_s τ H) (I c) 0 = rec2 (ms_h_s τ (hsh (fun k => ms_row τ (35 + 169 * c + k)) (hcn (ms_row τ) (cs_cr σ) g1 c) (rcN (cs_cr σ c))), I ((c + 1 : Nat) : Int))
        rw [hH]
        have of_ : ∀ (h : Int64) (k : Nat), k < 169 → fm_of F (ms_h_s τ h) (I c) (I k) = some (ms_row τ (35 + 169 * c + k)) := fun h k hk => sm_of (F := F) (τ := ms_h_s τ h) c k (by omega) hk
        have hRt := hP.2.2.2.2.2.2.2 c hc
        have has : ∀ h, fm_hasRoute F (ms_h_s τ h) (I c) = some (b2 (cs_cr σ c).isSome) := fun h => sm_has (F := F) (τ := ms_h_s τ h) hP hc (fun v hv => (hV.2.2.2.2 c hc v hv).2.1)
        have of8 : ∀ h, fm_of F (ms_h_s τ h) (I c) 8 = some (ms_row τ (35 + 169 * c + 8)) := fun h => of_ h 8 (by omega)
        refine lp_r (fun w => (ms_h_s τ (hsh (fun k => ms_row τ (35 + 169 * c + k)) H w), I c, I w)) _ 7 rfl (by omega) (fun w rec3 hw => ?_) (fun rec3 => ?_)
        · have z2 : ¬ (7 : Int32) ≤ I w := by rw [I_7, I_le] <;> omega
          simp only [fm_digest_L87_c, z2, if_false, of_ _ w (show w < 169 by omega), bd_s, sm_note, lt_r, I_S]
          rfl
        · have z2 : (7 : Int32) ≤ I ((7 : Nat) : Int) := by decide
          simp only [fm_digest_L87_c, z2, if_true]
          cases hq : cs_cr σ c with
          | none =>
            refine lp_r (fun _ => (ms_h_s τ (hsh (fun k => ms_row τ (35 + 169 * c + k)) H 7), I c, 7)) _ 0 rfl (by omega) (fun k rec hk => absurd hk (Nat.not_lt_zero _)) (fun rec4 => ?_)
            simp only [fm_digest_L113_c, fm_digest_L154, of8, bd_s, has, hq, lt_r, I_S, show b2 (none : Option RV).isSome = 0 from rfl, if_true]
            split <;> rfl
          | some v =>
            rw [hq] at hRt
            obtain ⟨-, -, -, r8, -⟩ := hRt
            have v66 := (hV.2.2.2.2 c hc v hq).2.1
            have r8' : ms_row τ (35 + 169 * c + 8) = I v.2.1 := r8
            have z9 : (9 : Int32) + 2 * I v.2.1 = I ((9 + 2 * v.2.1 : Nat) : Int) := by rw [I_9, I_2, I_mul, I_add]; exact congrArg I (by omega)
            refine lp_r (fun k => (ms_h_s τ (hsh (fun k => ms_row τ (35 + 169 * c + k)) H (7 + k)), I c, I ((7 + k : Nat) : Int))) _ (2 + 2 * v.2.1) rfl (by omega) (fun k rec4 hk => ?_) (fun rec4 => ?_)
            · have z3 : ¬ I ((9 + 2 * v.2.1 : Nat) : Int) ≤ I ((7 + k : Nat) : Int) := by rw [I_le] <;> omega
              have n1 : ¬ b2 (some v).isSome = 0 := show ¬ (1 : Int32) = 0 by decide
              simp only [fm_digest_L113_c, of8, bd_s, r8', z9, z3, if_false, has, hq, n1, of_ _ (7 + k) (show 7 + k < 169 by omega), sm_note, lt_r, I_S]
              rfl
            · have z3 : I ((9 + 2 * v.2.1 : Nat) : Int) ≤ I ((7 + (2 + 2 * v.2.1) : Nat) : Int) := by rw [I_le] <;> omega
              simp only [fm_digest_L113_c, fm_digest_L154, of8, bd_s, r8', z9, z3, if_true, lt_r, I_S]
              show rec2 (ms_h_s τ (hsh _ H (7 + (2 + 2 * v.2.1))), _) = rec2 (ms_h_s τ (hsh _ H (9 + 2 * v.2.1)), _)
              rw [show 7 + (2 + 2 * v.2.1) = 9 + 2 * v.2.1 by omega]
      · simp only [fm_digest_L75_c, ix1_ (n := 8625) (by decide), gd_T, cN1, r1, i_rf, if_true]
        rfl
end D5
