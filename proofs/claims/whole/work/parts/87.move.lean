/-! moveBox; counts of touched ones -/
theorem sum_I {p : Nat → Bool} : ∀ n, sumN (fun c => b2 (p c)) n = I (cntN p n)
  | 0 => rfl
  | n + 1 => by
    show sumN (fun c => b2 (p c)) n + b2 (p n) = I ((cntN p n + (if p n = true then 1 else 0) : Nat) : Int)
    rw [sum_I n]
    cases p n with
    | false => exact (Int32.add_zero _)
    | true => exact I_S _
theorem cnt_sub {p q : Nat → Bool} : ∀ {n : Nat}, (∀ i, i < n → q i = true → p i = true) → cntN p n = cntN q n + cntN (fun c => !q c && p c) n
  | 0, _ => rfl
  | n + 1, h => by
    have ih := cnt_sub (p := p) (q := q) (n := n) (fun i hi => h i (by omega))
    have h1 := h n (by omega)
    show cntN p n + (if p n = true then 1 else 0) = cntN q n + (if q n = true then 1 else 0) + (cntN (fun c => !q c && p c) n + (if (!q n && p n) = true then 1 else 0))
    cases hq : q n with
    | false => simp; omega
    | true => rw [h1 hq]; simp; omega
/-- what is told of touched connectors, both sides -/
theorem tn_ok {F : Nat} (hF : 1000 ≤ F) {σ : CSt} {τ : MS} {nl : Nat} (hC : Core σ τ) (hcc : cs_cc σ = I nl) (hnl : nl ≤ 10) : ∃ T : Nat → Bool, (∀ c, c < nl → fc_X1_isTouched F σ (I c) = some (b2 (T c)) ∧ fm_isTouched F τ (I c) = some (b2 (T c)) ∧ (cs_cr σ c = none → T c = true)) ∧ fc_X1_touchedConnectors F σ = some (I (cntN T nl)) ∧ fc_X1_connectorsWithoutRoute F σ = some (I (cntN (fun c => (cs_cr σ c).isNone) nl)) := by
  obtain ⟨nb, q1, q2, -, q3, hP, hV⟩ := hC.num2 hcc hnl
  have hex : ∀ c, ∃ t : Bool, c < nl → fc_X1_isTouched F σ (I c) = some (b2 t) ∧ fm_isTouched F τ (I c) = some (b2 t) ∧ (cs_cr σ c = none → t = true) := fun c => by
    by_cases hc : c < nl
    · obtain ⟨t, t1⟩ := tch_ok (F := F) hF hP hV q2 hc
      exact ⟨t, fun _ => t1⟩
    · exact ⟨true, fun q => absurd q hc⟩
  obtain ⟨T, hT⟩ := Classical.axiomOfChoice hex
  refine ⟨T, hT, ?_, ?_⟩
  · rw [← sum_I]
    refine lp_r (fun c => (sumN (fun c => b2 (T c)) c, I c)) _ nl rfl (by omega) (fun c rec hc => ?_) (fun rec => ?_)
    · have z2 : ¬ I nl ≤ I c := by rw [I_le] <;> omega
      simp only [fc_X1_touchedConnectors_L4_c, fc_X1_touchedConnectors_L23, hcc, z2, if_false, (hT c hc).1, bd_s, lt_r, I_S]
      show _ = rec (sumN (fun c => b2 (T c)) c + b2 (T c), I ((c + 1 : Nat) : Int))
      cases T c with
      | false => rw [if_pos (by decide), show b2 false = 0 from rfl, Int32.add_zero]
      | true => rw [if_neg (by decide)]; rfl
    · have z2 : I nl ≤ I nl := by rw [I_le] <;> omega
      simp only [fc_X1_touchedConnectors_L4_c, hcc, z2, if_true]
  · rw [← sum_I]
    refine lp_r (fun c => (sumN (fun c => b2 (cs_cr σ c).isNone) c, I c)) _ nl rfl (by omega) (fun c rec hc => ?_) (fun rec => ?_)
    · have z2 : ¬ I nl ≤ I c := by rw [I_le] <;> omega
      have n6 : ((c : Nat) : Int).toNat = c := by omega
      simp (disch := omega) only [fc_X1_connectorsWithoutRoute_L4_c, fc_X1_connectorsWithoutRoute_L24, hcc, z2, if_false, I_ix, gd_T, I_cl, n6, lt_r, I_S]
      show _ = rec (sumN (fun c => b2 (cs_cr σ c).isNone) c + b2 (cs_cr σ c).isNone, I ((c + 1 : Nat) : Int))
      cases cs_cr σ c with
      | none => rfl
      | some v => rw [mo_S, show b2 (some v).isNone = 0 from rfl, Int32.add_zero]
    · have z2 : I nl ≤ I nl := by rw [I_le] <;> omega
      simp only [fc_X1_connectorsWithoutRoute_L4_c, hcc, z2, if_true]
theorem op_move {F : Nat} {σ : CSt} {τ : MS} (hF : 2000 ≤ F) (hC : Core σ τ) (hr : RunOk σ τ) (x dx dy : Int32) : ∃ (r : Int32) (σ' : CSt) (τ' : MS), fc_X9_moveBox F σ x dx dy = some (r, σ') ∧ fm_moveBox F τ x dx dy = some (r, τ') ∧ OpR σ σ' τ τ' := by
  rcases bx_ok (F := F) hC x with ⟨a1, a2⟩ | ⟨nb, k, h1, h2, h3, rfl, a1, a2⟩
  · refine ⟨-1001, σ, τ, ?_, ?_, OpR.rf hC⟩
    · unfold fc_X9_moveBox; rw [a1, bd_s, if_pos rfl]
    · unfold fm_moveBox; rw [a2, bd_s, if_pos rfl]
  · obtain ⟨nb', nl, -, g2, g3, g4, -, g6, hP, hV⟩ := hC.num
    have hnn : nb' = nb := by
      have := g3.symm.trans h3
      have q := hP.1
      rw [I_eq (by omega) (by omega) (by omega) (by omega)] at this
      omega
    subst hnn
    have uc : fc_X9_moveBox F σ (I k) dx dy = bd (fc_X9_isWithin F σ dx (-99) 99) (fun r20 => if r20 = 0 then (fc_X9_moveBox_L37 F σ) else (bd (fc_X9_isWithin F σ dy (-99) 99) (fun r31 => if r31 = 0 then (fc_X9_moveBox_L37 F σ) else (bd (fc_X1_isSound F σ (cs_ce σ (4 * k) + dx) (cs_ce σ (4 * k + 1) + dy) (cs_ce σ (4 * k + 2) + dx) (cs_ce σ (4 * k + 3) + dy)) (fun r101 => if r101 = 0 then (some (-1002, σ)) else (bd (fc_X1_isTooNear F σ (I k) (cs_ce σ (4 * k) + dx) (cs_ce σ (4 * k + 1) + dy) (cs_ce σ (4 * k + 2) + dx) (cs_ce σ (4 * k + 3) + dy)) (fun r124 => if r124 = 0 then (bd (fc_X9_remember F σ) (fun σ135 => bd (fc_X1_putBox F σ135 (I k) (cs_ce σ (4 * k) + dx) (cs_ce σ (4 * k + 1) + dy) (cs_ce σ (4 * k + 2) + dx) (cs_ce σ (4 * k + 3) + dy)) (fun σ151 => bd (fc_X1_touchedConnectors F σ151) (fun r158 => bd (fc_X1_connectorsWithoutRoute F σ151) (fun r165 => some ((r158 - r165), σ151)))))) else (some (-1003, σ))))))))) := by
      have s0 : fc_X1_edge F σ (I k) 0 = _ := sc_edge k 0 (by omega) (by omega)
      have s1 : fc_X1_edge F σ (I k) 1 = _ := sc_edge k 1 (by omega) (by omega)
      have s2 : fc_X1_edge F σ (I k) 2 = _ := sc_edge k 2 (by omega) (by omega)
      have s3 : fc_X1_edge F σ (I k) 3 = _ := sc_edge k 3 (by omega) (by omega)
      unfold fc_X9_moveBox
      rw [a1, bd_s, if_neg (show ¬ (1 : Int32) = 0 by decide), s0, s1, s2, s3]
      rfl
    have um : fm_moveBox F τ (I k) dx dy = bd (fm_in F dx (-99) 99) (fun r17 => if r17 = 0 then (fm_moveBox_L34 F τ) else (bd (fm_in F dy (-99) 99) (fun r28 => if r28 = 0 then (fm_moveBox_L34 F τ) else (bd (fm_isRange F (cs_ce σ (4 * k) + dx) (cs_ce σ (4 * k + 2) + dx)) (fun r82 => if r82 = 0 then (fm_moveBox_L98 F τ) else (bd (fm_isRange F (cs_ce σ (4 * k + 1) + dy) (cs_ce σ (4 * k + 3) + dy)) (fun r92 => if r92 = 0 then (fm_moveBox_L98 F τ) else (bd (fm_isNear F τ (cs_ce σ (4 * k) + dx) (cs_ce σ (4 * k + 1) + dy) (cs_ce σ (4 * k + 2) + dx) (cs_ce σ (4 * k + 3) + dy) (I k)) (fun r112 => if r112 = 0 then (bd (fm_records F τ) (fun σ123 => bd (fm_lays F σ123 (I k) (cs_ce σ (4 * k) + dx) (cs_ce σ (4 * k + 1) + dy) (cs_ce σ (4 * k + 2) + dx) (cs_ce σ (4 * k + 3) + dy)) (fun σ136 => fm_moveBox_L145 F F σ136 0 0))) else (some (-1003, τ))))))))))) := by
      have s0 : fm_side F τ (I k) 0 = _ := sm_side hP k 0 (by omega) (by omega)
      have s1 : fm_side F τ (I k) 1 = _ := sm_side hP k 1 (by omega) (by omega)
      have s2 : fm_side F τ (I k) 2 = _ := sm_side hP k 2 (by omega) (by omega)
      have s3 : fm_side F τ (I k) 3 = _ := sm_side hP k 3 (by omega) (by omega)
      unfold fm_moveBox
      rw [a2, bd_s, if_neg (show ¬ (1 : Int32) = 0 by decide), s0, s1, s2, s3]
      rfl
    rw [uc, um]
    have hV2 := hV
    obtain ⟨v1, v2, v3, v4, v5⟩ := hV2
    have hsz : ∀ a b d : Int32, (a + d) - (b + d) = a - b := fun a b d => by
      rw [← I_of a, ← I_of b, ← I_of d, I_add, I_add, I_sub, I_sub]
      exact congrArg I (by omega)
    have hX : cs_ce σ (4 * k + 2) + dx - (cs_ce σ (4 * k) + dx) = cs_ce σ (4 * k + 2) - cs_ce σ (4 * k) := hsz _ _ _
    have hY : cs_ce σ (4 * k + 3) + dy - (cs_ce σ (4 * k + 1) + dy) = cs_ce σ (4 * k + 3) - cs_ce σ (4 * k + 1) := hsz _ _ _
    generalize cs_ce σ (4 * k) + dx = x1 at hX ⊢
    generalize cs_ce σ (4 * k + 1) + dy = y1 at hY ⊢
    generalize cs_ce σ (4 * k + 2) + dx = x2 at hX ⊢
    generalize cs_ce σ (4 * k + 3) + dy = y2 at hY ⊢
    rw [sc_isWithin, sm_in, bd_s, bd_s]
    cases hq : (decide (-99 ≤ dx) && decide (dx ≤ 99)) with
    | false => exact ⟨-1002, σ, τ, by rw [if_pos (by decide)]; rfl, by rw [if_pos (by decide)]; rfl, OpR.rf hC⟩
    | true =>
      rw [if_neg (show ¬ b2 true = 0 by decide), if_neg (show ¬ b2 true = 0 by decide), sc_isWithin, sm_in, bd_s, bd_s]
      cases hq2 : (decide (-99 ≤ dy) && decide (dy ≤ 99)) with
      | false => exact ⟨-1002, σ, τ, by rw [if_pos (by decide)]; rfl, by rw [if_pos (by decide)]; rfl, OpR.rf hC⟩
      | true =>
        rw [if_neg (show ¬ b2 true = 0 by decide), if_neg (show ¬ b2 true = 0 by decide), sc_isSound, sm_isRange, bd_s, bd_s]
        cases hx : rgB x1 x2 with
        | false => exact ⟨-1002, σ, τ, by rw [Bool.false_and, if_pos (by decide)], by rw [if_pos (by decide)]; rfl, OpR.rf hC⟩
        | true =>
          rw [Bool.true_and, if_neg (show ¬ b2 true = 0 by decide), sm_isRange, bd_s]
          cases hy : rgB y1 y2 with
          | false => exact ⟨-1002, σ, τ, by rw [if_pos (by decide)], by rw [if_pos (by decide)]; rfl, OpR.rf hC⟩
          | true =>
            rw [if_neg (show ¬ b2 true = 0 by decide), if_neg (show ¬ b2 true = 0 by decide), sc_isTooNear (F := F) (by omega) h3 h1, sm_isNear (F := F) (by omega) hP, bd_s, bd_s]
            cases hn : anyN (nrB (cs_ce σ) x1 y1 x2 y2 (I k)) nb' with
            | true => exact ⟨-1003, σ, τ, by rw [if_neg (by decide)], by rw [if_neg (by decide)], OpR.rf hC⟩
            | false =>
              obtain ⟨σ1, τ1, c1, c2, ⟨⟨nbx, nlx, d1, d2, hP1, hV1⟩, hH1⟩, k1, k2, k3, k4, k5⟩ := rem_ok hF hC hr
              have eb : cs_cb σ1 = cs_cb σ := congrArg (fun q : CT_cv => q.1) k4
              have ec : cs_cc σ1 = cs_cc σ := congrArg (fun q : CT_cv => q.2.1) k4
              have ece : cs_ce σ1 = cs_ce σ := congrArg (fun q : CT_cv => q.2.2.2.1) k4
              have hnbx : nbx = nb' := by
                have := d1.symm.trans (eb.trans h3)
                have q := hP1.1
                rw [I_eq (by omega) (by omega) (by omega) (by omega)] at this
                omega
              have hnlx : nlx = nl := by
                have := d2.symm.trans (ec.trans g4)
                have q := hP1.2.1
                rw [I_eq (by omega) (by omega) (by omega) (by omega)] at this
                omega
              subst hnbx
              subst hnlx
              have hPB := hP1.box k (by omega) x1 y1 x2 y2
              have g3' := sc_putBox (F := F) (σ := σ1) k (by omega) x1 y1 x2 y2
              have g4' := sm_lays (F := F) (τ := τ1) k (by omega) x1 y1 x2 y2
              have hE0 : upd (upd (upd (upd (cs_ce σ1) (4 * k) x1) (4 * k + 1) y1) (4 * k + 2) x2) (4 * k + 3) y2 (4 * k) = x1 := upd4_at _ k 0 _ _ _ _ (by omega)
              have hE1 : upd (upd (upd (upd (cs_ce σ1) (4 * k) x1) (4 * k + 1) y1) (4 * k + 2) x2) (4 * k + 3) y2 (4 * k + 1) = y1 := upd4_at _ k 1 _ _ _ _ (by omega)
              have hE2 : upd (upd (upd (upd (cs_ce σ1) (4 * k) x1) (4 * k + 1) y1) (4 * k + 2) x2) (4 * k + 3) y2 (4 * k + 2) = x2 := upd4_at _ k 2 _ _ _ _ (by omega)
              have hE3 : upd (upd (upd (upd (cs_ce σ1) (4 * k) x1) (4 * k + 1) y1) (4 * k + 2) x2) (4 * k + 3) y2 (4 * k + 3) = y2 := upd4_at _ k 3 _ _ _ _ (by omega)
              have hEo : ∀ j, (j < 4 * k ∨ 4 * k + 4 ≤ j) → upd (upd (upd (upd (cs_ce σ1) (4 * k) x1) (4 * k + 1) y1) (4 * k + 2) x2) (4 * k + 3) y2 j = cs_ce σ j := fun j hj => by rw [← ece]; exact upd4_ne _ _ _ _ _ _ _ hj
              have hro : ∀ j, 1725 ≤ j → upd (upd (upd (upd (ms_row τ1) (3 + 4 * k) x1) (3 + 4 * k + 1) y1) (3 + 4 * k + 2) x2) (3 + 4 * k + 3) y2 j = ms_row τ1 j := fun j hj => by
                unfold upd
                rw [if_neg (by omega), if_neg (by omega), if_neg (by omega), if_neg (by omega)]
              generalize upd (upd (upd (upd (cs_ce σ1) (4 * k) x1) (4 * k + 1) y1) (4 * k + 2) x2) (4 * k + 3) y2 = E' at *
              generalize upd (upd (upd (upd (ms_row τ1) (3 + 4 * k) x1) (3 + 4 * k + 1) y1) (3 + 4 * k + 2) x2) (3 + 4 * k + 3) y2 = r' at *
              have hap : ∀ j, j < nbx → j ≠ k → apB E' (E' (4 * k)) (E' (4 * k + 1)) (E' (4 * k + 2)) (E' (4 * k + 3)) j = true := fun j hj hjk => by
                rw [hE0, hE1, hE2, hE3]
                have h1' : nrB (cs_ce σ) x1 y1 x2 y2 (I k) j = false := by
                  cases hz : nrB (cs_ce σ) x1 y1 x2 y2 (I k) j with
                  | false => rfl
                  | true => rw [anyN_ex.mpr ⟨j, hj, hz⟩] at hn; cases hn
                have hne : ¬ I j = I k := by rw [I_eq] <;> omega
                simp only [nrB, decide_eq_false hne, Bool.not_false, Bool.true_and] at h1'
                have h2' : apB E' x1 y1 x2 y2 j = apB (cs_ce σ) x1 y1 x2 y2 j := by
                  unfold apB
                  rw [hEo (4 * j) (by omega), hEo (4 * j + 1) (by omega), hEo (4 * j + 2) (by omega), hEo (4 * j + 3) (by omega)]
                rw [h2']
                simpa using h1'
              have hCore : Core (cs_ce_s σ1 E') (ms_row_s τ1 r') := by
                refine ⟨⟨nbx, nlx, d1, d2, hPB, ?_⟩, ?_⟩
                · obtain ⟨w1, w2, w3, w4, w5⟩ := hV1
                  refine ⟨w1, fun j hj => ?_, fun i j hi hj hij => ?_, fun c hc => ?_, w5⟩
                  · show rgB (E' (4 * j)) (E' (4 * j + 2)) = true ∧ rgB (E' (4 * j + 1)) (E' (4 * j + 3)) = true
                    by_cases q : j = k
                    · subst q
                      rw [hE0, hE1, hE2, hE3]
                      exact ⟨hx, hy⟩
                    · rw [hEo (4 * j) (by omega), hEo (4 * j + 1) (by omega), hEo (4 * j + 2) (by omega), hEo (4 * j + 3) (by omega)]
                      exact v2 j hj
                  · show apB E' (E' (4 * i)) (E' (4 * i + 1)) (E' (4 * i + 2)) (E' (4 * i + 3)) j = true
                    by_cases q : i = k
                    · subst q
                      exact hap j hj (Ne.symm hij)
                    · by_cases q2 : j = k
                      · subst q2
                        exact apB_sym.trans (hap i hi q)
                      · have := v3 i j hi hj hij
                        unfold apB at this ⊢
                        rw [hEo (4 * j) (by omega), hEo (4 * j + 1) (by omega), hEo (4 * j + 2) (by omega), hEo (4 * j + 3) (by omega), hEo (4 * i) (by omega), hEo (4 * i + 1) (by omega), hEo (4 * i + 2) (by omega), hEo (4 * i + 3) (by omega)]
                        exact this
                  · obtain ⟨u1, u2, u3⟩ := w4 c hc
                    have hp : ∀ p, PortOk nbx (cs_ce σ1) (cs_cq σ1) p → PortOk nbx E' (cs_cq σ1) p := fun p h => by
                      obtain ⟨b, s, e1, e2, e3, e4, e5, e6⟩ := h
                      refine ⟨b, s, e1, e2, e3, e4, e5, ?_⟩
                      rw [ece] at e6
                      by_cases q : b = k
                      · subst q
                        rw [hE0, hE1, hE2, hE3, hX, hY]
                        exact e6
                      · rw [hEo (4 * b) (by omega), hEo (4 * b + 1) (by omega), hEo (4 * b + 2) (by omega), hEo (4 * b + 3) (by omega)]
                        exact e6
                    exact ⟨hp _ u1, hp _ u2, u3⟩
                · obtain ⟨h, o, z1, z2, z3, z4, z5, z6⟩ := hH1
                  exact ⟨h, o, z1, z2, z3, z4, z5, fun i hi => Canv.cg (z6 i hi) (fun j hj => hro _ (by omega)) rfl rfl rfl (fun _ _ => rfl) (fun _ _ => rfl) (fun _ _ => rfl)⟩
              obtain ⟨T, hT, t1, t2⟩ := tn_ok (F := F) (by omega) hCore (show cs_cc (cs_ce_s σ1 E') = I nlx from d2) g2
              obtain ⟨nbz, -, -, -, q3, hPz, hVz⟩ := hCore.num2 (show cs_cc (cs_ce_s σ1 E') = I nlx from d2) g2
              refine ⟨I (cntN (fun c => !(cs_cr σ1 c).isNone && T c) nlx), cs_ce_s σ1 E', ms_row_s τ1 r', ?_, ?_, hCore, k1.tr ⟨rfl, rfl, rfl, fun h => h⟩, k2.tr ⟨rfl, rfl, rfl, rfl, rfl, rfl, rfl, rfl⟩, k3⟩
              · rw [if_pos (by decide), c1, bd_s, g3', bd_s, t1, bd_s, t2, bd_s, I_sub]
                have := cnt_sub (p := T) (q := fun c => (cs_cr σ1 c).isNone) (n := nlx) (fun i hi h => (hT i hi).2.2 (show cs_cr σ1 i = none by simpa using h))
                rw [this]
                refine congrArg (fun z => some (I z, cs_ce_s σ1 E')) ?_
                show ((cntN (fun c => (cs_cr σ1 c).isNone) nlx + cntN (fun c => !(cs_cr σ1 c).isNone && T c) nlx : Nat) : Int) - (cntN (fun c => (cs_cr σ1 c).isNone) nlx : Nat) = _
                omega
              · rw [if_pos (by decide), c2, bd_s, g4', bd_s, ← sum_I]
                refine lp_r (fun c => (ms_row_s τ1 r', sumN (fun c => b2 (!(cs_cr σ1 c).isNone && T c)) c, I c)) _ nlx rfl (by omega) (fun c rec hc => ?_) (fun rec => ?_)
                · have z2 : ¬ I nlx ≤ I c := by rw [I_le] <;> omega
                  simp only [fm_moveBox_L145_c, fm_moveBox_L183, fm_moveBox_L184, ix1_ (n := 8625) (by decide), gd_T, cN1, q3, z2, if_false, (hT c hc).2.1, bd_s, lt_r, I_S]
                  show _ = rec (ms_row_s τ1 r', sumN (fun c => b2 (!(cs_cr σ1 c).isNone && T c)) c + b2 (!(cs_cr σ1 c).isNone && T c), I ((c + 1 : Nat) : Int))
                  cases hcr : cs_cr σ1 c with
                  | none =>
                    rw [rd_n (F := F) hPz hc hcr, bd_s, if_neg (by decide)]
                    rfl
                  | some v =>
                    rw [(rd_m (F := F) hPz hc hcr (hVz.2.2.2.2 c hc v hcr).2.1).1, bd_s, if_pos rfl]
                    cases T c with
                    | false => rw [if_pos (by decide)]; rfl
                    | true => rw [if_neg (by decide)]; rfl
                · have z2 : I nlx ≤ I nlx := by rw [I_le] <;> omega
                  simp only [fm_moveBox_L145_c, ix1_ (n := 8625) (by decide), gd_T, cN1, q3, z2, if_true]
