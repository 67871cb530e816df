/-! addBox, setPenalty, blocker, box, undo -/
def OpR (σ σ' : CSt) (τ τ' : MS) : Prop := Core σ' τ' ∧ Kp σ σ' ∧ Km τ τ' ∧ ggh σ' = ggh σ
theorem OpR.rf {σ : CSt} {τ : MS} (h : Core σ τ) : OpR σ σ τ τ := ⟨h, Kp.rf, Km.rf, rfl⟩
theorem apB_sym {E : Nat → Int32} {a b : Nat} : apB E (E (4 * a)) (E (4 * a + 1)) (E (4 * a + 2)) (E (4 * a + 3)) b = apB E (E (4 * b)) (E (4 * b + 1)) (E (4 * b + 2)) (E (4 * b + 3)) a := by
  unfold apB
  generalize E (4 * a + 2) + 2 = p1
  generalize E (4 * b + 2) + 2 = p2
  generalize E (4 * a + 3) + 2 = p3
  generalize E (4 * b + 3) + 2 = p4
  generalize decide (p2 ≤ E (4 * a)) = q1
  generalize decide (p1 ≤ E (4 * b)) = q2
  generalize decide (p4 ≤ E (4 * a + 1)) = q3
  generalize decide (p3 ≤ E (4 * b + 1)) = q4
  cases q1 <;> cases q2 <;> cases q3 <;> cases q4 <;> rfl
theorem upd4_at (E : Nat → Int32) (k j : Nat) (a b c d : Int32) (hj : j < 4) : upd (upd (upd (upd E (4 * k) a) (4 * k + 1) b) (4 * k + 2) c) (4 * k + 3) d (4 * k + j) = if j = 0 then a else if j = 1 then b else if j = 2 then c else d := by
  unfold upd
  rcases (show j = 0 ∨ j = 1 ∨ j = 2 ∨ j = 3 by omega) with rfl | rfl | rfl | rfl
  · rw [if_neg (by omega), if_neg (by omega), if_neg (by omega), if_pos (by omega)]; rfl
  · rw [if_neg (by omega), if_neg (by omega), if_pos (by omega)]; rfl
  · rw [if_neg (by omega), if_pos (by omega)]; rfl
  · rw [if_pos (by omega)]; rfl
theorem upd4_ne (E : Nat → Int32) (k j : Nat) (a b c d : Int32) (hj : j < 4 * k ∨ 4 * k + 4 ≤ j) : upd (upd (upd (upd E (4 * k) a) (4 * k + 1) b) (4 * k + 2) c) (4 * k + 3) d j = E j := by
  unfold upd
  rw [if_neg (by omega), if_neg (by omega), if_neg (by omega), if_neg (by omega)]
/-- a box laid: both sides -/
theorem Cpl.box {f E Q : Nat → Int32} {nb nl : Nat} {cp : Int32} {R : Nat → Option RV} (h : Cpl f nb nl cp E Q R) (k : Nat) (hk : k < 8) (a b c d : Int32) : Cpl (upd (upd (upd (upd f (3 + 4 * k) a) (3 + 4 * k + 1) b) (3 + 4 * k + 2) c) (3 + 4 * k + 3) d) nb nl cp (upd (upd (upd (upd E (4 * k) a) (4 * k + 1) b) (4 * k + 2) c) (4 * k + 3) d) Q R := by
  have hf : ∀ j, (j < 3 + 4 * k ∨ 3 + 4 * k + 4 ≤ j) → upd (upd (upd (upd f (3 + 4 * k) a) (3 + 4 * k + 1) b) (3 + 4 * k + 2) c) (3 + 4 * k + 3) d j = f j := fun j hj => by
    unfold upd
    rw [if_neg (by omega), if_neg (by omega), if_neg (by omega), if_neg (by omega)]
  obtain ⟨h1, h2, h3, h4, h5, h6, h7, h8⟩ := h
  refine ⟨h1, h2, (hf 0 (by omega)).trans h3, (hf 1 (by omega)).trans h4, (hf 2 (by omega)).trans h5, fun j hj => ?_, fun c hc j hj => (hf _ (by omega)).trans (h7 c hc j hj), fun c hc => (h8 c hc).cg fun j hj => hf _ (by omega)⟩
  unfold upd
  by_cases g3 : j = 4 * k + 3
  · rw [if_pos (by omega), if_pos g3]
  · rw [if_neg (by omega), if_neg g3]
    by_cases g2 : j = 4 * k + 2
    · rw [if_pos (by omega), if_pos g2]
    · rw [if_neg (by omega), if_neg g2]
      by_cases g1 : j = 4 * k + 1
      · rw [if_pos (by omega), if_pos g1]
      · rw [if_neg (by omega), if_neg g1]
        by_cases g0 : j = 4 * k
        · rw [if_pos (by omega), if_pos g0]
        · rw [if_neg (by omega), if_neg g0]
          exact h6 j hj
theorem nr_but {E : Nat → Int32} {x1 y1 x2 y2 a b : Int32} {n : Nat} (ha : ∀ k, k < n → I k ≠ a) (hb : ∀ k, k < n → I k ≠ b) : anyN (nrB E x1 y1 x2 y2 a) n = anyN (nrB E x1 y1 x2 y2 b) n := by
  induction n with
  | zero => rfl
  | succ n ih =>
    simp only [anyN]
    rw [ih (fun k hk => ha k (by omega)) (fun k hk => hb k (by omega))]
    simp only [nrB, decide_eq_false (ha n (by omega)), decide_eq_false (hb n (by omega))]
theorem I_nm1 {k : Nat} (h : k < 1000) : I k ≠ -1 := by
  rw [show (-1 : Int32) = I (-1) from rfl]
  intro q
  rw [I_eq] at q <;> omega
theorem I_nm1000 {k : Nat} (h : k < 1000) : I k ≠ -1000 := by
  rw [show (-1000 : Int32) = I (-1000) from rfl]
  intro q
  rw [I_eq] at q <;> omega
theorem op_addBox {F : Nat} (hF : 2000 ≤ F) {σ : CSt} {τ : MS} (hC : Core σ τ) (hr : RunOk σ τ) (x1 y1 x2 y2 : Int32) : ∃ (r : Int32) (σ' : CSt) (τ' : MS), fc_X9_addBox F σ x1 y1 x2 y2 = some (r, σ') ∧ fm_addBox F τ x1 y1 x2 y2 = some (r, τ') ∧ OpR σ σ' τ τ' := by
  obtain ⟨⟨nb, nl, e1, e2, hP, hV⟩, hH⟩ := id hC
  obtain ⟨hnb, hnl, -⟩ := id hP
  have hF1 : 100 ≤ F := by omega
  have sN := fun a b c d e => sc_isTooNear hF1 e1 hnb a b c d e
  have mN := fun a b c d e => sm_isNear hF1 hP a b c d e
  by_cases hx : rgB x1 x2 = true
  · by_cases hy : rgB y1 y2 = true
    · have hnr := nr_but (E := cs_ce σ) (x1 := x1) (y1 := y1) (x2 := x2) (y2 := y2) (a := -1) (b := -1000) (n := nb) (fun k hk => I_nm1 (by omega)) (fun k hk => I_nm1000 (by omega))
      by_cases hn : anyN (nrB (cs_ce σ) x1 y1 x2 y2 (-1)) nb = true
      · refine ⟨-1003, σ, τ, ?_, ?_, OpR.rf hC⟩
        · simp only [fc_X9_addBox, sc_isSound, bd_s, hx, hy, Bool.and_self, b2_0, Bool.true_eq_false, if_false, sN, hn]
        · simp only [fm_addBox, sm_isRange, bd_s, hx, hy, b2_0, Bool.true_eq_false, if_false, mN, ← hnr, hn]
      · have hn : anyN (nrB (cs_ce σ) x1 y1 x2 y2 (-1)) nb = false := by simpa using hn
        by_cases h8 : nb = 8
        · subst h8
          have g1 : cs_cb σ = 8 := e1
          have g2 : ms_row τ 0 = 8 := hP.2.2.1
          refine ⟨-1004, σ, τ, ?_, ?_, OpR.rf hC⟩
          · simp only [fc_X9_addBox, sc_isSound, bd_s, hx, hy, Bool.and_self, b2_0, Bool.true_eq_false, if_false, sN, hn, if_true, g1, show ¬ (8 : Int32) < 8 by decide]
          · simp only [fm_addBox, sm_isRange, bd_s, hx, hy, b2_0, Bool.true_eq_false, if_false, mN, ← hnr, hn, if_true, ixz (n := 8625) (by decide), gd_T, cN0, g2]
        · obtain ⟨σ1, τ1, c1, c2, ⟨⟨nb', nl', d1, d2, hP1, hV1⟩, hH1⟩, k1, k2, k3, k4, k5⟩ := rem_ok hF hC hr
          have eb : cs_cb σ1 = I nb := (congrArg (fun q : CT_cv => q.1) k4).trans e1
          have hnn : nb' = nb := by
            have q9 := hP1.1
            have := eb.symm.trans d1
            rw [I_eq] at this <;> omega
          subst hnn
          have g1 : cs_cb σ < 8 := by rw [e1, I_8, I_lt] <;> omega
          have g2 : ¬ ms_row τ 0 = 8 := by rw [hP.2.2.1, I_8, I_eq] <;> omega
          have g3 := sc_putBox (F := F) (σ := cs_cb_s σ1 (I ((nb' + 1 : Nat) : Int))) nb' (by omega) x1 y1 x2 y2
          have g4 := sm_lays (F := F) (τ := τ1) nb' (by omega) x1 y1 x2 y2
          have g5 : ms_row τ1 0 = I nb' := hP1.2.2.1
          rw [zc_ce_cb] at g3
          have hPB := hP1.box nb' (by omega) x1 y1 x2 y2
          generalize hE' : upd (upd (upd (upd (cs_ce σ1) (4 * nb') x1) (4 * nb' + 1) y1) (4 * nb' + 2) x2) (4 * nb' + 3) y2 = E' at g3 hPB
          generalize hr' : upd (upd (upd (upd (ms_row τ1) (3 + 4 * nb') x1) (3 + 4 * nb' + 1) y1) (3 + 4 * nb' + 2) x2) (3 + 4 * nb' + 3) y2 = r' at g4 hPB
          have g6 : r' 0 = I nb' := hPB.2.2.1
          refine ⟨I nb', cs_ce_s (cs_cb_s σ1 (I ((nb' + 1 : Nat) : Int))) E', ms_row_s τ1 (upd r' 0 (I ((nb' + 1 : Nat) : Int))), ?_, ?_, ⟨⟨nb' + 1, nl', rfl, d2, ?_, ?_⟩, ?_⟩, ?_, ?_, ?_⟩
          · simp only [fc_X9_addBox, sc_isSound, bd_s, hx, hy, Bool.and_self, b2_0, Bool.true_eq_false, if_false, sN, hn, if_true, g1, c1, lt_r, eb, I_S, g3]
          · have g7 : I ((nb' + 1 : Nat) : Int) - 1 = I nb' := by
              rw [I_1, I_sub]
              exact congrArg I (by omega)
            simp only [fm_addBox, sm_isRange, bd_s, hx, hy, b2_0, Bool.true_eq_false, if_false, mN, ← hnr, hn, if_true, ixz (n := 8625) (by decide), gd_T, cN0, g2, c2, g5, g4, lt_r, st_row, zm_row_row, g6, I_S]
            rw [show upd r' 0 (I ((nb' + 1 : Nat) : Int)) 0 = I ((nb' + 1 : Nat) : Int) from rfl, g7]
            rfl
          · obtain ⟨q1, q2, q3, q4, q5, q6, q7, q8⟩ := hPB
            refine ⟨by omega, q2, rfl, q4, q5, fun j hj => ?_, fun c hc j hj => ?_, fun c hc => (q8 c hc).cg fun j hj => ?_⟩
            · exact (if_neg (by omega)).trans (q6 j hj)
            · exact (if_neg (by omega)).trans (q7 c hc j hj)
            · exact if_neg (by omega)
          · obtain ⟨v1, v2, v3, v4, v5⟩ := hV1
            have ecE : cs_ce σ1 = cs_ce σ := congrArg (fun q : CT_cv => q.2.2.2.1) k4
            have hEo : ∀ j, j < 4 * nb' → E' j = cs_ce σ1 j := fun j hj => by rw [← hE']; exact upd4_ne _ _ _ _ _ _ _ (by omega)
            have hE0 : E' (4 * nb') = x1 := by rw [← hE']; exact upd4_at _ nb' 0 _ _ _ _ (by omega)
            have hE1 : E' (4 * nb' + 1) = y1 := by rw [← hE']; exact upd4_at _ nb' 1 _ _ _ _ (by omega)
            have hE2 : E' (4 * nb' + 2) = x2 := by rw [← hE']; exact upd4_at _ nb' 2 _ _ _ _ (by omega)
            have hE3 : E' (4 * nb' + 3) = y2 := by rw [← hE']; exact upd4_at _ nb' 3 _ _ _ _ (by omega)
            have hap : ∀ k, k < nb' → apB E' (E' (4 * nb')) (E' (4 * nb' + 1)) (E' (4 * nb' + 2)) (E' (4 * nb' + 3)) k = true := fun k hk => by
              rw [hE0, hE1, hE2, hE3]
              have h1 : nrB (cs_ce σ) x1 y1 x2 y2 (-1) k = false := by
                cases hq : nrB (cs_ce σ) x1 y1 x2 y2 (-1) k with
                | false => rfl
                | true => rw [anyN_ex.mpr ⟨k, hk, hq⟩] at hn; cases hn
              simp only [nrB, decide_eq_false (I_nm1 (show k < 1000 by omega)), Bool.not_false, Bool.true_and] at h1
              have h2 : apB E' x1 y1 x2 y2 k = apB (cs_ce σ) x1 y1 x2 y2 k := by
                unfold apB
                rw [hEo (4 * k) (by omega), hEo (4 * k + 1) (by omega), hEo (4 * k + 2) (by omega), hEo (4 * k + 3) (by omega), ecE]
              rw [h2]
              simpa using h1
            refine ⟨v1, fun k hk => ?_, fun j k hj hk hjk => ?_, fun c hc => ?_, v5⟩
            · by_cases hkn : k = nb'
              · subst hkn
                show rgB (E' (4 * k)) (E' (4 * k + 2)) = true ∧ rgB (E' (4 * k + 1)) (E' (4 * k + 3)) = true
                rw [hE0, hE1, hE2, hE3]
                exact ⟨hx, hy⟩
              · have := v2 k (by omega)
                show rgB (E' (4 * k)) (E' (4 * k + 2)) = true ∧ rgB (E' (4 * k + 1)) (E' (4 * k + 3)) = true
                rw [hEo (4 * k) (by omega), hEo (4 * k + 1) (by omega), hEo (4 * k + 2) (by omega), hEo (4 * k + 3) (by omega)]
                exact this
            · by_cases hjn : j = nb'
              · subst hjn
                exact hap k (by omega)
              · by_cases hkn : k = nb'
                · subst hkn
                  exact apB_sym.trans (hap j (by omega))
                · have h2 := v3 j k (by omega) (by omega) hjk
                  show apB E' (E' (4 * j)) (E' (4 * j + 1)) (E' (4 * j + 2)) (E' (4 * j + 3)) k = true
                  unfold apB at h2 ⊢
                  rw [hEo (4 * k) (by omega), hEo (4 * k + 1) (by omega), hEo (4 * k + 2) (by omega), hEo (4 * k + 3) (by omega), hEo (4 * j) (by omega), hEo (4 * j + 1) (by omega), hEo (4 * j + 2) (by omega), hEo (4 * j + 3) (by omega)]
                  exact h2
            · obtain ⟨p1, p2, p3⟩ := v4 c hc
              have hp : ∀ p, PortOk nb' (cs_ce σ1) (cs_cq σ1) p → PortOk (nb' + 1) E' (cs_cq σ1) p := fun p h => by
                obtain ⟨b, s, a1, a2, a3, a4, a5, a6⟩ := h
                refine ⟨b, s, by omega, a2, a3, a4, a5, ?_⟩
                rw [hEo (4 * b) (by omega), hEo (4 * b + 1) (by omega), hEo (4 * b + 2) (by omega), hEo (4 * b + 3) (by omega)]
                exact a6
              exact ⟨hp _ p1, hp _ p2, p3⟩
          · obtain ⟨h, o, a1, a2, a3, a4, a5, a6⟩ := hH1
            refine ⟨h, o, a1, a2, a3, a4, a5, fun i hi => ?_⟩
            have hrr : ∀ j, 1725 ≤ j → upd r' 0 (I ((nb' + 1 : Nat) : Int)) j = ms_row τ1 j := fun j hj => by
              rw [← hr']
              unfold upd
              rw [if_neg (by omega), if_neg (by omega), if_neg (by omega), if_neg (by omega), if_neg (by omega)]
            exact Canv.cg (a6 i hi) (fun j hj => hrr _ (by omega)) rfl rfl rfl (fun _ _ => rfl) (fun _ _ => rfl) (fun _ _ => rfl)
          · exact k1.tr ⟨rfl, rfl, rfl, fun h => h⟩
          · exact k2.tr ⟨rfl, rfl, rfl, rfl, rfl, rfl, rfl, rfl⟩
          · exact k3
    · have hy : rgB y1 y2 = false := by simpa using hy
      refine ⟨-1002, σ, τ, ?_, ?_, OpR.rf hC⟩
      · simp only [fc_X9_addBox, sc_isSound, bd_s, hx, hy, Bool.and_false, b2_0, if_true]
      · simp only [fm_addBox, fm_addBox_L17, sm_isRange, bd_s, hx, hy, b2_0, Bool.true_eq_false, if_false, if_true]
  · have hx : rgB x1 x2 = false := by simpa using hx
    refine ⟨-1002, σ, τ, ?_, ?_, OpR.rf hC⟩
    · simp only [fc_X9_addBox, sc_isSound, bd_s, hx, Bool.false_and, b2_0, if_true]
    · simp only [fm_addBox, fm_addBox_L17, sm_isRange, bd_s, hx, b2_0, if_true]
