/-! drop -/
def shM (row : Nat → Int32) (b w e : Nat) : Nat → Int32 := fun j => if b ≤ j ∧ j < e then row (j + w) else row j
theorem shM_0 (row : Nat → Int32) (b w : Nat) : shM row b w b = row := by
  funext j
  unfold shM
  rw [if_neg (by omega)]
theorem shM_S (row : Nat → Int32) {b w e : Nat} (hb : b ≤ e) : upd (shM row b w e) e (shM row b w e (e + w)) = shM row b w (e + 1) := by
  funext j
  unfold upd shM
  by_cases h : j = e
  · subst h
    by_cases hw : w = 0
    · subst hw
      rw [if_pos rfl, if_neg (by omega), if_pos (by omega)]
    · rw [if_pos rfl, if_neg (by omega), if_pos (by omega)]
  · rw [if_neg h]
    by_cases h2 : b ≤ j ∧ j < e
    · rw [if_pos h2, if_pos (by omega)]
    · rw [if_neg h2, if_neg (by omega)]
def shR (r : Nat → Option RV) (b e : Nat) : Nat → Option RV := fun j => if b ≤ j ∧ j < e then r (j + 1) else r j
theorem shR_0 (r : Nat → Option RV) (b : Nat) : shR r b b = r := by
  funext j
  unfold shR
  rw [if_neg (by omega)]
theorem shR_S (r : Nat → Option RV) {b e : Nat} (hb : b ≤ e) {o : Option RV} (ho : o = shR r b e (e + 1)) : va_up (shR r b e) e o = shR r b (e + 1) := by
  subst ho
  funext j
  unfold va_up shR
  by_cases h : j = e
  · subst h
    rw [if_pos rfl, if_neg (by omega), if_pos (by omega)]
  · rw [if_neg h]
    by_cases h2 : b ≤ j ∧ j < e
    · rw [if_pos h2, if_pos (by omega)]
    · rw [if_neg h2, if_neg (by omega)]
theorem shM_6 (q : Nat → Int32) {b i : Nat} (hb : b ≤ i) : va_cpy (shM q (6 * b) 6 (6 * i)) (shM q (6 * b) 6 (6 * i)) (6 * (i + 1)) (6 * i) 6 = shM q (6 * b) 6 (6 * (i + 1)) := by
  funext j
  unfold va_cpy shM
  by_cases h : 6 * i ≤ j ∧ j < 6 * i + 6
  · rw [if_pos h, if_neg (by omega), if_pos (by omega)]
    exact congrArg q (by omega)
  · rw [if_neg h]
    by_cases h2 : 6 * b ≤ j ∧ j < 6 * i
    · rw [if_pos h2, if_pos (by omega)]
    · rw [if_neg h2, if_neg (by omega)]
section K5
variable {F : Nat} {σ : CSt} {τ : MS}
theorem dq_1 {f g : Nat → Int32} {r r' : Nat → Option RV} : cs_cr_s (cs_cq_s (cs_cr_s (cs_cq_s σ f) r) g) r' = cs_cr_s (cs_cq_s σ g) r' := rfl
theorem sc_remove (hF : 1000 ≤ F) {nl c : Nat} (hnl : nl ≤ 10) (hc : c < nl) (hcc : cs_cc σ = I nl) : fc_X1_removeConnector F σ (I c) = some (cs_cr_s (cs_cq_s (cs_cc_s σ (I ((nl - 1 : Nat) : Int))) (shM (cs_cq σ) (6 * c) 6 (6 * (nl - 1)))) (va_up (shR (cs_cr σ) c (nl - 1)) (nl - 1) none)) := by
  have e0 : I nl - 1 = I ((nl - 1 : Nat) : Int) := by
    rw [I_1, I_sub]
    exact congrArg I (by omega)
  unfold fc_X1_removeConnector
  rw [lt_r, hcc, e0]
  generalize hσ : cs_cc_s σ (I ((nl - 1 : Nat) : Int)) = σ0
  have hq0 : cs_cq σ0 = cs_cq σ := by rw [← hσ]; rfl
  have hr0 : cs_cr σ0 = cs_cr σ := by rw [← hσ]; rfl
  have hc0 : cs_cc σ0 = I ((nl - 1 : Nat) : Int) := by rw [← hσ]; rfl
  rw [← hq0, ← hr0]
  refine lp_r (fun m => (cs_cr_s (cs_cq_s σ0 (shM (cs_cq σ0) (6 * c) 6 (6 * (c + m)))) (shR (cs_cr σ0) c (c + m)), I ((c + m : Nat) : Int))) _ (nl - 1 - c) (by rw [Nat.add_zero, shM_0, shR_0]; rfl) (by omega) (fun m rec hm => ?_) (fun rec => ?_)
  · generalize hi : c + m = i
    have hi1 : c + (m + 1) = i + 1 := by omega
    rw [hi1]
    have z1 : ¬ I ((nl - 1 : Nat) : Int) ≤ I i := by rw [I_le] <;> omega
    have i1 : (6 : Int32) * (I i + 1) = I ((6 * (i + 1) : Nat) : Int) := by rw [I_S, I_6, I_mul]; exact congrArg I (by omega)
    have i2 : (6 : Int32) * I i = I ((6 * i : Nat) : Int) := by rw [I_6, I_mul]; exact congrArg I (by omega)
    have n1 : (I ((6 * (i + 1) : Nat) : Int)).toNatClampNeg = 6 * (i + 1) := by rw [I_cl (by omega) (by omega)]; omega
    have n2 : (I ((6 * i : Nat) : Int)).toNatClampNeg = 6 * i := by rw [I_cl (by omega) (by omega)]; omega
    have n3 : (I ((i + 1 : Nat) : Int)).toNatClampNeg = i + 1 := by rw [I_cl (by omega) (by omega)]; omega
    have n4 : (I i).toNatClampNeg = i := by rw [I_cl (by omega) (by omega)]; omega
    have n5 : (6 : Int32).toNatClampNeg = 6 := rfl
    have ecp : cpo (I ((6 * (i + 1) : Nat) : Int)) (I ((6 * i : Nat) : Int)) 6 60 60 = true := by
      have y1 : (0 : Int32) ≤ I ((6 * (i + 1) : Nat) : Int) := by rw [I_0, I_le] <;> omega
      have y2 : (0 : Int32) ≤ I ((6 * i : Nat) : Int) := by rw [I_0, I_le] <;> omega
      have y3 : (0 : Int32) ≤ 6 := by decide
      unfold cpo
      rw [decide_eq_true y1, decide_eq_true y2, decide_eq_true y3, n1, n2, n5]
      simp only [Bool.true_and, Bool.and_eq_true, Nat.ble_eq]
      omega
    have x1 : ix (I ((i + 1 : Nat) : Int)) 10 = true := of_eq_true (I_ix (by omega) (by omega) (by omega))
    have x2 : ix (I i) 10 = true := of_eq_true (I_ix (by omega) (by omega) (by omega))
    have ccc : ∀ f r, cs_cc (cs_cr_s (cs_cq_s σ0 f) r) = I ((nl - 1 : Nat) : Int) := fun _ _ => hc0
    have cqq : ∀ f r, cs_cq (cs_cr_s (cs_cq_s σ0 f) r) = f := fun _ _ => rfl
    have crr : ∀ f r g, cs_cr (cs_cq_s (cs_cr_s (cs_cq_s σ0 f) r) g) = r := fun _ _ _ => rfl
    show fc_X1_removeConnector_L12_c F (fun a b => rec (a, b)) (cs_cr_s (cs_cq_s σ0 (shM (cs_cq σ0) (6 * c) 6 (6 * i))) (shR (cs_cr σ0) c i)) (I i) = _
    unfold fc_X1_removeConnector_L12_c
    rw [ccc, if_neg z1, i1, i2, gd_t ecp, lt_r, n1, n2, n5, cqq, shM_6 _ (show c ≤ i by omega), I_S, gd_t x1, n3, crr]
    cases ho : shR (cs_cr σ0) c i (i + 1) with
    | none => rw [mo_N, gd_t x2, lt_r, n4, shR_S _ (show c ≤ i by omega) ho.symm, dq_1, lt_r]
    | some v => rw [mo_S, gd_t x2, lt_r, n4, shR_S _ (show c ≤ i by omega) ho.symm, dq_1, lt_r]
  · rw [show c + (nl - 1 - c) = nl - 1 by omega]
    have z1 : I ((nl - 1 : Nat) : Int) ≤ I ((nl - 1 : Nat) : Int) := by rw [I_le] <;> omega
    have x2 : ix (I ((nl - 1 : Nat) : Int)) 10 = true := of_eq_true (I_ix (by omega) (by omega) (by omega))
    have n4 : (I ((nl - 1 : Nat) : Int)).toNatClampNeg = nl - 1 := by rw [I_cl (by omega) (by omega)]; omega
    have ccc : ∀ f r, cs_cc (cs_cr_s (cs_cq_s σ0 f) r) = I ((nl - 1 : Nat) : Int) := fun _ _ => hc0
    show fc_X1_removeConnector_L12_c F (fun a b => rec (a, b)) (cs_cr_s (cs_cq_s σ0 (shM (cs_cq σ0) (6 * c) 6 (6 * (nl - 1)))) (shR (cs_cr σ0) c (nl - 1))) (I ((nl - 1 : Nat) : Int)) = _
    unfold fc_X1_removeConnector_L12_c
    rw [ccc, if_pos z1, gd_t x2, lt_r, n4]
    rfl
theorem op_drop (hF : 2000 ≤ F) (hC : Core σ τ) (hr : RunOk σ τ) (x : Int32) : ∃ (r : Int32) (σ' : CSt) (τ' : MS), fc_X9_drop F σ x = some (r, σ') ∧ fm_drop F τ x = some (r, τ') ∧ OpR σ σ' τ τ' ∧ stl σ' ≤ stl σ := by
  rcases lk_ok (F := F) hC x with ⟨a1, a2⟩ | ⟨nl, c, h1, h2, h3, rfl, a1, a2⟩
  · refine ⟨-1001, σ, τ, ?_, ?_, OpR.rf hC, Nat.le_refl _⟩
    · unfold fc_X9_drop; rw [a1, bd_s, if_pos rfl]
    · unfold fm_drop; rw [a2, bd_s, if_pos rfl]
  · obtain ⟨σ1, τ1, c1, c2, ⟨⟨nb, nlx, d1, d2, hP1, hV1⟩, hH1⟩, k1, k2, k3, k4, k5⟩ := rem_ok hF hC hr
    have eb : cs_cb σ1 = cs_cb σ := congrArg (fun q : CT_cv => q.1) k4
    have ec : cs_cc σ1 = cs_cc σ := congrArg (fun q : CT_cv => q.2.1) k4
    have ecp : cs_cp σ1 = cs_cp σ := congrArg (fun q : CT_cv => q.2.2.1) k4
    have ece : cs_ce σ1 = cs_ce σ := congrArg (fun q : CT_cv => q.2.2.2.1) k4
    have ecq : cs_cq σ1 = cs_cq σ := congrArg (fun q : CT_cv => q.2.2.2.2.1) k4
    have ecr : cs_cr σ1 = cs_cr σ := congrArg (fun q : CT_cv => q.2.2.2.2.2) k4
    have hnlx : nlx = nl := by
      have := d2.symm.trans (ec.trans h3)
      have q := hP1.2.1
      rw [I_eq (by omega) (by omega) (by omega) (by omega)] at this
      omega
    subst hnlx
    have e0 : I nlx - 1 = I ((nlx - 1 : Nat) : Int) := by
      rw [I_1, I_sub]
      exact congrArg I (by omega)
    have sr := sc_remove (F := F) (σ := σ1) (by omega) h1 h2 d2
    have r1 : ms_row τ1 1 = I nlx := hP1.2.2.2.1
    -- the reference's row
    have hrow : ∀ j, upd (ms_row τ1) 1 (I ((nlx - 1 : Nat) : Int)) j = if j = 1 then I ((nlx - 1 : Nat) : Int) else ms_row τ1 j := fun j => rfl
    generalize hrw : upd (ms_row τ1) 1 (I ((nlx - 1 : Nat) : Int)) = rw0 at hrow
    generalize hr' : shM rw0 (35 + 169 * c) 169 (35 + 169 * (nlx - 1)) = r'
    have hro : ∀ j, (j < 35 + 169 * c ∨ 35 + 169 * (nlx - 1) ≤ j) → j ≠ 1 → r' j = ms_row τ1 j := fun j hj hj1 => by
      rw [← hr']
      unfold shM
      rw [if_neg (by omega), hrow, if_neg hj1]
    have hr1 : r' 1 = I ((nlx - 1 : Nat) : Int) := by
      rw [← hr']
      unfold shM
      rw [if_neg (by omega), hrow, if_pos rfl]
    have hrs : ∀ j, 35 + 169 * c ≤ j → j < 35 + 169 * (nlx - 1) → r' j = ms_row τ1 (j + 169) := fun j q1 q2 => by
      rw [← hr']
      unfold shM
      rw [if_pos ⟨q1, q2⟩, hrow, if_neg (by omega)]
    have hqs : ∀ i j, j < 6 → shM (cs_cq σ1) (6 * c) 6 (6 * (nlx - 1)) (6 * i + j) = if c ≤ i ∧ i < nlx - 1 then cs_cq σ1 (6 * (i + 1) + j) else cs_cq σ1 (6 * i + j) := fun i j hj => by
      unfold shM
      by_cases q : c ≤ i ∧ i < nlx - 1
      · rw [if_pos q, if_pos (by omega)]
        exact congrArg _ (by omega)
      · rw [if_neg q, if_neg (by omega)]
    have hcr : ∀ i, i < nlx - 1 → va_up (shR (cs_cr σ1) c (nlx - 1)) (nlx - 1) none i = if c ≤ i then cs_cr σ1 (i + 1) else cs_cr σ1 i := fun i hi => by
      rw [va_up_ne _ _ (by omega)]
      unfold shR
      by_cases q : c ≤ i
      · rw [if_pos q, if_pos ⟨q, hi⟩]
      · rw [if_neg q, if_neg (by omega)]
    generalize shM (cs_cq σ1) (6 * c) 6 (6 * (nlx - 1)) = q' at sr hqs
    generalize va_up (shR (cs_cr σ1) c (nlx - 1)) (nlx - 1) none = R' at sr hcr
    have ncc : cs_cc (cs_cr_s (cs_cq_s (cs_cc_s σ1 (I ((nlx - 1 : Nat) : Int))) q') R') = I ((nlx - 1 : Nat) : Int) := rfl
    refine ⟨I ((nlx - 1 : Nat) : Int), cs_cr_s (cs_cq_s (cs_cc_s σ1 (I ((nlx - 1 : Nat) : Int))) q') R', ms_row_s τ1 r', ?_, ?_, ⟨⟨⟨nb, nlx - 1, d1, rfl, ?_, ?_⟩, ?_⟩, k1.tr ⟨rfl, rfl, rfl, fun h => h⟩, k2.tr ⟨rfl, rfl, rfl, rfl, rfl, rfl, rfl, rfl⟩, k3⟩, ?_⟩
    · unfold fc_X9_drop
      rw [a1, bd_s, if_neg (by decide), c1, bd_s, sr, bd_s]
      rfl
    · unfold fm_drop st_row
      rw [a2, bd_s, if_neg (by decide), c2, bd_s, gd_t (of_eq_true (ix1_ (n := 8625) (by decide))), gd_t (of_eq_true (ix1_ (n := 8625) (by decide))), lt_r, cN1, r1, e0, hrw]
      refine lp_r (fun m => (ms_row_s τ1 (shM rw0 (35 + 169 * c) 169 (35 + 169 * (c + m))), I ((c + m : Nat) : Int))) _ (nlx - 1 - c) (by rw [Nat.add_zero, shM_0]) (by omega) (fun m rec hm => ?_) (fun rec => ?_)
      · generalize hi : c + m = i
        have hi1 : c + (m + 1) = i + 1 := by omega
        rw [hi1]
        have z1 : ¬ I ((nlx - 1 : Nat) : Int) ≤ I i := by rw [I_le] <;> omega
        have z2 : ms_row (ms_row_s τ1 (shM rw0 (35 + 169 * c) 169 (35 + 169 * i))) 1 = I ((nlx - 1 : Nat) : Int) := by
          show shM rw0 (35 + 169 * c) 169 (35 + 169 * i) 1 = _
          unfold shM
          rw [if_neg (by omega), hrow, if_pos rfl]
        simp only [fm_drop_L28_c, ix1_ (n := 8625) (by decide), gd_T, cN1, z2, z1, if_false]
        refine lp_r (fun k => (ms_row_s τ1 (shM rw0 (35 + 169 * c) 169 (35 + 169 * i + k)), I i, I k)) _ 169 rfl (by omega) (fun k rec2 hk => ?_) (fun rec2 => ?_)
        · have z3 : ¬ (169 : Int32) ≤ I k := by rw [I_169, I_le] <;> omega
          have o1 := sm_ofr (F := F) (τ := τ1) (f := shM rw0 (35 + 169 * c) 169 (35 + 169 * i + k)) (c := i + 1) k (by omega) hk
          rw [show 35 + 169 * (i + 1) + k = 35 + 169 * i + k + 169 by omega] at o1
          have p1 := fun v => sm_puts (F := F) (τ := τ1) (f := shM rw0 (35 + 169 * c) 169 (35 + 169 * i + k)) (c := i) k (by omega) hk v
          simp only [fm_drop_L40_c, z3, if_false, I_S, o1, bd_s, p1, lt_r, shM_S _ (show 35 + 169 * c ≤ 35 + 169 * i + k by omega)]
          rfl
        · have z3 : (169 : Int32) ≤ I ((169 : Nat) : Int) := by decide
          simp only [fm_drop_L40_c, z3, if_true, lt_r, I_S]
          rw [show 35 + 169 * (i + 1) = 35 + 169 * i + 169 by omega]
      · rw [show c + (nlx - 1 - c) = nlx - 1 by omega, hr']
        have z1 : I ((nlx - 1 : Nat) : Int) ≤ I ((nlx - 1 : Nat) : Int) := by rw [I_le] <;> omega
        have z2 : ms_row (ms_row_s τ1 r') 1 = I ((nlx - 1 : Nat) : Int) := hr1
        simp only [fm_drop_L28_c, ix1_ (n := 8625) (by decide), gd_T, cN1, z2, z1, if_true]
    · obtain ⟨p1, p2, p3, p4, p5, p6, p7, p8⟩ := hP1
      refine ⟨p1, by omega, (hro 0 (by omega) (by omega)).trans p3, hr1, (hro 2 (by omega) (by omega)).trans p5, fun j hj => (hro _ (by omega) (by omega)).trans (p6 j hj), fun i hi j hj => ?_, fun i hi => ?_⟩
      · show r' (35 + 169 * i + j) = q' (6 * i + j)
        rw [hqs i j hj]
        by_cases q : c ≤ i ∧ i < nlx - 1
        · rw [if_pos q, hrs _ (by omega) (by omega), ← p7 (i + 1) (by omega) j hj]
          exact congrArg _ (by omega)
        · rw [if_neg q, hro _ (by omega) (by omega)]
          exact p7 i hi j hj
      · show RtC (fun j => r' (35 + 169 * i + j)) (R' i)
        rw [hcr i hi]
        by_cases q : c ≤ i
        · rw [if_pos q]
          refine (p8 (i + 1) (by omega)).cg fun j hj => ?_
          rw [hrs _ (by omega) (by omega)]
          exact congrArg _ (by omega)
        · rw [if_neg q]
          exact (p8 i (by omega)).cg fun j hj => hro _ (by omega) (by omega)
    · obtain ⟨w1, w2, w3, w4, w5⟩ := hV1
      refine ⟨w1, w2, w3, fun i hi => ?_, fun i hi v hv => ?_⟩
      · show PortOk nb (cs_ce σ1) q' (6 * i) ∧ PortOk nb (cs_ce σ1) q' (6 * i + 3) ∧ ¬ (q' (6 * i) = q' (6 * i + 3) ∧ q' (6 * i + 1) = q' (6 * i + 4) ∧ q' (6 * i + 2) = q' (6 * i + 5))
        have key : ∀ i', i' < nlx → (∀ j, j < 6 → q' (6 * i + j) = cs_cq σ1 (6 * i' + j)) → PortOk nb (cs_ce σ1) q' (6 * i) ∧ PortOk nb (cs_ce σ1) q' (6 * i + 3) ∧ ¬ (q' (6 * i) = q' (6 * i + 3) ∧ q' (6 * i + 1) = q' (6 * i + 4) ∧ q' (6 * i + 2) = q' (6 * i + 5)) := fun i' hi' hq => by
          obtain ⟨u1, u2, u3⟩ := w4 i' hi'
          have f0 : q' (6 * i) = cs_cq σ1 (6 * i') := hq 0 (by omega)
          have f1 := hq 1 (by omega)
          have f2 := hq 2 (by omega)
          have f3 := hq 3 (by omega)
          have f4 := hq 4 (by omega)
          have f5 := hq 5 (by omega)
          refine ⟨?_, ?_, by rw [f0, f1, f2, f3, f4, f5]; exact u3⟩
          · obtain ⟨b, s, e1, e2, e3, e4, e5, e6⟩ := u1
            exact ⟨b, s, e1, e2, f0.trans e3, f1.trans e4, by rw [f2]; exact e5, by rw [f2]; exact e6⟩
          · obtain ⟨b, s, e1, e2, e3, e4, e5, e6⟩ := u2
            exact ⟨b, s, e1, e2, f3.trans e3, f4.trans e4, by rw [show 6 * i + 3 + 2 = 6 * i + 5 by omega, f5]; exact e5, by rw [show 6 * i + 3 + 2 = 6 * i + 5 by omega, f5]; exact e6⟩
        by_cases q : c ≤ i
        · exact key (i + 1) (by omega) fun j hj => by rw [hqs i j hj, if_pos ⟨q, hi⟩]
        · exact key i (by omega) fun j hj => by rw [hqs i j hj, if_neg (by omega)]
      · have hv' : R' i = some v := hv
        rw [hcr i hi] at hv'
        by_cases q : c ≤ i
        · rw [if_pos q] at hv'
          exact w5 (i + 1) (by omega) v hv'
        · rw [if_neg q] at hv'
          exact w5 i (by omega) v hv'
    · obtain ⟨h, o, z1, z2, z3, z4, z5, z6⟩ := hH1
      exact ⟨h, o, z1, z2, z3, z4, z5, fun i hi => Canv.cg (z6 i hi) (fun j hj => hro _ (by omega) (by omega)) rfl rfl rfl (fun _ _ => rfl) (fun _ _ => rfl) (fun _ _ => rfl)⟩
    · unfold stl
      rw [nlO_I h3 (by omega), nlO_I ncc (by omega)]
      have := (cnt_sh (p := fun i => cdec (¬ FreshC σ i)) (q := fun i => cdec (¬ FreshC (cs_cr_s (cs_cq_s (cs_cc_s σ1 (I ((nlx - 1 : Nat) : Int))) q') R') i)) (c := c) (nlx - 1) (fun i hi hic hq => ?_) (fun i hi hic hq => ?_)).2 (by omega)
      · rw [show nlx - 1 + 1 = nlx by omega] at this
        exact this
      · rw [cdec_t] at hq ⊢
        intro hfi
        refine hq (hfi.cg2 eb ecp ece (fun j hj => ?_) ?_ (by omega))
        · show q' (6 * i + j) = _
          rw [hqs i j hj, if_neg (by omega), ecq]
        · show R' i = _
          rw [hcr i hi, if_neg (by omega), ecr]
      · rw [cdec_t] at hq ⊢
        intro hfi
        refine hq (hfi.cg2 eb ecp ece (fun j hj => ?_) ?_ (by omega))
        · show q' (6 * i + j) = _
          rw [hqs i j hj, if_pos ⟨hic, hi⟩, ecq]
        · show R' i = _
          rw [hcr i hi, if_pos hic, ecr]
end K5
