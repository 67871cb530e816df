/-! isOn, digest -/
section I5
variable {F : Nat} {σ : CSt} {τ : MS} {v : RV} {c : Nat} {x y : Int32}
def cnB (v : RV) (x y : Int32) (k : Nat) : Bool := decide (I (rX v k) = x) && decide (I (rY v k) = y)
def onB (v : RV) (x y : Int32) (s : Nat) : Bool := (decide (I (min (rX v s) (rX v (s + 1))) ≤ x) && decide (x ≤ I (max (rX v s) (rX v (s + 1))))) && (decide (I (min (rY v s) (rY v (s + 1))) ≤ y) && decide (y ≤ I (max (rY v s) (rY v (s + 1)))))
def tld (v : RV) (x y : Int32) : Nat → Int32
  | 0 => 0
  | m + 1 => if anyN (cnB v x y) (m + 2) = true then 2 else if anyN (onB v x y) (m + 1) = true then 1 else 0
theorem sc_hasC (hF : 1000 ≤ F) (hv : RtI v) : fc_X6_hasCornerAt F σ v x y = some (b2 (anyN (cnB v x y) v.2.1)) := by
  have h66 := hv.2.1
  have hle := fstN_le (p := cnB v x y) (n := v.2.1)
  rw [anyN_fst]
  have key : ∀ (k : Nat) (rec : RV → Int32 → Int32 → Int32 → Option Int32), k < v.2.1 → fc_X6_hasCornerAt_L2_c F σ rec v x y (I k) = if cnB v x y k = true then some 1 else rec v x y (I ((k + 1 : Nat) : Int)) := fun k rec hk => by
    have z1 : ¬ I v.2.1 ≤ I k := by rw [I_le] <;> omega
    have n6 : ((k : Nat) : Int).toNat = k := by omega
    simp (disch := omega) only [fc_X6_hasCornerAt_L2_c, fc_X6_hasCornerAt_L32, fc_X6_corners, bd_s, I_nat, z1, if_false, I_ix, gd_T, I_cl, n6, rX_I, rY_I, lt_r, I_S]
    unfold cnB
    by_cases q1 : I (rX v k) = x
    · by_cases q2 : I (rY v k) = y
      · rw [if_pos q1, if_pos q2, decide_eq_true q1, decide_eq_true q2]; rfl
      · rw [if_pos q1, if_neg q2, decide_eq_false q2, Bool.and_false]; rfl
    · rw [if_neg q1, decide_eq_false q1]; rfl
  refine lp_r (fun k => (v, x, y, I k)) _ (fstN (cnB v x y) v.2.1) rfl (by omega) (fun k rec hk => ?_) (fun rec => ?_)
  · refine (key k _ (by omega)).trans ?_
    rw [fstN_no hk]
    rfl
  · rcases Nat.lt_or_ge (fstN (cnB v x y) v.2.1) v.2.1 with hm | hm
    · refine (key _ _ hm).trans ?_
      rw [fstN_at hm, if_pos rfl, decide_eq_true hm]
      rfl
    · have z1 : I v.2.1 ≤ I (fstN (cnB v x y) v.2.1) := by rw [I_le] <;> omega
      simp only [fc_X6_hasCornerAt_L2_c, fc_X6_corners, bd_s, I_nat, z1, if_true]
      rw [decide_eq_false (by omega)]
      rfl
theorem sc_passes (hF : 1000 ≤ F) (hv : RtI v) : fc_X6_passes F σ v x y = some (b2 (anyN (onB v x y) (v.2.1 - 1))) := by
  have h66 := hv.2.1
  have hle := fstN_le (p := onB v x y) (n := v.2.1 - 1)
  rw [anyN_fst]
  have l38 : ∀ (k : Nat) (rec : RV → Int32 → Int32 → Int32 → Option Int32) (al ac : Int32), k + 1 < v.2.1 → fc_X6_passes_L38 F σ rec v x y (I k) al ac = if ac = I (liS v k) ∧ I (loS v k) ≤ al ∧ al ≤ I (hiS v k) then some 1 else rec v x y (I ((k + 1 : Nat) : Int)) := fun k rec al ac hk => by
    simp only [fc_X6_passes_L38, fc_X6_passes_L72, sc_li hv hk, sc_lo hv hk, sc_hi hv hk, bd_s, lt_r, I_S, i_lt]
    by_cases q1 : ac = I (liS v k)
    · rw [if_pos q1]
      by_cases q2 : I (loS v k) ≤ al
      · rw [if_neg (fun z => z q2)]
        by_cases q3 : al ≤ I (hiS v k)
        · rw [if_neg (fun z => z q3), if_pos ⟨q1, q2, q3⟩]
        · rw [if_pos q3, if_neg (fun z => q3 z.2.2)]
      · rw [if_pos q2, if_neg (fun z => q2 z.2.1)]
    · rw [if_neg q1, if_neg (fun z => q1 z.1)]
  have key : ∀ (k : Nat) (rec : RV → Int32 → Int32 → Int32 → Option Int32), k < v.2.1 - 1 → fc_X6_passes_L2_c F σ rec v x y (I k) = if onB v x y k = true then some 1 else rec v x y (I ((k + 1 : Nat) : Int)) := fun k rec hk => by
    have z1 : ¬ I ((v.2.1 - 1 : Nat) : Int) ≤ I k := by rw [I_le] <;> omega
    have hk1 : k + 1 < v.2.1 := by omega
    have hl := sc_lvl (F := F) (σ := σ) hv hk1
    have a3 := hv.2.2.2.1 k hk1
    have hon : (onB v x y k = true) ↔ (I (min (rX v k) (rX v (k + 1))) ≤ x ∧ x ≤ I (max (rX v k) (rX v (k + 1)))) ∧ I (min (rY v k) (rY v (k + 1))) ≤ y ∧ y ≤ I (max (rY v k) (rY v (k + 1))) := by
      unfold onB
      simp only [Bool.and_eq_true, decide_eq_true_eq]
    unfold fc_X6_passes_L2_c fc_X6_passes_L23
    rw [eseg_ hv, bd_s, if_neg z1, hl, bd_s]
    simp only [b2_0]
    cases hlv : lvB v k with
    | false =>
      obtain ⟨u1, u2, u3⟩ := lv_n hlv
      have hy : ¬ rY v k = rY v (k + 1) := by
        unfold lvB at hlv
        simpa using hlv
      have hx : rX v k = rX v (k + 1) := Decidable.byContradiction fun q => hy (a3.mpr q)
      rw [if_pos rfl, hlv] at *
      rw [bd_s, if_pos (show b2 false = 0 by decide), l38 k rec y x hk1, u1, u2, u3]
      have e1 : min (rX v k) (rX v (k + 1)) = rX v k := by omega
      have e2 : max (rX v k) (rX v (k + 1)) = rX v k := by omega
      rw [e1, e2] at hon
      by_cases q : onB v x y k = true
      · rw [if_pos q]
        obtain ⟨⟨q1, q2⟩, q3, q4⟩ := hon.mp q
        rw [if_pos ⟨i_anti q2 q1, q3, q4⟩]
      · rw [if_neg q, if_neg (fun z => q (hon.mpr ⟨⟨by rw [z.1]; exact i_rf _, by rw [z.1]; exact i_rf _⟩, z.2.1, z.2.2⟩))]
    | true =>
      obtain ⟨u1, u2, u3⟩ := lv_y hlv
      have hy : rY v k = rY v (k + 1) := by
        unfold lvB at hlv
        simpa using hlv
      rw [if_neg (by simp), hlv] at *
      rw [bd_s, if_neg (show ¬ b2 true = 0 by decide), l38 k rec x y hk1, u1, u2, u3]
      have e1 : min (rY v k) (rY v (k + 1)) = rY v k := by omega
      have e2 : max (rY v k) (rY v (k + 1)) = rY v k := by omega
      rw [e1, e2] at hon
      by_cases q : onB v x y k = true
      · rw [if_pos q]
        obtain ⟨⟨q1, q2⟩, q3, q4⟩ := hon.mp q
        rw [if_pos ⟨i_anti q4 q3, q1, q2⟩]
      · rw [if_neg q, if_neg (fun z => q (hon.mpr ⟨⟨z.2.1, z.2.2⟩, by rw [z.1]; exact i_rf _, by rw [z.1]; exact i_rf _⟩))]
  refine lp_r (fun k => (v, x, y, I k)) _ (fstN (onB v x y) (v.2.1 - 1)) rfl (by omega) (fun k rec hk => ?_) (fun rec => ?_)
  · refine (key k _ (by omega)).trans ?_
    rw [fstN_no hk]
    rfl
  · rcases Nat.lt_or_ge (fstN (onB v x y) (v.2.1 - 1)) (v.2.1 - 1) with hm | hm
    · refine (key _ _ hm).trans ?_
      rw [fstN_at hm, if_pos rfl, decide_eq_true hm]
      rfl
    · have z1 : I ((v.2.1 - 1 : Nat) : Int) ≤ I (fstN (onB v x y) (v.2.1 - 1)) := by rw [I_le] <;> omega
      simp only [fc_X6_passes_L2_c, eseg_ hv, bd_s, z1, if_true]
      rw [decide_eq_false (by omega)]
      rfl
theorem tld_S (m : Nat) : (if (cnB v x y m || cnB v x y (m + 1)) = true then (2 : Int32) else if (onB v x y m = true ∧ tld v x y m = 0) then 1 else tld v x y m) = tld v x y (m + 1) := by
  cases m with
  | zero =>
    show _ = if (anyN (cnB v x y) 0 || cnB v x y 0 || cnB v x y (0 + 1)) = true then (2 : Int32) else if (anyN (onB v x y) 0 || onB v x y 0) = true then 1 else 0
    simp only [anyN, Bool.false_or]
    by_cases h1 : (cnB v x y 0 || cnB v x y (0 + 1)) = true
    · rw [if_pos h1, if_pos h1]
    · rw [if_neg h1, if_neg h1]
      by_cases h2 : onB v x y 0 = true
      · rw [if_pos ⟨h2, rfl⟩, if_pos h2]
      · rw [if_neg (fun z => h2 z.1), if_neg h2]; rfl
  | succ m =>
    show _ = if (anyN (cnB v x y) (m + 2) || cnB v x y (m + 1 + 1)) = true then (2 : Int32) else if (anyN (onB v x y) (m + 1) || onB v x y (m + 1)) = true then 1 else 0
    have hc : anyN (cnB v x y) (m + 2) = (anyN (cnB v x y) (m + 1) || cnB v x y (m + 1)) := rfl
    have ht : tld v x y (m + 1) = if anyN (cnB v x y) (m + 2) = true then 2 else if anyN (onB v x y) (m + 1) = true then 1 else 0 := rfl
    rw [ht]
    cases h1 : anyN (cnB v x y) (m + 2) with
    | true =>
      simp only [if_true, Bool.true_or]
      by_cases h2 : (cnB v x y (m + 1) || cnB v x y (m + 1 + 1)) = true
      · rw [if_pos h2]
      · rw [if_neg h2, if_neg (fun z => absurd z.2 (by decide))]
    | false =>
      have h0 : cnB v x y (m + 1) = false := by
        cases hz : cnB v x y (m + 1) with
        | false => rfl
        | true => rw [hc, hz, Bool.or_true] at h1; cases h1
      rw [h0]
      simp only [Bool.false_or, Bool.false_eq_true, if_false]
      cases h3 : cnB v x y (m + 1 + 1) with
      | true => simp only [if_true]
      | false =>
        simp only [Bool.false_eq_true, if_false]
        cases h4 : anyN (onB v x y) (m + 1) with
        | true =>
          simp only [if_true, Bool.true_or]
          rw [if_neg (fun z => absurd z.2 (by decide))]
        | false =>
          simp only [Bool.false_eq_true, if_false, Bool.false_or]
          by_cases h5 : onB v x y (m + 1) = true
          · rw [if_pos ⟨h5, trivial⟩, if_pos h5]
          · rw [if_neg (fun z => h5 z.1), if_neg h5]
theorem sm_isOn (hF : 1000 ≤ F) (hv : RtI v) (h : RdR F τ c v) : fm_isOn_L18 F τ F (I c) x y 0 0 = some (tld v x y (v.2.1 - 1)) := by
  have h66 := hv.2.1
  have h2 := hv.1
  have e9 : I v.2.1 - 1 = I ((v.2.1 - 1 : Nat) : Int) := by
    rw [I_1, I_sub]
    exact congrArg I (by omega)
  obtain ⟨r1, -, -, r8, rd⟩ := id h
  refine lp_r (fun k => (I c, x, y, tld v x y k, I k)) _ (v.2.1 - 1) rfl (by omega) (fun k rec hk => ?_) (fun rec => ?_)
  · have z1 : ¬ I ((v.2.1 - 1 : Nat) : Int) ≤ I k := by rw [I_le] <;> omega
    have hk1 : k + 1 < v.2.1 := by omega
    obtain ⟨lx, hx⟩ := sm_lx h hv hk1
    obtain ⟨ly, hy⟩ := sm_ly h hv hk1
    obtain ⟨cx, cy⟩ := rd k (by omega)
    obtain ⟨cx1, cy1⟩ := rd (k + 1) hk1
    have l87 : ∀ on : Bool, on = onB v x y k → fm_isOn_L87 F τ (fun a b c d e => rec (a, b, c, d, e)) (I c) x y (tld v x y k) (I k) (b2 on) = rec (I c, x, y, tld v x y (k + 1), I ((k + 1 : Nat) : Int)) := fun on hon => by
      rw [← tld_S, ← hon]
      have l142 : ∀ en : Bool, fm_isOn_L142 F τ (fun a b c d e => rec (a, b, c, d, e)) (I c) x y (tld v x y k) (I k) (b2 on) (b2 en) = rec (I c, x, y, (if en = true then (2 : Int32) else if (on = true ∧ tld v x y k = 0) then 1 else tld v x y k), I ((k + 1 : Nat) : Int)) := fun en => by
        simp only [fm_isOn_L142, fm_isOn_L167, fm_isOn_L169, b2_0, lt_r, I_S]
        cases en with
        | true => simp only [Bool.true_eq_false, if_false, if_true]
        | false =>
          simp only [if_true, Bool.false_eq_true, if_false]
          cases on with
          | false => simp only [if_true, Bool.false_eq_true, false_and, if_false]
          | true =>
            simp only [Bool.true_eq_false, if_false, true_and]
            by_cases q : tld v x y k = 0
            · rw [if_pos q, if_pos q]
            · rw [if_neg q, if_neg q]
      have l142t := l142 true
      have l142f := l142 false
      unfold cnB
      have eqc : ∀ (p q : Int32), (p = q) = (q = p) := fun p q => propext ⟨Eq.symm, Eq.symm⟩
      simp only [fm_isOn_L87, fm_isOn_L111, fm_isOn_L137, fm_isOn_L141, cx, cy, I_S, cx1, cy1, bd_s]
      rw [show (1 : Int32) = b2 true from rfl, show (0 : Int32) = b2 false from rfl] at *
      by_cases p1 : x = I (rX v k)
      · by_cases p2 : y = I (rY v k)
        · rw [if_pos p1, if_pos p2, l142t, decide_eq_true p1.symm, decide_eq_true p2.symm]; rfl
        · rw [if_pos p1, if_neg p2, decide_eq_false (show ¬ I (rY v k) = y from fun z => p2 z.symm), Bool.and_false, Bool.false_or]
          by_cases p3 : x = I (rX v (k + 1))
          · by_cases p4 : y = I (rY v (k + 1))
            · rw [if_pos p3, if_pos p4, l142t, decide_eq_true p3.symm, decide_eq_true p4.symm]; rfl
            · rw [if_pos p3, if_neg p4, l142f, decide_eq_false (show ¬ I (rY v (k + 1)) = y from fun z => p4 z.symm), Bool.and_false]
          · rw [if_neg p3, l142f, decide_eq_false (show ¬ I (rX v (k + 1)) = x from fun z => p3 z.symm), Bool.false_and]
      · rw [if_neg p1, decide_eq_false (show ¬ I (rX v k) = x from fun z => p1 z.symm), Bool.false_and, Bool.false_or]
        by_cases p3 : x = I (rX v (k + 1))
        · by_cases p4 : y = I (rY v (k + 1))
          · rw [if_pos p3, if_pos p4, l142t, decide_eq_true p3.symm, decide_eq_true p4.symm]; rfl
          · rw [if_pos p3, if_neg p4, l142f, decide_eq_false (show ¬ I (rY v (k + 1)) = y from fun z => p4 z.symm), Bool.and_false]
        · rw [if_neg p3, l142f, decide_eq_false (show ¬ I (rX v (k + 1)) = x from fun z => p3 z.symm), Bool.false_and]
    have l87f := l87 false
    have l87t := l87 true
    simp only [fm_isOn_L18_c, fm_isOn_L86, r1, bd_s, show ¬ (1 : Int32) = 0 by decide, if_false, r8, e9, z1, lx, hx, ly, hy, sm_in, b2_0]
    have hon : onB v x y k = ((decide (I (min (rX v k) (rX v (k + 1))) ≤ x) && decide (x ≤ I (max (rX v k) (rX v (k + 1))))) && (decide (I (min (rY v k) (rY v (k + 1))) ≤ y) && decide (y ≤ I (max (rY v k) (rY v (k + 1)))))) := rfl
    generalize (decide (I (min (rX v k) (rX v (k + 1))) ≤ x) && decide (x ≤ I (max (rX v k) (rX v (k + 1))))) = p at hon ⊢
    generalize (decide (I (min (rY v k) (rY v (k + 1))) ≤ y) && decide (y ≤ I (max (rY v k) (rY v (k + 1))))) = q at hon ⊢
    cases p with
    | false => rw [if_pos rfl]; exact l87f (by rw [hon]; rfl)
    | true =>
      rw [if_neg (by simp)]
      cases q with
      | false => rw [if_pos rfl]; exact l87f (by rw [hon]; rfl)
      | true => rw [if_neg (by simp)]; exact l87t (by rw [hon]; rfl)
  · have z1 : I ((v.2.1 - 1 : Nat) : Int) ≤ I ((v.2.1 - 1 : Nat) : Int) := i_rf _
    simp only [fm_isOn_L18_c, fm_isOn_L177, r1, bd_s, show ¬ (1 : Int32) = 0 by decide, if_false, r8, e9, z1, if_true]
theorem op_isOn (hF : 2000 ≤ F) (hC : Core σ τ) (z x y : Int32) : ∃ r : Int32, fc_X9_isOn F σ z x y = some r ∧ fm_isOn F τ z x y = some r := by
  unfold fc_X9_isOn fm_isOn fc_X9_isOn_L60
  rcases lk_ok (F := F) hC z with ⟨a1, a2⟩ | ⟨nl, c, h1, h2, h3, rfl, a1, a2⟩
  · rw [a1, a2]
    exact ⟨-1001, by rw [bd_s, if_pos rfl], by rw [bd_s, if_pos rfl]⟩
  · have ixc : ix (I c) 10 = true := of_eq_true (I_ix (by omega) (by omega) (by omega))
    have n6 : (I c).toNatClampNeg = c := by rw [I_cl (by omega) (by omega)]; omega
    rw [a1, a2, bd_s, bd_s, if_neg (show ¬ (1 : Int32) = 0 by decide), if_neg (show ¬ (1 : Int32) = 0 by decide), gd_t ixc, n6]
    rcases rt_get (F := F) hC h3 h1 h2 with ⟨w1, w2, w3⟩ | ⟨v, w1, w2, w3, w4⟩
    · rw [w1, mo_N]
      refine ⟨0, rfl, ?_⟩
      refine lp_r (fun _ => (I c, x, y, 0, 0)) _ 0 rfl (by omega) (fun k rec hk => absurd hk (Nat.not_lt_zero _)) (fun rec => ?_)
      simp only [fm_isOn_L18_c, fm_isOn_L177, w2, bd_s, if_true]
    · have h2v := w2.1
      rw [w1, mo_S, sc_hasC (by omega) w2, sc_passes (by omega) w2, bd_s, bd_s, sm_isOn (by omega) w2 w4]
      refine ⟨_, ?_, rfl⟩
      obtain ⟨m, hm⟩ : ∃ m, v.2.1 = m + 2 := ⟨v.2.1 - 2, by omega⟩
      rw [hm, show m + 2 - 1 = m + 1 by omega]
      show _ = some (if anyN (cnB v x y) (m + 2) = true then 2 else if anyN (onB v x y) (m + 1) = true then 1 else 0)
      cases anyN (cnB v x y) (m + 2) with
      | true => rw [if_neg (show ¬ b2 true = 0 by decide)]; rfl
      | false =>
        rw [if_pos (show b2 false = 0 by decide)]
        cases anyN (onB v x y) (m + 1) <;> rfl
end I5
