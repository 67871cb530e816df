/-! the class's history -/
def krf (cr : Nat → Option RV) (kr : Nat → Nat → Option RV) (i k : Nat) : Nat → Nat → Option RV := fun a j => if a = i ∧ j < k then cr j else kr a j
def crf (k9 cr : Nat → Option RV) (k : Nat) : Nat → Option RV := fun j => if j < k then k9 j else cr j
theorem krf_0 (cr : Nat → Option RV) (kr : Nat → Nat → Option RV) (i : Nat) : krf cr kr i 0 = kr := by
  funext a j
  unfold krf
  rw [if_neg (by omega)]
theorem krf_S (cr : Nat → Option RV) (kr : Nat → Nat → Option RV) (i k : Nat) (o : Option RV) (ho : o = cr k) : va_up (krf cr kr i k) i (va_up (krf cr kr i k i) k o) = krf cr kr i (k + 1) := by
  subst ho
  funext a j
  unfold va_up krf
  by_cases h1 : a = i
  · subst h1
    rw [if_pos rfl]
    by_cases h2 : j = k
    · subst h2
      rw [if_pos rfl, if_pos ⟨rfl, by omega⟩]
    · rw [if_neg h2]
      by_cases h3 : j < k
      · rw [if_pos ⟨rfl, h3⟩, if_pos ⟨rfl, by omega⟩]
      · rw [if_neg (by omega), if_neg (by omega)]
  · rw [if_neg h1, if_neg (by omega), if_neg (by omega)]
theorem crf_0 (k9 cr : Nat → Option RV) : crf k9 cr 0 = cr := by
  funext j
  unfold crf
  rw [if_neg (by omega)]
theorem crf_S (k9 cr : Nat → Option RV) (k : Nat) (o : Option RV) (ho : o = k9 k) : va_up (crf k9 cr k) k o = crf k9 cr (k + 1) := by
  subst ho
  funext j
  unfold va_up crf
  by_cases h2 : j = k
  · subst h2
    rw [if_pos rfl, if_pos (by omega)]
  · rw [if_neg h2]
    by_cases h3 : j < k
    · rw [if_pos h3, if_pos (by omega)]
    · rw [if_neg h3, if_neg (by omega)]
def kcpK (σ : CSt) (i : Nat) : CSt := cs_kr_s (cs_kq_s (cs_ke_s (cs_kp_s (cs_kc_s (cs_kb_s σ (va_up (cs_kb σ) i (cs_cb σ))) (va_up (cs_kc σ) i (cs_cc σ))) (va_up (cs_kp σ) i (cs_cp σ))) (va_up (cs_ke σ) i (va_cpy (cs_ce σ) (cs_ke σ i) 0 0 32))) (va_up (cs_kq σ) i (va_cpy (cs_cq σ) (cs_kq σ i) 0 0 60))) (krf (cs_cr σ) (cs_kr σ) i 10)
def kcpM (σ : CSt) (i : Nat) : CSt := cs_cr_s (cs_cq_s (cs_ce_s (cs_cp_s (cs_cc_s (cs_cb_s σ (cs_kb σ i)) (cs_kc σ i)) (cs_kp σ i)) (va_cpy (cs_ke σ i) (cs_ce σ) 0 0 32)) (va_cpy (cs_kq σ i) (cs_cq σ) 0 0 60)) (crf (cs_kr σ i) (cs_cr σ) 10)
theorem cN32 : (32 : Int32).toNatClampNeg = 32 := rfl
theorem cN60 : (60 : Int32).toNatClampNeg = 60 := rfl
theorem sc_cpK_loop {F : Nat} (hF : 2000 ≤ F) (σ : CSt) (i : Nat) : fc_X1_copyFrom_K_L62 F i F σ 0 = some (cs_kr_s σ (krf (cs_cr σ) (cs_kr σ) i 10)) := by
  refine lp_for1 (fun k => (cs_kr_s σ (krf (cs_cr σ) (cs_kr σ) i k), I k)) _ 10 (by rw [krf_0]; rfl) (by omega) (fun k rec hk => ?_) (fun rec => ?_)
  · have e0 : ¬ (10 : Int32) ≤ I k := by rw [I_10, I_le] <;> omega
    have ek : ((k : Nat) : Int).toNat = k := by omega
    simp (disch := omega) only [fc_X1_copyFrom_K_L62_c, e0, if_false, I_ix, gd_T, lt_r, I_cl, I_S, zc_cr_kr, zc_kr_kr, ek]
    cases ho : cs_cr σ k with
    | none =>
      simp only [mo]
      rw [krf_S _ _ _ _ _ ho.symm]
      rfl
    | some v =>
      simp only [mo]
      rw [krf_S _ _ _ _ _ ho.symm]
      rfl
  · have e0 : (10 : Int32) ≤ I ((10 : Nat) : Int) := by decide
    simp only [fc_X1_copyFrom_K_L62_c, e0, if_true]
theorem sc_cpM_loop {F : Nat} (hF : 2000 ≤ F) (σ : CSt) (i : Nat) : fc_X1_copyFrom_M_L62 F i F σ 0 = some (cs_cr_s σ (crf (cs_kr σ i) (cs_cr σ) 10)) := by
  refine lp_for1 (fun k => (cs_cr_s σ (crf (cs_kr σ i) (cs_cr σ) k), I k)) _ 10 (by rw [crf_0]; rfl) (by omega) (fun k rec hk => ?_) (fun rec => ?_)
  · have e0 : ¬ (10 : Int32) ≤ I k := by rw [I_10, I_le] <;> omega
    have ek : ((k : Nat) : Int).toNat = k := by omega
    simp (disch := omega) only [fc_X1_copyFrom_M_L62_c, e0, if_false, I_ix, gd_T, lt_r, I_cl, I_S, zc_kr_cr, zc_cr_cr, ek]
    cases ho : cs_kr σ i k with
    | none =>
      simp only [mo]
      rw [crf_S _ _ _ _ ho.symm]
      rfl
    | some v =>
      simp only [mo]
      rw [crf_S _ _ _ _ ho.symm]
      rfl
  · have e0 : (10 : Int32) ≤ I ((10 : Nat) : Int) := by decide
    simp only [fc_X1_copyFrom_M_L62_c, e0, if_true]
theorem sc_copyFrom_K {F : Nat} (hF : 2000 ≤ F) (σ : CSt) (i : Nat) : fc_X1_copyFrom_K F σ i = some (kcpK σ i) := by
  have e1 : cpo 0 0 32 32 32 = true := by decide
  have e2 : cpo 0 0 60 60 60 = true := by decide
  simp only [fc_X1_copyFrom_K, lt_r, e1, e2, gd_T, cN0, cN32, cN60]
  rw [sc_cpK_loop hF]
  rfl
theorem sc_copyFrom_M {F : Nat} (hF : 2000 ≤ F) (σ : CSt) (i : Nat) : fc_X1_copyFrom_M F σ i = some (kcpM σ i) := by
  have e1 : cpo 0 0 32 32 32 = true := by decide
  have e2 : cpo 0 0 60 60 60 = true := by decide
  simp only [fc_X1_copyFrom_M, lt_r, e1, e2, gd_T, cN0, cN32, cN60]
  rw [sc_cpM_loop hF]
  rfl
theorem I_div {a b : Int} (h1 : 0 ≤ a) (h2 : a < 2147483648) (h3 : 0 < b) (h4 : b < 2147483648) : I a / I b = I (a / b) := by
  have h := Int32.ofInt_tdiv (a := a) (b := b) (by rw [show Int32.minValue.toInt = -2147483648 from rfl]; omega) (by rw [show Int32.maxValue.toInt = 2147483647 from rfl]; omega) (by rw [show Int32.minValue.toInt = -2147483648 from rfl]; omega) (by rw [show Int32.maxValue.toInt = 2147483647 from rfl]; omega)
  unfold I
  rw [← h, Int.tdiv_eq_ediv_of_nonneg h1]
theorem I_mod4 (a : Nat) (h : a < 1000000) : I a - I a / 4 * 4 = I ((a % 4 : Nat) : Int) := by
  rw [I_4, I_div (by omega) (by omega) (by omega) (by omega), I_mul, I_sub]
  exact congrArg I (by omega)
theorem sc_keep {F : Nat} (hF : 2000 ≤ F) (σ : CSt) (h o : Nat) (hh : h ≤ 4) (ho : o < 4) (e1 : cs_hs σ = I h) (e2 : cs_ho σ = I o) : fc_X5_keep F σ = some (if h = 4 then kcpK (cs_ho_s σ (I ((if h = 4 then (o + 1) % 4 else o : Nat) : Int))) ((o + 4) % 4) else kcpK (cs_hs_s σ (I ((h + 1 : Nat) : Int))) ((o + h) % 4)) := by
  by_cases h4 : h = 4
  · subst h4
    have e3 : cs_hs σ = 4 := e1
    rw [if_pos rfl, if_pos rfl]
    have e5 : I o + 1 - (I o + 1) / 4 * 4 = I (((o + 1) % 4 : Nat) : Int) := by rw [I_S, I_mod4 _ (by omega)]
    have e6 : I (((o + 1) % 4 : Nat) : Int) + 4 - 1 = I (((o + 1) % 4 + 3 : Nat) : Int) := by
      rw [I_4, I_1, I_add, I_sub]
      exact congrArg I (by omega)
    have e7 : (((o + 1) % 4 + 3) % 4 : Nat) = (o + 4) % 4 := by omega
    have e8 : (((o + 4) % 4 : Nat) : Int).toNat = (o + 4) % 4 := by omega
    simp only [fc_X5_keep, e3, if_true, lt_r, fc_X5_keep_L33, zc_ho_ho, zc_hs_ho, e2, e5]
    rw [e6, I_mod4 _ (by omega), e7]
    simp (disch := omega) only [I_ix, gd_T, I_cl, e8]
    rw [sc_copyFrom_K hF]
    rfl
  · have e3 : ¬ I h = 4 := by rw [I_4, I_eq] <;> omega
    rw [if_neg h4]
    have e6 : I o + I ((h + 1 : Nat) : Int) - 1 = I ((o + h : Nat) : Int) := by
      rw [I_1, I_add, I_sub]
      exact congrArg I (by omega)
    have e9 : (ix (I (((o + h) % 4 : Nat) : Int)) 4 = true) = True := I_ix (by omega) (by omega) (by omega)
    have e10 : (I (((o + h) % 4 : Nat) : Int)).toNatClampNeg = (o + h) % 4 := by rw [I_cl (by omega) (by omega)]; omega
    simp only [fc_X5_keep, e3, if_false, lt_r, fc_X5_keep_L33, zc_ho_hs, zc_hs_hs, e2, e1, I_S]
    rw [e6, I_mod4 _ (by omega)]
    simp only [e9, gd_T, e10]
    rw [sc_copyFrom_K hF]
    rfl
theorem sc_restore {F : Nat} (hF : 2000 ≤ F) (σ : CSt) (h o : Nat) (hh : h < 4) (ho : o < 4) (e1 : cs_hs σ = I ((h + 1 : Nat) : Int)) (e2 : cs_ho σ = I o) : fc_X5_restore F σ = some (kcpM (cs_hs_s σ (I h)) ((o + h) % 4)) := by
  have e5 : I ((h + 1 : Nat) : Int) - 1 = I h := by
    rw [I_1, I_sub]
    exact congrArg I (by omega)
  have e6 : I o + I h = I ((o + h : Nat) : Int) := by rw [I_add]; rfl
  have e8 : (((o + h) % 4 : Nat) : Int).toNat = (o + h) % 4 := by omega
  simp only [fc_X5_restore, lt_r, e1, e5, zc_ho_hs, zc_hs_hs, e2]
  rw [e6, I_mod4 _ (by omega)]
  simp (disch := omega) only [I_ix, gd_T, I_cl, e8]
  rw [sc_copyFrom_M hF]
  rfl
