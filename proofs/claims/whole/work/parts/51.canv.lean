/-! the canvas: the reference's block of numbers and the class's rows -/
def RtC (g : Nat → Int32) : Option RV → Prop
  | none => g 6 = 0
  | some v => g 6 = 1 ∧ g 7 = v.1 ∧ v.2.1 ≤ 80 ∧ g 8 = I v.2.1 ∧ ∀ k, k < v.2.1 → g (9 + 2 * k) = v.2.2.1 k ∧ g (10 + 2 * k) = v.2.2.2 k
def Cpl (f : Nat → Int32) (nb nl : Nat) (cp : Int32) (E Q : Nat → Int32) (R : Nat → Option RV) : Prop :=
  nb ≤ 8 ∧ nl ≤ 10 ∧ f 0 = I nb ∧ f 1 = I nl ∧ f 2 = cp ∧ (∀ j, j < 32 → f (3 + j) = E j) ∧ (∀ c, c < 10 → ∀ j, j < 6 → f (35 + 169 * c + j) = Q (6 * c + j)) ∧ ∀ c, c < nl → RtC (fun j => f (35 + 169 * c + j)) (R c)
theorem sm_in (F : Nat) (x a b : Int32) : fm_in F x a b = some (b2 (decide (a ≤ x) && decide (x ≤ b))) := by
  simp only [fm_in_L15, fm_in_L14, fm_in, eq_self, true_or, or_true, gd_T]
  grind [b2]
theorem sc_isWithin (F : Nat) (σ : CSt) (x a b : Int32) : fc_X9_isWithin F σ x a b = some (b2 (decide (a ≤ x) && decide (x ≤ b))) := by
  simp only [fc_X9_isWithin_L15, fc_X9_isWithin_L14, fc_X9_isWithin, eq_self, true_or, or_true, gd_T]
  grind [b2]
def rgB (a b : Int32) : Bool := decide (2 ≤ a) && decide (a < b) && decide (b ≤ 97)
theorem sm_isRange (F : Nat) (a b : Int32) : fm_isRange F a b = some (b2 (rgB a b)) := by
  simp only [fm_isRange_L21, fm_isRange_L20, fm_isRange, eq_self, true_or, or_true, gd_T]
  grind [b2, rgB]
theorem sc_isSound (F : Nat) (σ : CSt) (x1 y1 x2 y2 : Int32) : fc_X1_isSound F σ x1 y1 x2 y2 = some (b2 (rgB x1 x2 && rgB y1 y2)) := by
  simp only [fc_X1_isSound_L37, fc_X1_isSound_L36, fc_X1_isSound, eq_self, true_or, or_true, gd_T]
  grind [b2, rgB]
def apB (E : Nat → Int32) (x1 y1 x2 y2 : Int32) (k : Nat) : Bool := decide (E (4 * k + 2) + 2 ≤ x1) || decide (x2 + 2 ≤ E (4 * k)) || decide (E (4 * k + 3) + 2 ≤ y1) || decide (y2 + 2 ≤ E (4 * k + 1))
def nrB (E : Nat → Int32) (x1 y1 x2 y2 but : Int32) (k : Nat) : Bool := !(decide (I k = but)) && !apB E x1 y1 x2 y2 k
section M1
variable {F : Nat} {τ : MS} {nb nl : Nat} {cp : Int32} {E Q : Nat → Int32} {R : Nat → Option RV}
theorem sm_isBox (h : Cpl (ms_row τ) nb nl cp E Q R) (x : Int32) : fm_isBox F τ x = some (b2 (decide (0 ≤ x) && decide (x < I nb))) := by
  obtain ⟨h1, h2, h3, h4, h5, h6, h7, h8⟩ := h
  have e : (x ≤ I nb - 1) ↔ (x < I nb) := by
    rw [I_1, I_sub, Int32.le_iff_toInt_le, Int32.lt_iff_toInt_lt, I_toInt (by omega) (by omega), I_toInt (by omega) (by omega)]
    omega
  simp only [fm_isBox, ixz (n := 8625) (by decide), gd_T, cN0, h3, sm_in, bd_s, gd_b, e]
theorem sm_isLink (h : Cpl (ms_row τ) nb nl cp E Q R) (x : Int32) : fm_isLink F τ x = some (b2 (decide (0 ≤ x) && decide (x < I nl))) := by
  obtain ⟨h1, h2, h3, h4, h5, h6, h7, h8⟩ := h
  have e : (x ≤ I nl - 1) ↔ (x < I nl) := by
    rw [I_1, I_sub, Int32.le_iff_toInt_le, Int32.lt_iff_toInt_lt, I_toInt (by omega) (by omega), I_toInt (by omega) (by omega)]
    omega
  simp only [fm_isLink, ix1_ (n := 8625) (by decide), gd_T, cN1, h4, sm_in, bd_s, gd_b, e]
theorem sm_side (h : Cpl (ms_row τ) nb nl cp E Q R) (k j : Nat) (hk : k < 8) (hj : j < 4) : fm_side F τ (I k) (I j) = some (E (4 * k + j)) := by
  obtain ⟨h1, h2, h3, h4, h5, h6, h7, h8⟩ := h
  simp (disch := omega) only [fm_side, I_3, I_4, I_mul, I_add, I_ix, I_cl, gd_T]
  rw [← h6 (4 * k + j) (by omega)]
  congr 2
  omega
theorem sm_of (c j : Nat) (hc : c < 10) (hj : j < 169) : fm_of F τ (I c) (I j) = some (ms_row τ (35 + 169 * c + j)) := by
  simp (disch := omega) only [fm_of, I_35, I_169, I_mul, I_add, I_ix, I_cl, gd_T]
  congr 2
theorem sm_isNear (hF : 100 ≤ F) (h : Cpl (ms_row τ) nb nl cp E Q R) (x1 x2 x3 x4 x5 : Int32) : fm_isNear F τ x1 x2 x3 x4 x5 = some (b2 (anyN (nrB E x1 x2 x3 x4 x5) nb)) := by
  have hnb := h.1
  have h0 := h.2.2.1
  refine lp_for0 (fun k => (x1, x2, x3, x4, x5, b2 (anyN (nrB E x1 x2 x3 x4 x5) k), I k)) _ nb (by omega) (fun k rec hk => ?_) (fun rec => ?_)
  · have hs0 : fm_side F τ (I k) 0 = _ := sm_side h k 0 (by omega) (by omega)
    have hs1 : fm_side F τ (I k) 1 = _ := sm_side h k 1 (by omega) (by omega)
    have hs2 : fm_side F τ (I k) 2 = _ := sm_side h k 2 (by omega) (by omega)
    have hs3 : fm_side F τ (I k) 3 = _ := sm_side h k 3 (by omega) (by omega)
    have e2 : ¬ (I nb ≤ I k) := by rw [I_le] <;> omega
    simp only [fm_isNear_L99, fm_isNear_L98, fm_isNear_L94, fm_isNear_L75, fm_isNear_L70, fm_isNear_L6_c, fm_isNear, ixz (n := 8625) (by decide), gd_T, cN0, h0, e2, if_false, hs0, hs1, hs2, hs3, bd_s, lt_r, I_S, anyN, nrB, apB]
    generalize anyN _ _ = r
    generalize I ((k + 1 : Nat) : Int) = k1
    clear hs0 hs1 hs2 hs3 h h0
    cases r <;> grind [b2]
  · have e2 : (I nb ≤ I nb) := by rw [I_le] <;> omega
    simp only [fm_isNear_L99, fm_isNear_L98, fm_isNear_L94, fm_isNear_L75, fm_isNear_L70, fm_isNear_L6_c, fm_isNear, ixz (n := 8625) (by decide), gd_T, cN0, h0, e2, if_true, gd_b]
theorem sm_lays (k : Nat) (hk : k < 8) (a b c d : Int32) : fm_lays F τ (I k) a b c d = some (ms_row_s τ (upd (upd (upd (upd (ms_row τ) (3 + 4 * k) a) (3 + 4 * k + 1) b) (3 + 4 * k + 2) c) (3 + 4 * k + 3) d)) := by
  simp (disch := omega) only [fm_lays, I_3, I_4, I_1, I_2, I_mul, I_add, I_ix, I_cl, gd_T, lt_r, st_row]
  have e0 : ((3 : Int) + 4 * (k : Int)).toNat = 3 + 4 * k := by omega
  have e1 : ((3 : Int) + 4 * (k : Int) + 1).toNat = 3 + 4 * k + 1 := by omega
  have e2 : ((3 : Int) + 4 * (k : Int) + 2).toNat = 3 + 4 * k + 2 := by omega
  have e3 : ((3 : Int) + 4 * (k : Int) + 3).toNat = 3 + 4 * k + 3 := by omega
  rw [e0, e1, e2, e3]
  rfl
end M1
section C1
variable {F : Nat} {σ : CSt} {nb nl : Nat}
theorem sc_hasBox (h : cs_cb σ = I nb) (x : Int32) : fc_X1_hasBox F σ x = some (b2 (decide (0 ≤ x) && decide (x < I nb))) := by
  simp only [fc_X1_hasBox_L17, fc_X1_hasBox_L16, fc_X1_hasBox, eq_self, true_or, or_true, gd_T, h]
  generalize I nb = n
  clear h
  grind [b2]
theorem sc_hasConnector (h : cs_cc σ = I nl) (x : Int32) : fc_X1_hasConnector F σ x = some (b2 (decide (0 ≤ x) && decide (x < I nl))) := by
  simp only [fc_X1_hasConnector_L17, fc_X1_hasConnector_L16, fc_X1_hasConnector, eq_self, true_or, or_true, gd_T, h]
  generalize I nl = n
  clear h
  grind [b2]
theorem sc_edge (k j : Nat) (hk : k < 8) (hj : j < 4) : fc_X1_edge F σ (I k) (I j) = some (cs_ce σ (4 * k + j)) := by
  simp (disch := omega) only [fc_X1_edge, I_4, I_mul, I_add, I_ix, I_cl, gd_T]
  congr 2
theorem sc_isTooNear (hF : 100 ≤ F) (h0 : cs_cb σ = I nb) (hnb : nb ≤ 8) (x1 x2 x3 x4 x5 : Int32) : fc_X1_isTooNear F σ x1 x2 x3 x4 x5 = some (b2 (anyN (nrB (cs_ce σ) x2 x3 x4 x5 x1) nb)) := by
  have hle := fstN_le (p := nrB (cs_ce σ) x2 x3 x4 x5 x1) (n := nb)
  rw [anyN_fst]
  refine lp_for0 (fun k => (x1, x2, x3, x4, x5, I k)) _ (fstN (nrB (cs_ce σ) x2 x3 x4 x5 x1) nb) (by omega) (fun k rec hk => ?_) (fun rec => ?_)
  · have hs0 : fc_X1_edge F σ (I k) 0 = _ := sc_edge k 0 (by omega) (by omega)
    have hs1 : fc_X1_edge F σ (I k) 1 = _ := sc_edge k 1 (by omega) (by omega)
    have hs2 : fc_X1_edge F σ (I k) 2 = _ := sc_edge k 2 (by omega) (by omega)
    have hs3 : fc_X1_edge F σ (I k) 3 = _ := sc_edge k 3 (by omega) (by omega)
    have e2 : ¬ (I nb ≤ I k) := by rw [I_le] <;> omega
    have hp := fstN_no hk
    simp only [fc_X1_isTooNear_L86, fc_X1_isTooNear_L71, fc_X1_isTooNear_L66, fc_X1_isTooNear_L3_c, fc_X1_isTooNear, h0, e2, if_false, hs0, hs1, hs2, hs3, bd_s, lt_r, I_S]
    simp only [nrB, apB] at hp
    generalize I ((k + 1 : Nat) : Int) = k1
    generalize cs_ce σ = E at hp ⊢
    clear hs0 hs1 hs2 hs3 h0 hk hle
    grind
  · rcases Nat.lt_or_ge (fstN (nrB (cs_ce σ) x2 x3 x4 x5 x1) nb) nb with hm | hm
    · have hp := fstN_at hm
      generalize hk : fstN (nrB (cs_ce σ) x2 x3 x4 x5 x1) nb = k at hm hp ⊢
      have hs0 : fc_X1_edge F σ (I k) 0 = _ := sc_edge k 0 (by omega) (by omega)
      have hs1 : fc_X1_edge F σ (I k) 1 = _ := sc_edge k 1 (by omega) (by omega)
      have hs2 : fc_X1_edge F σ (I k) 2 = _ := sc_edge k 2 (by omega) (by omega)
      have hs3 : fc_X1_edge F σ (I k) 3 = _ := sc_edge k 3 (by omega) (by omega)
      have e2 : ¬ (I nb ≤ I k) := by rw [I_le] <;> omega
      simp only [fc_X1_isTooNear_L86, fc_X1_isTooNear_L71, fc_X1_isTooNear_L66, fc_X1_isTooNear_L3_c, fc_X1_isTooNear, h0, e2, if_false, hs0, hs1, hs2, hs3, bd_s, lt_r, I_S]
      simp only [nrB, apB] at hp
      generalize I ((k + 1 : Nat) : Int) = k1
      generalize cs_ce σ = E at hp ⊢
      clear hs0 hs1 hs2 hs3 h0 hk hle
      grind [b2]
    · rw [show fstN (nrB (cs_ce σ) x2 x3 x4 x5 x1) nb = nb by omega]
      have e2 : (I nb ≤ I nb) := by rw [I_le] <;> omega
      simp only [fc_X1_isTooNear_L86, fc_X1_isTooNear_L71, fc_X1_isTooNear_L66, fc_X1_isTooNear_L3_c, fc_X1_isTooNear, h0, e2, if_true]
      simp [b2]
theorem sc_putBox (k : Nat) (hk : k < 8) (a b c d : Int32) : fc_X1_putBox F σ (I k) a b c d = some (cs_ce_s σ (upd (upd (upd (upd (cs_ce σ) (4 * k) a) (4 * k + 1) b) (4 * k + 2) c) (4 * k + 3) d)) := by
  simp (disch := omega) only [fc_X1_putBox, I_0, I_3, I_4, I_1, I_2, I_mul, I_add, I_ix, I_cl, gd_T, lt_r, sc_ce]
  have e0 : ((4 : Int) * (k : Int) + 0).toNat = 4 * k := by omega
  have e1 : ((4 : Int) * (k : Int) + 1).toNat = 4 * k + 1 := by omega
  have e2 : ((4 : Int) * (k : Int) + 2).toNat = 4 * k + 2 := by omega
  have e3 : ((4 : Int) * (k : Int) + 3).toNat = 4 * k + 3 := by omega
  rw [e0, e1, e2, e3]
  rfl
end C1
