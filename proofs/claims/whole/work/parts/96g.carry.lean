/-! one command carried out -/
section U4
variable {F : Nat} {σ σ' : CSt} {τ τ' : MS} {w : Nat}
def cst (w : Nat) : Nat := if w = 0 then 9 else if w = 1 then 11 else if w = 2 then 7 else if w = 3 then 6 else if w = 4 then 9 else 4
theorem cnt_le (b : Nat → Bool) : ∀ m, cntN b m ≤ m
  | 0 => Nat.le_refl _
  | m + 1 => by
    have := cnt_le b m
    show cntN b m + (if b m then 1 else 0) ≤ m + 1
    cases b m <;> simp <;> omega
theorem stl_10 (h : Core σ τ) : stl σ ≤ 10 := by
  obtain ⟨nb, nl, h1, h2, h3, h4, -⟩ := h.num
  exact Nat.le_trans (stl_le h4 (by omega)) h2
theorem ggh_r (h : ggh σ' = ggh σ) : GhR σ σ' 0 0 := by
  have e1 : cs_nc σ' = cs_nc σ := by
    show (ggh σ').1 = (ggh σ).1
    rw [h]
  have e2 : cs_ns σ' = cs_ns σ := by
    show (ggh σ').2 = (ggh σ).2
    rw [h]
  unfold GhR
  omega
def Cry (σ σ' : CSt) (τ τ' : MS) (w : Nat) : Prop := Core σ' τ' ∧ Kp σ σ' ∧ Km τ τ' ∧ ∃ a, GhR σ σ' (3 * a) (135 * a) ∧ 13 * a + 9 * stl σ' ≤ 9 * stl σ + 10 * cst w
theorem cry_o {m : Nat} (h : OpR σ σ' τ τ') (hs : 9 * stl σ' ≤ 9 * stl σ + 10 * cst w) : Cry σ σ' τ τ' w := ⟨h.1, h.2.1, h.2.2.1, 0, ggh_r h.2.2.2, by omega⟩
theorem cry_g {m : Nat} (h : RtG σ σ' τ τ' m) (hs : 4 * m ≤ 10 * cst w) : Cry σ σ' τ τ' w := by
  obtain ⟨h1, h2, h3, a, h4, h5, h6⟩ := h
  exact ⟨h1, h2, h3, a, h6, by omega⟩
theorem cfin_r {x2 : Int32} (hf : ms_fine τ = 1) : cFin F τ 1 x2 = (if x2 = 1 then (gd (ix 0 6 = true) (gd (ix 1 6 = true) (gd (ix 2 6 = true) (gd (ix 3 6 = true) (bd2 (fm_addBox F τ (ms_number τ 0) (ms_number τ 1) (ms_number τ 2) (ms_number τ 3)) (fun r153 σ153 => some (r153, σ153))))))) else if x2 = 2 then (gd (ix 0 6 = true) (gd (ix 1 6 = true) (gd (ix 2 6 = true) (gd (ix 3 6 = true) (gd (ix 4 6 = true) (gd (ix 5 6 = true) (bd2 (fm_link F τ (ms_number τ 0) (ms_number τ 1) (ms_number τ 2) (ms_number τ 3) (ms_number τ 4) (ms_number τ 5)) (fun r194 σ194 => some (r194, σ194))))))))) else if x2 = 3 then (gd (ix 0 6 = true) (bd2 (fm_route F τ (ms_number τ 0)) (fun r205 σ205 => some (r205, σ205)))) else if x2 = 4 then (gd (ix 0 6 = true) (bd2 (fm_drop F τ (ms_number τ 0)) (fun r216 σ216 => some (r216, σ216)))) else if x2 = 5 then (gd (ix 0 6 = true) (bd2 (fm_setPenalty F τ (ms_number τ 0)) (fun r227 σ227 => some (r227, σ227)))) else (bd2 (fm_routeAll F τ) (fun r232 σ232 => some (r232, σ232)))) := by
  unfold cFin fm_command_L56_c
  rw [if_pos (show (0 : Int32) ≤ 0 from i_rf _), if_neg (show ¬ ms_fine τ = 0 by rw [hf]; decide), if_neg (show ¬ (1 : Int32) = 0 by decide)]
  rfl
theorem car_c {x1 : Int32} : fc_X9_carryOut_44 F σ x1 = (if x1 = 0 then (gd (ix 0 6 = true) (gd (ix 1 6 = true) (gd (ix 2 6 = true) (gd (ix 3 6 = true) (bd2 (fc_X9_addBox F σ (cs_tn σ 0) (cs_tn σ 1) (cs_tn σ 2) (cs_tn σ 3)) (fun r49 σ49 => some (r49, σ49))))))) else if x1 = 1 then (gd (ix 0 6 = true) (gd (ix 1 6 = true) (gd (ix 2 6 = true) (gd (ix 3 6 = true) (gd (ix 4 6 = true) (gd (ix 5 6 = true) (bd2 (fc_X9_link F σ (cs_tn σ 0) (cs_tn σ 1) (cs_tn σ 2) (cs_tn σ 3) (cs_tn σ 4) (cs_tn σ 5)) (fun r72 σ72 => some (r72, σ72))))))))) else if x1 = 2 then (gd (ix 0 6 = true) (bd2 (fc_X9_route F σ (cs_tn σ 0)) (fun r80 σ80 => some (r80, σ80)))) else if x1 = 3 then (gd (ix 0 6 = true) (bd2 (fc_X9_drop F σ (cs_tn σ 0)) (fun r88 σ88 => some (r88, σ88)))) else if x1 = 4 then (gd (ix 0 6 = true) (bd2 (fc_X9_setPenalty F σ (cs_tn σ 0)) (fun r96 σ96 => some (r96, σ96)))) else (bd2 (fc_X9_routeAll F σ) (fun r101 σ101 => some (r101, σ101)))) := rfl
theorem carry (hF : 1000000000000 ≤ F) (hC : Core σ τ) (hr : RunOk σ τ) (h17 : G17 σ) (hw : w < 6) (hn : ∀ j, j < aW w → cs_tn σ j = ms_number τ j) (hf : ms_fine τ = 1) : ∃ (r : Int32) (σ' : CSt) (τ' : MS), fc_X9_carryOut_44 F σ (I w) = some (r, σ') ∧ cFin F τ 1 (I ((w + 1 : Nat) : Int)) = some (r, τ') ∧ Cry σ σ' τ τ' w := by
  have i0 : ix 0 6 = true := by decide
  have i1 : ix 1 6 = true := by decide
  have i2 : ix 2 6 = true := by decide
  have i3 : ix 3 6 = true := by decide
  have i4 : ix 4 6 = true := by decide
  have i5 : ix 5 6 = true := by decide
  rw [car_c, cfin_r hf]
  rcases j6 hw with rfl | rfl | rfl | rfl | rfl | rfl
  · obtain ⟨r, σ', τ', b1, b2, b3⟩ := op_addBox (F := F) (by omega) hC hr (cs_tn σ 0) (cs_tn σ 1) (cs_tn σ 2) (cs_tn σ 3)
    rw [hn 0 (by decide), hn 1 (by decide), hn 2 (by decide), hn 3 (by decide)] at b2
    refine ⟨r, σ', τ', ?_, ?_, cry_o (m := 0) b3 (by have := stl_10 b3.1; show _ ≤ _ + 10 * 9; omega)⟩
    · rw [if_pos (show I ((0 : Nat) : Int) = 0 from rfl), gd_t i0, gd_t i1, gd_t i2, gd_t i3, b1, bd2_s]
    · rw [if_pos (show I ((0 + 1 : Nat) : Int) = 1 from rfl), gd_t i0, gd_t i1, gd_t i2, gd_t i3, b2, bd2_s]
  · obtain ⟨r, σ', τ', b1, b2, b3, b4⟩ := op_link (F := F) (by omega) hC hr (cs_tn σ 0) (cs_tn σ 1) (cs_tn σ 2) (cs_tn σ 3) (cs_tn σ 4) (cs_tn σ 5)
    rw [hn 0 (by decide), hn 1 (by decide), hn 2 (by decide), hn 3 (by decide), hn 4 (by decide), hn 5 (by decide)] at b2
    refine ⟨r, σ', τ', ?_, ?_, cry_o (m := 0) b3 (by show _ ≤ _ + 10 * 11; omega)⟩
    · rw [if_neg (show ¬ I ((1 : Nat) : Int) = 0 by decide), if_pos (show I ((1 : Nat) : Int) = 1 from rfl), gd_t i0, gd_t i1, gd_t i2, gd_t i3, gd_t i4, gd_t i5, b1, bd2_s]
    · rw [if_neg (show ¬ I ((1 + 1 : Nat) : Int) = 1 by decide), if_pos (show I ((1 + 1 : Nat) : Int) = 2 from rfl), gd_t i0, gd_t i1, gd_t i2, gd_t i3, gd_t i4, gd_t i5, b2, bd2_s]
  · obtain ⟨r, σ', τ', b1, b2, b3⟩ := op_route hF hC hr h17 (cs_tn σ 0)
    rw [hn 0 (by decide)] at b2
    refine ⟨r, σ', τ', ?_, ?_, cry_g b3 (by decide)⟩
    · rw [if_neg (show ¬ I ((2 : Nat) : Int) = 0 by decide), if_neg (show ¬ I ((2 : Nat) : Int) = 1 by decide), if_pos (show I ((2 : Nat) : Int) = 2 from rfl), gd_t i0, b1, bd2_s]
    · rw [if_neg (show ¬ I ((2 + 1 : Nat) : Int) = 1 by decide), if_neg (show ¬ I ((2 + 1 : Nat) : Int) = 2 by decide), if_pos (show I ((2 + 1 : Nat) : Int) = 3 from rfl), gd_t i0, b2, bd2_s]
  · obtain ⟨r, σ', τ', b1, b2, b3, b4⟩ := op_drop (F := F) (by omega) hC hr (cs_tn σ 0)
    rw [hn 0 (by decide)] at b2
    refine ⟨r, σ', τ', ?_, ?_, cry_o (m := 0) b3 (by show _ ≤ _ + 10 * 6; omega)⟩
    · rw [if_neg (show ¬ I ((3 : Nat) : Int) = 0 by decide), if_neg (show ¬ I ((3 : Nat) : Int) = 1 by decide), if_neg (show ¬ I ((3 : Nat) : Int) = 2 by decide), if_pos (show I ((3 : Nat) : Int) = 3 from rfl), gd_t i0, b1, bd2_s]
    · rw [if_neg (show ¬ I ((3 + 1 : Nat) : Int) = 1 by decide), if_neg (show ¬ I ((3 + 1 : Nat) : Int) = 2 by decide), if_neg (show ¬ I ((3 + 1 : Nat) : Int) = 3 by decide), if_pos (show I ((3 + 1 : Nat) : Int) = 4 from rfl), gd_t i0, b2, bd2_s]
  · obtain ⟨r, σ', τ', b1, b2, b3⟩ := op_penalty (F := F) (by omega) hC hr (cs_tn σ 0)
    rw [hn 0 (by decide)] at b2
    refine ⟨r, σ', τ', ?_, ?_, cry_o (m := 0) b3 (by have := stl_10 b3.1; show _ ≤ _ + 10 * 9; omega)⟩
    · rw [if_neg (show ¬ I ((4 : Nat) : Int) = 0 by decide), if_neg (show ¬ I ((4 : Nat) : Int) = 1 by decide), if_neg (show ¬ I ((4 : Nat) : Int) = 2 by decide), if_neg (show ¬ I ((4 : Nat) : Int) = 3 by decide), if_pos (show I ((4 : Nat) : Int) = 4 from rfl), gd_t i0, b1, bd2_s]
    · rw [if_neg (show ¬ I ((4 + 1 : Nat) : Int) = 1 by decide), if_neg (show ¬ I ((4 + 1 : Nat) : Int) = 2 by decide), if_neg (show ¬ I ((4 + 1 : Nat) : Int) = 3 by decide), if_neg (show ¬ I ((4 + 1 : Nat) : Int) = 4 by decide), if_pos (show I ((4 + 1 : Nat) : Int) = 5 from rfl), gd_t i0, b2, bd2_s]
  · obtain ⟨r, σ', τ', b1, b2, b3⟩ := op_all hF hC hr h17
    refine ⟨r, σ', τ', ?_, ?_, cry_g b3 (by decide)⟩
    · rw [if_neg (show ¬ I ((5 : Nat) : Int) = 0 by decide), if_neg (show ¬ I ((5 : Nat) : Int) = 1 by decide), if_neg (show ¬ I ((5 : Nat) : Int) = 2 by decide), if_neg (show ¬ I ((5 : Nat) : Int) = 3 by decide), if_neg (show ¬ I ((5 : Nat) : Int) = 4 by decide), b1, bd2_s]
    · rw [if_neg (show ¬ I ((5 + 1 : Nat) : Int) = 1 by decide), if_neg (show ¬ I ((5 + 1 : Nat) : Int) = 2 by decide), if_neg (show ¬ I ((5 + 1 : Nat) : Int) = 3 by decide), if_neg (show ¬ I ((5 + 1 : Nat) : Int) = 4 by decide), if_neg (show ¬ I ((5 + 1 : Nat) : Int) = 5 by decide), b2, bd2_s]
end U4
