/-! link, drop -/
section K3
variable {F : Nat} {σ : CSt} {τ : MS}
def ptB (E : Nat → Int32) (k : Nat) (s o : Int32) : Bool := decide (0 ≤ s) && decide (s ≤ 3) && decide (0 ≤ o) && decide (o ≤ if (s &&& 1) = 0 then E (4 * k + 2) - E (4 * k) else E (4 * k + 3) - E (4 * k + 1))
theorem sc_hasPort (k : Nat) (hk : k < 8) (s o : Int32) : fc_X1_hasPort F σ (I k) s o = some (b2 (ptB (cs_ce σ) k s o)) := by
  have s0 : fc_X1_edge F σ (I k) 0 = _ := sc_edge k 0 (by omega) (by omega)
  have s1 : fc_X1_edge F σ (I k) 1 = _ := sc_edge k 1 (by omega) (by omega)
  have s2 : fc_X1_edge F σ (I k) 2 = _ := sc_edge k 2 (by omega) (by omega)
  have s3 : fc_X1_edge F σ (I k) 3 = _ := sc_edge k 3 (by omega) (by omega)
  have n0 : ¬ (0 : Int32) = 1 := by decide
  have n1 : ¬ (1 : Int32) = 0 := by decide
  have l1 : (4 ≤ s) ↔ ¬ (s ≤ 3) := by
    rw [Int32.le_iff_toInt_le, Int32.le_iff_toInt_le]
    show (4 : Int) ≤ _ ↔ ¬ (_ ≤ (3 : Int))
    omega
  have l2 : (s < 0) ↔ ¬ (0 ≤ s) := by
    rw [Int32.le_iff_toInt_le, Int32.lt_iff_toInt_lt]
    show _ < (0 : Int) ↔ ¬ ((0 : Int) ≤ _)
    omega
  simp only [fc_X1_hasPort, fc_X1_hasPort_L13, fc_X1_hasPort_L51, fc_X1_hasPort_L64, fc_X3_isUpright, fc_X3_isUpright_L11, eq_self, true_or, or_true, gd_T, bd_s, s0, s1, s2, s3, Nat.add_zero]
  unfold ptB
  by_cases c1 : s < 0
  · rw [if_pos c1, decide_eq_false (l2.mp c1)]; rfl
  · have c1' : 0 ≤ s := by
      rcases Decidable.em (0 ≤ s) with q | q
      · exact q
      · exact absurd (l2.mpr q) c1
    rw [if_neg c1, decide_eq_true c1']
    by_cases c2 : 4 ≤ s
    · rw [if_pos c2, decide_eq_false (l1.mp c2)]; rfl
    · have c2' : s ≤ 3 := by
        rcases Decidable.em (s ≤ 3) with q | q
        · exact q
        · exact absurd (l1.mpr q) c2
      rw [if_neg c2, decide_eq_true c2']
      by_cases c3 : 0 ≤ o
      · rw [if_pos c3, decide_eq_true c3]
        have l3 : ∀ x : Int32, (x < o) ↔ ¬ (o ≤ x) := fun x => by
          rw [Int32.le_iff_toInt_le, Int32.lt_iff_toInt_lt]
          omega
        have fin : ∀ x : Int32, (if x < o then (some 0 : Option Int32) else some 1) = some (b2 (true && true && true && decide (o ≤ x))) := fun x => by
          by_cases c4 : o ≤ x
          · rw [if_neg (fun q => (l3 x).mp q c4), decide_eq_true c4]; rfl
          · rw [if_pos ((l3 x).mpr c4), decide_eq_false c4]; rfl
        by_cases c5 : s &&& 1 = 0
        · simp only [c5, if_true, bd_s, n1, if_false]
          exact fin _
        · simp only [c5, if_false, bd_s, if_true]
          exact fin _
      · rw [if_neg c3, decide_eq_false c3]; rfl
theorem sm_isPort {nb nl : Nat} {cp : Int32} {E Q : Nat → Int32} {R : Nat → Option RV} (hP : Cpl (ms_row τ) nb nl cp E Q R) (k : Nat) (hk : k < 8) (s o : Int32) : fm_isPort F τ (I k) s o = some (b2 (ptB E k s o)) := by
  have s0 : fm_side F τ (I k) 0 = _ := sm_side hP k 0 (by omega) (by omega)
  have s1 : fm_side F τ (I k) 1 = _ := sm_side hP k 1 (by omega) (by omega)
  have s2 : fm_side F τ (I k) 2 = _ := sm_side hP k 2 (by omega) (by omega)
  have s3 : fm_side F τ (I k) 3 = _ := sm_side hP k 3 (by omega) (by omega)
  have l35 : ∀ x : Int32, fm_isPort_L35 F τ s o x = some (b2 (decide (0 ≤ s) && decide (s ≤ 3) && decide (0 ≤ o) && decide (o ≤ x))) := fun x => by
    simp only [fm_isPort_L35, fm_isPort_L60, fm_isPort_L61, sm_in, bd_s, b2_0, eq_self, true_or, or_true, gd_T]
    rw [Bool.and_assoc (decide (0 ≤ s) && decide (s ≤ 3))]
    cases (decide (0 ≤ s) && decide (s ≤ 3)) <;> cases (decide (0 ≤ o) && decide (o ≤ x)) <;> rfl
  unfold fm_isPort
  rw [s0, s1, s2, s3, bd_s, bd_s, bd_s, bd_s, l35, l35]
  unfold ptB
  cases h1 : decide (0 ≤ s) with
  | false => simp only [Bool.false_and]; split <;> rfl
  | true =>
    cases h2 : decide (s ≤ 3) with
    | false => simp only [Bool.true_and, Bool.false_and]; split <;> rfl
    | true =>
      have hq : (decide (I 0 ≤ s) && decide (s ≤ I 3)) = true := by
        show (decide (0 ≤ s) && decide (s ≤ 3)) = true
        rw [h1, h2]; rfl
      obtain ⟨e1, e2, e3⟩ := in_num (a := 0) (b := 3) (by omega) (by omega) (by omega) (by omega) hq
      have e4 : s.toInt = 0 ∨ s.toInt = 1 ∨ s.toInt = 2 ∨ s.toInt = 3 := by omega
      have key : (s - s / 2 * 2 = 0) ↔ (s &&& 1 = 0) := by
        rcases e4 with q | q | q | q <;> rw [e1, q] <;> decide
      by_cases c : s &&& 1 = 0
      · rw [if_pos (key.mpr c), if_pos c] <;> rfl
      · rw [if_neg (fun z => c (key.mp z)), if_neg c] <;> rfl
theorem ptB_ok {E : Nat → Int32} {nb k : Nat} {s o : Int32} {Q : Nat → Int32} {p : Nat} (hk : k < nb) (h : ptB E k s o = true) (q0 : Q p = I k) (q1 : Q (p + 1) = s) (q2 : Q (p + 2) = o) : PortOk nb E Q p := by
  unfold ptB at h
  simp only [Bool.and_eq_true, decide_eq_true_eq] at h
  obtain ⟨⟨⟨h1, h2⟩, h3⟩, h4⟩ := h
  have hq : (decide (I 0 ≤ s) && decide (s ≤ I 3)) = true := by
    show (decide (0 ≤ s) && decide (s ≤ 3)) = true
    rw [decide_eq_true h1, decide_eq_true h2]; rfl
  obtain ⟨e1, e2, e3⟩ := in_num (a := 0) (b := 3) (by omega) (by omega) (by omega) (by omega) hq
  have e4 : s.toInt = 0 ∨ s.toInt = 1 ∨ s.toInt = 2 ∨ s.toInt = 3 := by omega
  refine ⟨k, s.toInt.toNat, hk, by omega, q0, ?_, by rw [q2]; exact h3, ?_⟩
  · rw [q1, show ((s.toInt.toNat : Nat) : Int) = s.toInt by omega]
    exact e1
  · rw [q2]
    have key : (s.toInt.toNat % 2 = 0) ↔ (s &&& 1 = 0) := by
      rcases e4 with q | q | q | q <;> rw [e1] <;> rw [q] <;> decide
    by_cases c : s &&& 1 = 0
    · rw [if_pos c] at h4
      rw [if_pos (key.mpr c)]
      exact h4
    · rw [if_neg c] at h4
      rw [if_neg (fun z => c (key.mp z))]
      exact h4
end K3
/-- cells of one link cleared, up to a place -/
def clF (row : Nat → Int32) (b k : Nat) : Nat → Int32 := fun j => if b ≤ j ∧ j < b + k then 0 else row j
theorem clF_S (row : Nat → Int32) (b k : Nat) : upd (clF row b k) (b + k) 0 = clF row b (k + 1) := by
  funext j
  unfold upd clF
  by_cases h : j = b + k
  · rw [if_pos h, if_pos (by omega)]
  · rw [if_neg h]
    by_cases h2 : b ≤ j ∧ j < b + k
    · rw [if_pos h2, if_pos (by omega)]
    · rw [if_neg h2, if_neg (by omega)]
theorem clF_0 (row : Nat → Int32) (b : Nat) : clF row b 0 = row := by
  funext j
  unfold clF
  rw [if_neg (by omega)]
