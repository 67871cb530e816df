/-! the history -/
theorem lp_for1 {α β : Type} {b : (α → Option β) → α → Option β} (S : Nat → α) (v : β) (m : Nat) {a0 : α} (h0 : a0 = S 0) {n : Nat} (hn : m < n) (hs : ∀ (k : Nat) (rec : α → Option β), k < m → b rec (S k) = rec (S (k + 1))) (he : ∀ rec : α → Option β, b rec (S m) = some v) : lpN b n a0 = some v := by
  rw [h0]
  exact lp_for0 S v m hn hs he
def cpf (r : Nat → Int32) (f t k : Nat) : Nat → Int32 := fun j => if t ≤ j ∧ j < t + k then r (j - t + f) else r j
theorem cpf_0 (r : Nat → Int32) (f t : Nat) : cpf r f t 0 = r := by
  funext j
  unfold cpf
  rw [if_neg (by omega)]
theorem cpf_S (r : Nat → Int32) (f t k : Nat) (hd : f + 1725 ≤ t ∨ t + 1725 ≤ f) (hk : k < 1725) : upd (cpf r f t k) (t + k) (cpf r f t k (f + k)) = cpf r f t (k + 1) := by
  funext j
  unfold upd cpf
  by_cases h1 : j = t + k
  · rw [if_pos h1, if_neg (by omega), if_pos (by omega)]
    congr 1
    omega
  · rw [if_neg h1]
    by_cases h2 : t ≤ j ∧ j < t + k
    · rw [if_pos h2, if_pos (by omega)]
    · rw [if_neg h2, if_neg (by omega)]
theorem sm_copies {F : Nat} (hF : 2000 ≤ F) (τ : MS) (f t : Nat) (hf : f + 1725 ≤ 8625) (ht : t + 1725 ≤ 8625) (hd : f + 1725 ≤ t ∨ t + 1725 ≤ f) : fm_copies F τ (I f) (I t) = some (ms_row_s τ (cpf (ms_row τ) f t 1725)) := by
  refine lp_for1 (fun k => (ms_row_s τ (cpf (ms_row τ) f t k), I f, I t, I k)) _ 1725 (by rw [cpf_0]; rfl) (by omega) (fun k rec hk => ?_) (fun rec => ?_)
  · have e0 : ¬ (1725 : Int32) ≤ I k := by rw [I_1725, I_le] <;> omega
    simp (disch := omega) only [fm_copies_L2_c, fm_copies, e0, if_false, I_add, I_ix, gd_T, lt_r, st_row, I_cl, I_1]
    have e1 : ((f : Int) + (k : Int)).toNat = f + k := by omega
    have e2 : ((t : Int) + (k : Int)).toNat = t + k := by omega
    rw [e1, e2]
    show rec (ms_row_s τ (upd (cpf (ms_row τ) f t k) (t + k) (cpf (ms_row τ) f t k (f + k))), I f, I t, I ((k + 1 : Nat) : Int)) = _
    rw [cpf_S _ _ _ _ hd hk]
  · have e0 : (1725 : Int32) ≤ I ((1725 : Nat) : Int) := by rw [I_1725, I_le] <;> omega
    simp only [fm_copies_L2_c, fm_copies, e0, if_true]
theorem mk2 (τ : MS) (a b : Int32) : ms_kept_s (ms_kept_s τ a) b = ms_kept_s τ b := rfl
/-- what records leaves -/
def Rec (r r' : Nat → Int32) (h : Nat) : Prop := (∀ j, j < 1725 → r' j = r j) ∧ (if h = 4 then (∀ j, j < 1725 → r' (6900 + j) = r j) ∧ ∀ i, 1 ≤ i → i < 4 → ∀ j, j < 1725 → r' (1725 * i + j) = r (1725 * (i + 1) + j) else (∀ j, j < 1725 → r' (1725 * (h + 1) + j) = r j) ∧ ∀ i, 1 ≤ i → i ≤ h → ∀ j, j < 1725 → r' (1725 * i + j) = r (1725 * i + j))
theorem sm_rec_L45 {F : Nat} (hF : 2000 ≤ F) (τ : MS) (h h' : Nat) (hh : h ≤ 4) (hh' : h' = if h = 4 then 4 else h + 1) (hk : ms_kept τ = I h) : fm_records_L45 F τ = some (ms_row_s (ms_kept_s τ (I h')) (cpf (ms_row τ) 0 (1725 * h') 1725)) := by
  by_cases h4 : h = 4
  · rw [if_pos h4] at hh'
    have e0 : ms_kept τ = 4 := by rw [hk, h4]; rfl
    have e1 := sm_copies hF (ms_kept_s τ (I h')) 0 (1725 * h') (by omega) (by omega) (by omega)
    simp only [fm_records_L45, fm_records_L63, e0, if_true, lt_r]
    have e4 : ms_kept_s (ms_kept_s τ (4 - 1)) (ms_kept (ms_kept_s τ (4 - 1)) + 1) = ms_kept_s τ (I h') := by
      rw [zm_kept_kept, mk2, I_4, I_1, I_sub, I_add]
      exact congrArg (fun z => ms_kept_s τ (I z)) (by omega)
    rw [e4]
    have e5 : (1725 : Int32) * ms_kept (ms_kept_s τ (I h')) = I ((1725 * h' : Nat) : Int) := by
      rw [zm_kept_kept, I_1725, I_mul]
      exact congrArg I (by omega)
    rw [e5]
    rw [zm_row_kept] at e1
    have e6 : fm_copies F (ms_kept_s τ (I h')) 0 (I ((1725 * h' : Nat) : Int)) = _ := e1
    rw [e6, bd_s]
  · have e0 : ¬ ms_kept τ = 4 := by rw [hk, I_4, I_eq] <;> omega
    rw [if_neg h4] at hh'
    subst hh'
    have e1 := sm_copies hF (ms_kept_s τ (I ((h + 1 : Nat) : Int))) 0 (1725 * (h + 1)) (by omega) (by omega) (by omega)
    simp only [fm_records_L45, fm_records_L63, e0, if_false, lt_r]
    have e3 : ms_kept τ - 0 = I h := by rw [hk, I_0, I_sub]; exact congrArg I (by omega)
    have e4 : ms_kept_s (ms_kept_s τ (ms_kept τ - 0)) (ms_kept (ms_kept_s τ (ms_kept τ - 0)) + 1) = ms_kept_s τ (I ((h + 1 : Nat) : Int)) := by
      rw [e3, zm_kept_kept, mk2, I_S]
    rw [e4]
    have e5 : (1725 : Int32) * ms_kept (ms_kept_s τ (I ((h + 1 : Nat) : Int))) = I ((1725 * (h + 1) : Nat) : Int) := by
      rw [zm_kept_kept, I_1725, I_mul]
      exact congrArg I (by omega)
    rw [e5]
    rw [zm_row_kept] at e1
    have e6 : fm_copies F (ms_kept_s τ (I ((h + 1 : Nat) : Int))) 0 (I ((1725 * (h + 1) : Nat) : Int)) = _ := e1
    rw [e6, bd_s]
def shf (r : Nat → Int32) : Nat → Nat → Int32
  | 0 => r
  | k + 1 => cpf (shf r k) (1725 * (k + 2)) (1725 * (k + 1)) 1725
theorem sm_records {F : Nat} (hF : 2000 ≤ F) (τ : MS) (h : Nat) (hh : h ≤ 4) (hk : ms_kept τ = I h) (hs : ms_silent τ = 0) : ∃ r' : Nat → Int32, fm_records F τ = some (ms_row_s (ms_kept_s τ (I ((if h = 4 then 4 else h + 1 : Nat) : Int))) r') ∧ Rec (ms_row τ) r' h := by
  have hs' : (ms_silent τ = 0) = True := eq_true hs
  by_cases h4 : h = 4
  · subst h4
    refine ⟨cpf (shf (ms_row τ) 3) 0 6900 1725, ?_, ?_⟩
    · simp only [fm_records, hs', if_true]
      refine lp_for1 (fun k => (ms_row_s τ (shf (ms_row τ) k), I ((k + 1 : Nat) : Int))) _ 3 rfl (by omega) (fun k rec hkk => ?_) (fun rec => ?_)
      · have e0 : ¬ (4 : Int32) ≤ I ((k + 1 : Nat) : Int) := by rw [I_4, I_le] <;> omega
        have e1 : ms_kept (ms_row_s τ (shf (ms_row τ) k)) = 4 := hk
        simp only [fm_records_L10_c, e0, if_false, e1, if_true, I_1725]
        have e2 : I 1725 * (I ((k + 1 : Nat) : Int) + 1) = I ((1725 * (k + 2) : Nat) : Int) := by
          rw [I_1, I_add, I_mul]
          exact congrArg I (by omega)
        have e3 : I 1725 * I ((k + 1 : Nat) : Int) = I ((1725 * (k + 1) : Nat) : Int) := by
          rw [I_mul]
          exact congrArg I (by omega)
        rw [e2, e3, sm_copies hF _ _ _ (by omega) (by omega) (by omega), bd_s, lt_r, I_S]
        rfl
      · have e0 : (4 : Int32) ≤ I ((3 + 1 : Nat) : Int) := by decide
        simp only [fm_records_L10_c, e0, if_true]
        exact sm_rec_L45 hF (ms_row_s τ (shf (ms_row τ) 3)) 4 4 (by omega) rfl hk
    · refine ⟨fun j hj => ?_, ?_⟩
      · simp only [cpf, shf]
        rw [if_neg (by omega), if_neg (by omega), if_neg (by omega), if_neg (by omega)]
      · rw [if_pos rfl]
        refine ⟨fun j hj => ?_, fun i h1 h2 j hj => ?_⟩
        · simp only [cpf, shf]
          rw [if_pos (by omega), if_neg (by omega), if_neg (by omega), if_neg (by omega)]
          exact congrArg _ (by omega)
        · simp only [cpf, shf]
          rcases (show i = 1 ∨ i = 2 ∨ i = 3 by omega) with rfl | rfl | rfl
          · rw [if_neg (by omega), if_neg (by omega), if_neg (by omega), if_pos (by omega)]
            exact congrArg _ (by omega)
          · rw [if_neg (by omega), if_neg (by omega), if_pos (by omega), if_neg (by omega)]
            exact congrArg _ (by omega)
          · rw [if_neg (by omega), if_pos (by omega), if_neg (by omega), if_neg (by omega)]
            exact congrArg _ (by omega)
  · refine ⟨cpf (ms_row τ) 0 (1725 * (h + 1)) 1725, ?_, ?_⟩
    · simp only [fm_records, hs', if_true]
      refine lp_for1 (fun _ => (τ, 1)) _ 0 rfl (by omega) (fun k rec hkk => absurd hkk (by omega)) (fun rec => ?_)
      have e0 : ¬ (4 : Int32) ≤ 1 := by decide
      have e1 : ¬ ms_kept τ = 4 := by rw [hk, I_4, I_eq] <;> omega
      simp only [fm_records_L10_c, e0, if_false, e1]
      rw [if_neg h4]
      exact sm_rec_L45 hF τ h (h + 1) hh (by rw [if_neg h4]) hk
    · refine ⟨fun j hj => ?_, ?_⟩
      · simp only [cpf]
        rw [if_neg (by omega)]
      · rw [if_neg h4]
        refine ⟨fun j hj => ?_, fun i h1 h2 j hj => ?_⟩
        · simp only [cpf]
          rw [if_pos (by omega)]
          exact congrArg _ (by omega)
        · simp only [cpf]
          rw [if_neg (by omega)]
