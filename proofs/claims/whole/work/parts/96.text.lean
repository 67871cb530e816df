/-! the text: stretches, numbers -/
section T6
/-- how far a stretch goes from p on -/
def stN (q : Int32 → Bool) (T : Nat → Int32) (n p : Nat) : Nat := p + fstN (fun k => !q (T (p + k))) (n - p)
theorem stN_ge {q : Int32 → Bool} {T : Nat → Int32} {n p : Nat} : p ≤ stN q T n p := Nat.le_add_right _ _
theorem stN_le {q : Int32 → Bool} {T : Nat → Int32} {n p : Nat} (h : p ≤ n) : stN q T n p ≤ n := by
  have := fstN_le (p := fun k => !q (T (p + k))) (n := n - p)
  unfold stN
  omega
theorem stN_in {q : Int32 → Bool} {T : Nat → Int32} {n p j : Nat} (h1 : p ≤ j) (h2 : j < stN q T n p) : q (T j) = true := by
  unfold stN at h2
  have h3 := fstN_no (p := fun k => !q (T (p + k))) (n := n - p) (k := j - p) (by omega)
  simp only [Bool.not_eq_false'] at h3
  rw [show p + (j - p) = j by omega] at h3
  exact h3
theorem stN_at {q : Int32 → Bool} {T : Nat → Int32} {n p : Nat} (h2 : stN q T n p < n) : q (T (stN q T n p)) = false := by
  unfold stN at h2
  have h3 := fstN_at (p := fun k => !q (T (p + k))) (n := n - p) (by omega)
  simp only [Bool.not_eq_true'] at h3
  exact h3
/-- a loop over a stretch -/
theorem lp_st {α β : Type} {b : (α → Option β) → α → Option β} (S : Nat → α) (r : Nat → Option β) {q : Int32 → Bool} {T : Nat → Int32} {n p N : Nat} {a0 : α} (h0 : a0 = S p) (hp : p ≤ n) (hN : n < N) (hs : ∀ (k : Nat) (rec : α → Option β), p ≤ k → k < n → q (T k) = true → b rec (S k) = rec (S (k + 1))) (he : ∀ (k : Nat) (rec : α → Option β), p ≤ k → k ≤ n → (k < n → q (T k) = false) → b rec (S k) = r k) : lpN b N a0 = r (stN q T n p) := by
  have hle := stN_le (q := q) (T := T) hp
  have hge := stN_ge (q := q) (T := T) (n := n) (p := p)
  refine lp_r (fun k => S (p + k)) _ (stN q T n p - p) h0 (by omega) (fun k rec hk => hs _ rec (by omega) (by omega) (stN_in (n := n) (p := p) (by omega) (by omega))) (fun rec => ?_)
  show b rec (S (p + (stN q T n p - p))) = _
  rw [show p + (stN q T n p - p) = stN q T n p by omega]
  exact he _ rec hge hle fun h => stN_at h
def isB (c : Int32) : Bool := decide (c = 32)
def isD (c : Int32) : Bool := decide (48 ≤ c) && decide (c ≤ 57)
def isL (c : Int32) : Bool := decide (97 ≤ c) && decide (c ≤ 122)
variable {F : Nat} {σ : CSt} {τ : MS} {n p : Nat} {T : Nat → Int32}
/-- the text of either side -/
def TxS (σ : CSt) (T : Nat → Int32) (n : Nat) : Prop := cs_tl σ = I n ∧ n ≤ 120 ∧ ∀ j, j < n → cs_tb σ j = T j
def TxM (τ : MS) (T : Nat → Int32) (n : Nat) : Prop := ms_length τ = I n ∧ n ≤ 120 ∧ ∀ j, j < n → ms_text τ j = T j
theorem sc_skip (hF : 1000 ≤ F) (h : TxS σ T n) (hc : cs_tc σ = I p) (hp : p ≤ n) : fc_X2_skipBlanks F σ = some (cs_tc_s σ (I (stN isB T n p))) := by
  obtain ⟨h1, h2, h3⟩ := h
  refine lp_st (fun k => cs_tc_s σ (I k)) (fun k => some (cs_tc_s σ (I k))) (by show σ = _; rw [← hc]; rfl) hp (by omega) (fun k rec k1 k2 k3 => ?_) (fun k rec k1 k2 k3 => ?_)
  · have z1 : ¬ I n ≤ I k := by rw [I_le] <;> omega
    have ixk : ix (I k) 120 = true := of_eq_true (I_ix (by omega) (by omega) (by omega))
    have nk : (I k).toNatClampNeg = k := by rw [I_cl (by omega) (by omega)]; omega
    unfold isB at k3
    unfold fc_X2_skipBlanks_L0_c
    show (if cs_tl σ ≤ I k then _ else gd (ix (I k) 120 = true) (if cs_tb σ (I k).toNatClampNeg = 32 then rec (cs_tc_s (cs_tc_s σ (I k)) (I k + 1)) else _)) = _
    rw [h1, if_neg z1, gd_t ixk, nk, h3 k k2, if_pos (of_decide_eq_true k3), I_S]
    rfl
  · unfold fc_X2_skipBlanks_L0_c fc_X2_skipBlanks_L38
    show (if cs_tl σ ≤ I k then _ else gd (ix (I k) 120 = true) (if cs_tb σ (I k).toNatClampNeg = 32 then _ else _)) = _
    rcases Nat.lt_or_ge k n with q | q
    · have z1 : ¬ I n ≤ I k := by rw [I_le] <;> omega
      have ixk : ix (I k) 120 = true := of_eq_true (I_ix (by omega) (by omega) (by omega))
      have nk : (I k).toNatClampNeg = k := by rw [I_cl (by omega) (by omega)]; omega
      have := k3 q
      unfold isB at this
      rw [h1, if_neg z1, gd_t ixk, nk, h3 k q, if_neg (of_decide_eq_false this)]
    · have z1 : I n ≤ I k := by rw [I_le] <;> omega
      rw [h1, if_pos z1]
/-- what stands at a place -/
def chA (T : Nat → Int32) (n p : Nat) : Int32 := if p < n then T p else -1000
theorem sm_here (hF : 1000 ≤ F) (h : TxM τ T n) (hc : ms_at τ = I p) (hp : p ≤ n) : fm_here F τ = some (chA T n (stN isB T n p), ms_at_s τ (I (stN isB T n p))) := by
  obtain ⟨h1, h2, h3⟩ := h
  refine lp_st (fun k => ms_at_s τ (I k)) (fun k => some (chA T n k, ms_at_s τ (I k))) (by show τ = _; rw [← hc]; rfl) hp (by omega) (fun k rec k1 k2 k3 => ?_) (fun k rec k1 k2 k3 => ?_)
  · have z1 : ¬ I n ≤ I k := by rw [I_le] <;> omega
    have ixk : ix (I k) 120 = true := of_eq_true (I_ix (by omega) (by omega) (by omega))
    have nk : (I k).toNatClampNeg = k := by rw [I_cl (by omega) (by omega)]; omega
    unfold isB at k3
    unfold fm_here_L0_c
    show (if ms_length τ ≤ I k then _ else gd (ix (I k) 120 = true) (if ms_text τ (I k).toNatClampNeg = 32 then rec (ms_at_s (ms_at_s τ (I k)) (I k + 1)) else _)) = _
    rw [h1, if_neg z1, gd_t ixk, nk, h3 k k2, if_pos (of_decide_eq_true k3), I_S]
    rfl
  · unfold fm_here_L0_c fm_here_L38 fm_here_L64 chA
    show (if ms_length τ ≤ I k then (if ms_length τ ≤ I k then _ else _) else gd (ix (I k) 120 = true) (if ms_text τ (I k).toNatClampNeg = 32 then _ else (if ms_length τ ≤ I k then _ else gd (ix (I k) 120 = true) (some (ms_text τ (I k).toNatClampNeg, ms_at_s τ (I k)))))) = _
    rcases Nat.lt_or_ge k n with q | q
    · have z1 : ¬ I n ≤ I k := by rw [I_le] <;> omega
      have ixk : ix (I k) 120 = true := of_eq_true (I_ix (by omega) (by omega) (by omega))
      have nk : (I k).toNatClampNeg = k := by rw [I_cl (by omega) (by omega)]; omega
      have := k3 q
      unfold isB at this
      rw [h1, if_neg z1, gd_t ixk, nk, h3 k q, if_neg (of_decide_eq_false this), if_neg z1, gd_t ixk, if_pos q]
    · have z1 : I n ≤ I k := by rw [I_le] <;> omega
      rw [h1, if_pos z1, if_pos z1, if_neg (by omega)]
end T6
