/-! counting -/
noncomputable def cdec (P : Prop) : Bool := @decide P (Classical.propDecidable P)
theorem cdec_t {P : Prop} : cdec P = true ↔ P := by
  unfold cdec
  exact @decide_eq_true_iff P (Classical.propDecidable P)
theorem cntN_le {p : Nat → Bool} : ∀ {n : Nat}, cntN p n ≤ n
  | 0 => Nat.le_refl _
  | n + 1 => by
    have := cntN_le (p := p) (n := n)
    unfold cntN
    split <;> omega
theorem cntN_mono {p : Nat → Bool} {a : Nat} : ∀ d, cntN p a ≤ cntN p (a + d)
  | 0 => Nat.le_refl _
  | d + 1 => by
    have := cntN_mono (p := p) (a := a) d
    show _ ≤ cntN p (a + d) + _
    split <;> omega
theorem cntN_mn {p : Nat → Bool} {a b : Nat} (h : a ≤ b) : cntN p a ≤ cntN p b := by
  have := cntN_mono (p := p) (a := a) (b - a)
  rw [show a + (b - a) = b by omega] at this
  exact this
theorem cntN_sub {p q : Nat → Bool} : ∀ {n : Nat}, (∀ i, i < n → p i = true → q i = true) → cntN p n ≤ cntN q n
  | 0, _ => Nat.le_refl _
  | n + 1, h => by
    have ih := cntN_sub (p := p) (q := q) (n := n) (fun i hi => h i (by omega))
    have hn := h n (by omega)
    unfold cntN
    by_cases hp : p n = true
    · rw [if_pos hp, if_pos (hn hp)]; omega
    · rw [if_neg hp]; split <;> omega
theorem cntN_sub1 {p q : Nat → Bool} {y : Nat} : ∀ {n : Nat}, (∀ i, i < n → p i = true → q i = true) → y < n → p y = false → q y = true → cntN p n + 1 ≤ cntN q n
  | 0, _, h, _, _ => absurd h (by omega)
  | n + 1, h, hy, h1, h2 => by
    have hn := h n (by omega)
    unfold cntN
    by_cases e : y = n
    · subst e
      have ih := cntN_sub (p := p) (q := q) (n := y) (fun i hi => h i (by omega))
      rw [if_neg (by rw [h1]; decide), if_pos h2]; omega
    · have ih := cntN_sub1 (p := p) (q := q) (y := y) (n := n) (fun i hi => h i (by omega)) (by omega) h1 h2
      by_cases hp : p n = true
      · rw [if_pos hp, if_pos (hn hp)]; omega
      · rw [if_neg hp]; split <;> omega
theorem cntN_cg {p q : Nat → Bool} {n : Nat} (h : ∀ i, i < n → p i = q i) : cntN p n = cntN q n := by
  have h1 := cntN_sub (p := p) (q := q) (n := n) (fun i hi hp => by rw [← h i hi]; exact hp)
  have h2 := cntN_sub (p := q) (q := p) (n := n) (fun i hi hp => by rw [h i hi]; exact hp)
  omega
/-- pigeons -/
theorem pig {p : Nat → Bool} {m : Nat} {Q : Nat → Nat → Prop} : ∀ n, (∀ i, i < n → p i = true → ∃ y, y < m ∧ Q i y) → (∀ i j y, i < n → j < n → p i = true → p j = true → Q i y → Q j y → i = j) → cntN p n ≤ m := by
  intro n h1 h2
  have key : ∀ k, k ≤ n → cntN p k ≤ cntN (fun y => cdec (∃ i, i < k ∧ p i = true ∧ Q i y)) m := by
    intro k
    induction k with
    | zero => intro _; exact Nat.zero_le _
    | succ k ih =>
      intro hk
      have ih := ih (by omega)
      by_cases hp : p k = true
      · obtain ⟨y, hy, hQ⟩ := h1 k (by omega) hp
        have := cntN_sub1 (p := fun y => cdec (∃ i, i < k ∧ p i = true ∧ Q i y)) (q := fun y => cdec (∃ i, i < k + 1 ∧ p i = true ∧ Q i y)) (y := y) (n := m) (fun z _ hz => by
          obtain ⟨i, a, b, c⟩ := cdec_t.mp hz
          exact cdec_t.mpr ⟨i, by omega, b, c⟩) hy (by
          cases hc : cdec (∃ i, i < k ∧ p i = true ∧ Q i y) with
          | false => rfl
          | true =>
            obtain ⟨i, a, b, c⟩ := cdec_t.mp hc
            have := h2 i k y (by omega) (by omega) b hp c hQ
            omega) (cdec_t.mpr ⟨k, by omega, hp, hQ⟩)
        show cntN p k + (if p k = true then 1 else 0) ≤ _
        rw [if_pos hp]
        omega
      · have := cntN_sub (p := fun y => cdec (∃ i, i < k ∧ p i = true ∧ Q i y)) (q := fun y => cdec (∃ i, i < k + 1 ∧ p i = true ∧ Q i y)) (n := m) (fun z _ hz => by
          obtain ⟨i, a, b, c⟩ := cdec_t.mp hz
          exact cdec_t.mpr ⟨i, by omega, b, c⟩)
        show cntN p k + (if p k = true then 1 else 0) ≤ _
        rw [if_neg hp]
        omega
  have := key n (Nat.le_refl _)
  have := cntN_le (p := fun y => cdec (∃ i, i < n ∧ p i = true ∧ Q i y)) (n := m)
  omega
/-- the index of the k-th one -/
def psB (ch : Nat → Bool) (n k : Nat) : Nat := fstN (fun i => decide (k < cntN ch (i + 1))) n
theorem psB_sp {ch : Nat → Bool} {n k : Nat} (h : k < cntN ch n) : psB ch n k < n ∧ ch (psB ch n k) = true ∧ cntN ch (psB ch n k) = k := by
  have h0 : psB ch n k < n := by
    have hle : psB ch n k ≤ n := fstN_le
    rcases Nat.lt_or_ge (psB ch n k) n with h1 | h1
    · exact h1
    · cases n with
      | zero => exact absurd h (Nat.not_lt_zero _)
      | succ n =>
        have := fstN_no (p := fun i => decide (k < cntN ch (i + 1))) (n := n + 1) (k := n) (by unfold psB at h1; omega)
        simp only [decide_eq_false_iff_not] at this
        omega
  have h1 := fstN_at (p := fun i => decide (k < cntN ch (i + 1))) (n := n) h0
  rw [decide_eq_true_eq] at h1
  have h1 : k < cntN ch (psB ch n k + 1) := h1
  have h2 : cntN ch (psB ch n k) ≤ k := by
    cases hq : psB ch n k with
    | zero => exact Nat.zero_le _
    | succ j =>
      have := fstN_no (p := fun i => decide (k < cntN ch (i + 1))) (n := n) (k := j) (by unfold psB at hq; omega)
      simp only [decide_eq_false_iff_not] at this
      omega
  have h3 : cntN ch (psB ch n k + 1) = cntN ch (psB ch n k) + if ch (psB ch n k) = true then 1 else 0 := rfl
  by_cases hc : ch (psB ch n k) = true
  · rw [if_pos hc] at h3
    exact ⟨h0, hc, by omega⟩
  · rw [if_neg hc] at h3
    omega
theorem psB_at {ch : Nat → Bool} {n i : Nat} (hi : i < n) (hc : ch i = true) : psB ch n (cntN ch i) = i := by
  have e : cntN ch (i + 1) = cntN ch i + 1 := by show cntN ch i + (if ch i = true then 1 else 0) = _; rw [if_pos hc]
  have hlt : cntN ch i < cntN ch n := by have := cntN_mn (p := ch) (show i + 1 ≤ n by omega); omega
  obtain ⟨a1, a2, a3⟩ := psB_sp hlt
  have e2 : cntN ch (psB ch n (cntN ch i) + 1) = cntN ch (psB ch n (cntN ch i)) + 1 := by show cntN ch (psB ch n (cntN ch i)) + (if ch _ = true then 1 else 0) = _; rw [if_pos a2]
  rcases Nat.lt_trichotomy (psB ch n (cntN ch i)) i with h | h | h
  · have := cntN_mn (p := ch) (show psB ch n (cntN ch i) + 1 ≤ i by omega); omega
  · exact h
  · have := cntN_mn (p := ch) (show i + 1 ≤ psB ch n (cntN ch i) by omega); omega
theorem psB_lt {ch : Nat → Bool} {n k k' : Nat} (h : k < k') (h' : k' < cntN ch n) : psB ch n k < psB ch n k' := by
  obtain ⟨a1, a2, a3⟩ := psB_sp (show k < cntN ch n by omega)
  obtain ⟨b1, b2, b3⟩ := psB_sp h'
  rcases Nat.lt_or_ge (psB ch n k) (psB ch n k') with q | q
  · exact q
  · have := cntN_mn (p := ch) q; omega
/-- none between two that follow one another -/
theorem psB_no {ch : Nat → Bool} {n k i : Nat} (hi : i < n) (h1 : k < cntN ch n) (h2 : psB ch n k < i) (h3 : k + 1 < cntN ch n → i < psB ch n (k + 1)) : ch i = false := by
  cases hc : ch i with
  | false => rfl
  | true =>
    have e := psB_at hi hc
    have e1 : cntN ch (i + 1) = cntN ch i + 1 := by show cntN ch i + (if ch i = true then 1 else 0) = _; rw [if_pos hc]
    have hlt := cntN_mn (p := ch) (show i + 1 ≤ n by omega)
    obtain ⟨a1, a2, a3⟩ := psB_sp h1
    have e2 : cntN ch (psB ch n k + 1) = k + 1 := by show cntN ch (psB ch n k) + (if ch _ = true then 1 else 0) = _; rw [if_pos a2, a3]
    have g1 := cntN_mn (p := ch) (show psB ch n k + 1 ≤ i by omega)
    have g2 := h3 (by omega)
    obtain ⟨b1, b2, b3⟩ := psB_sp (show k + 1 < cntN ch n by omega)
    have g3 := cntN_mn (p := ch) (show i + 1 ≤ psB ch n (k + 1) by omega)
    omega
theorem psB_no0 {ch : Nat → Bool} {n i : Nat} (hi : i < n) (h3 : 0 < cntN ch n → i < psB ch n 0) : ch i = false := by
  cases hc : ch i with
  | false => rfl
  | true =>
    have e1 : cntN ch (i + 1) = cntN ch i + 1 := by show cntN ch i + (if ch i = true then 1 else 0) = _; rw [if_pos hc]
    have hlt := cntN_mn (p := ch) (show i + 1 ≤ n by omega)
    have g2 := h3 (by omega)
    obtain ⟨b1, b2, b3⟩ := psB_sp (show 0 < cntN ch n by omega)
    have g3 := cntN_mn (p := ch) (show i + 1 ≤ psB ch n 0 by omega)
    omega
