/-! a best way has few corners -/
section B1
variable {A : GD} {p go gs : Nat} {N D V : Nat → Nat} {T : Nat}
def inG (A : GD) (n : Nat) : Prop := n % 18 < d_nx A ∧ n / 18 < d_ny A
theorem op_in (hg : GrOk A) {n e : Nat} (he : e < 4) (h : opA A n e = true) : inG A n ∧ inG A (tgA n e) := by
  have hx := hg.1
  unfold inG
  obtain ⟨r, c, hc, rfl⟩ := rc_of n
  rcases (show e = 0 ∨ e = 1 ∨ e = 2 ∨ e = 3 by omega) with rfl | rfl | rfl | rfl
  · obtain ⟨r, rfl, a1, a2, a3⟩ := (op0_iff hc).mp h
    rw [tg0]
    omega
  · obtain ⟨a1, a2, a3⟩ := (op1_iff hc).mp h
    rw [tg1]
    omega
  · obtain ⟨a1, a2, a3⟩ := (op2_iff hc).mp h
    rw [tg2]
    omega
  · obtain ⟨c, rfl, a1, a2, a3⟩ := (op3_iff hg hc).mp h
    rw [tg3]
    omega
theorem gX_inj (hg : GrOk A) {a b : Nat} (ha : a < d_nx A) (hb : b < d_nx A) (h : d_X A a = d_X A b) : a = b := by
  rcases Nat.lt_trichotomy a b with q | q | q
  · have := gX hg q hb; omega
  · exact q
  · have := gX hg q ha; omega
theorem gY_inj (hg : GrOk A) {a b : Nat} (ha : a < d_ny A) (hb : b < d_ny A) (h : d_Y A a = d_Y A b) : a = b := by
  rcases Nat.lt_trichotomy a b with q | q | q
  · have := gY hg q hb; omega
  · exact q
  · have := gY hg q ha; omega
theorem in_inj (hg : GrOk A) {n m : Nat} (hn : inG A n) (hm : inG A m) (h1 : d_X A (n % 18) = d_X A (m % 18)) (h2 : d_Y A (n / 18) = d_Y A (m / 18)) : n = m := by
  have := gX_inj hg hn.1 hm.1 h1
  have := gY_inj hg hn.2 hm.2 h2
  omega
theorem wk_in (hg : GrOk A) (hW : Wlk (GA A p go gs) N D V T) {i : Nat} (h : i < T) : inG A (N i) ∧ inG A (N (i + 1)) := by
  obtain ⟨a1, a2, a3, -⟩ := hW.2.1 i h
  have := op_in hg (hW.1 (i + 1) (by omega)).1 a2
  rw [a3]
  exact this
def vcB (D : Nat → Nat) (i : Nat) : Bool := decide (D (i + 1) ≠ D i) && (decide (D (i + 1) = 0) || decide (D (i + 1) = 2))
def hcB (D : Nat → Nat) (i : Nat) : Bool := decide (D (i + 1) ≠ D i) && (decide (D (i + 1) = 1) || decide (D (i + 1) = 3))
def Qv (A : GD) (N D : Nat → Nat) (T i y : Nat) : Prop := (i < 3 ∧ y = 24 + i) ∨ (T ≤ i + 3 ∧ y = 27 + (T - 1 - i)) ∨ (i + 3 < T ∧ (∀ k, i < k → k + 3 < T → D (k + 1) = D k) ∧ y = 30) ∨ ∃ k t q, k < d_nb A ∧ t < 3 ∧ y = 3 * k + t ∧ i ≤ q ∧ q < T ∧ (∀ k', i < k' → k' ≤ q → D k' = D (i + 1)) ∧ d_X A (N q % 18) = (if t = 1 then d_B A (4 * k + 2) + 1 else d_B A (4 * k) - 1) ∧ d_Y A (N q / 18) = if t = 2 then d_B A (4 * k + 1) - 1 else d_B A (4 * k + 3) + 1
theorem vc_le (hg : GrOk A) (hnb : d_nb A ≤ 8) (hW : Wlk (GA A p go gs) N D V T) (hX : ∀ s t, s < t → t ≤ T → N s ≠ N t) : cntN (vcB D) T ≤ 31 := by
  refine pig (Q := Qv A N D T) T (fun i hi hp => ?_) (fun i j y hi hj hp hp' hQ hQ' => ?_)
  · unfold vcB at hp
    rw [Bool.and_eq_true, Bool.or_eq_true, decide_eq_true_eq, decide_eq_true_eq, decide_eq_true_eq] at hp
    by_cases h3 : i < 3
    · exact ⟨24 + i, by omega, Or.inl ⟨h3, rfl⟩⟩
    · by_cases hT : T ≤ i + 3
      · exact ⟨27 + (T - 1 - i), by omega, Or.inr (Or.inl ⟨hT, rfl⟩)⟩
      · by_cases hl : ∀ k, i < k → k + 3 < T → D (k + 1) = D k
        · exact ⟨30, by omega, Or.inr (Or.inr (Or.inl ⟨by omega, hl, rfl⟩))⟩
        · -- the first change behind i
          obtain ⟨k0, hk0⟩ := Classical.not_forall.mp hl
          have hk1 : i < k0 := Classical.byContradiction fun q => hk0 (fun q' _ => absurd q' q)
          have hk2 : k0 + 3 < T := Classical.byContradiction fun q => hk0 (fun _ q' => absurd q' q)
          have hk3 : D (k0 + 1) ≠ D k0 := fun q => hk0 (fun _ _ => q)
          have hf : fstN (fun d => decide (D (i + 1 + d + 1) ≠ D (i + 1 + d))) (k0 - i) < k0 - i := by
            have h9 : anyN (fun d => decide (D (i + 1 + d + 1) ≠ D (i + 1 + d))) (k0 - i) = true := anyN_ex.mpr ⟨k0 - i - 1, by omega, by
              rw [show i + 1 + (k0 - i - 1) = k0 by omega]
              exact decide_eq_true hk3⟩
            rw [anyN_fst] at h9
            exact of_decide_eq_true h9
          have hat := fstN_at hf
          have hno := fun d => fstN_no (p := fun d => decide (D (i + 1 + d + 1) ≠ D (i + 1 + d))) (n := k0 - i) (k := d)
          generalize fstN (fun d => decide (D (i + 1 + d + 1) ≠ D (i + 1 + d))) (k0 - i) = f at hf hat hno
          rw [decide_eq_true_eq] at hat
          have hcst : ∀ k, i < k → k ≤ i + 1 + f → D k = D (i + 1) := by
            intro k h1 h2
            have := wk_cst (D := D) (s := i + 1) (t := i + 1 + f) (fun k a b => by
              have := hno (k - (i + 1)) (by omega)
              rw [decide_eq_false_iff_not, show i + 1 + (k - (i + 1)) = k by omega] at this
              exact Classical.not_not.mp this) (k - (i + 1)) (by omega)
            rw [show i + 1 + (k - (i + 1)) = k by omega] at this
            exact this
          have hj : D (i + 1 + f) = D (i + 1) := hcst _ (by omega) (by omega)
          obtain ⟨q, q1, q2, q3⟩ := sg_main (GA_ok hg p go gs) hW (GA_cell hg p go gs) hX (i := i) (j := i + 1 + f) (by omega) (by omega) (by omega) hp.2 hcst hp.1 (by rw [← hj]; exact hat)
          obtain ⟨k, t, z1, z2, z3, z4⟩ := q3
          exact ⟨3 * k + t, by omega, Or.inr (Or.inr (Or.inr ⟨k, t, q, z1, z2, rfl, q1, by omega, fun k' a b => hcst k' a (by omega), z3, z4⟩))⟩
  · unfold vcB at hp hp'
    rw [Bool.and_eq_true, Bool.or_eq_true, decide_eq_true_eq, decide_eq_true_eq, decide_eq_true_eq] at hp hp'
    rcases hQ with ⟨a1, a2⟩ | ⟨a1, a2⟩ | ⟨a1, a2, a3⟩ | ⟨k, t, q, a1, a2, a3, a4, a5, a6, a7, a8⟩ <;> rcases hQ' with ⟨b1, b2⟩ | ⟨b1, b2⟩ | ⟨b1, b2, b3⟩ | ⟨k', t', q', b1, b2, b3, b4, b5, b6, b7, b8⟩
    all_goals first | omega | skip
    · rcases Nat.lt_trichotomy i j with h | h | h
      · exact absurd (a2 j h b1) hp'.1
      · exact h
      · exact absurd (b2 i h a1) hp.1
    · obtain rfl : k' = k := by omega
      obtain rfl : t' = t := by omega
      have hqq : N q = N q' := in_inj hg (wk_in hg hW a5).1 (wk_in hg hW b5).1 (a7.trans b7.symm) (a8.trans b8.symm)
      have hq : q = q' := by
        rcases Nat.lt_trichotomy q q' with h | h | h
        · exact absurd hqq (hX _ _ h (by omega))
        · exact h
        · exact absurd hqq.symm (hX _ _ h (by omega))
      subst hq
      have key : ∀ i j, i < j → j ≤ q → (D (i + 1) = 0 ∨ D (i + 1) = 2) → (∀ k', i < k' → k' ≤ q → D k' = D (i + 1)) → D (j + 1) ≠ D j → (D (j + 1) = 0 ∨ D (j + 1) = 2) → False := by
        intro i j h1 h2 h3 h4 h5 h6
        have e1 := h4 j h1 h2
        rcases Nat.lt_or_ge j q with h | h
        · have e2 := h4 (j + 1) (by omega) (by omega)
          omega
        · have := (hW.2.1 j (by omega)).1
          rw [e1] at this h5
          unfold opp at this
          omega
      rcases Nat.lt_trichotomy i j with h | h | h
      · exact (key i j h b4 hp.2 a6 hp'.1 hp'.2).elim
      · exact h
      · exact (key j i h a4 hp'.2 b6 hp.1 hp.2).elim
theorem vh_at (D : Nat → Nat) (t : Nat) (d2 : D (t + 1) < 4) : (D (t + 1) = D t → vcB D t = false ∧ hcB D t = false) ∧ (¬ D (t + 1) = D t → D (t + 1) % 2 = 1 → vcB D t = false ∧ hcB D t = true) ∧ (¬ D (t + 1) = D t → ¬ D (t + 1) % 2 = 1 → vcB D t = true ∧ hcB D t = false) := by
  unfold vcB hcB
  refine ⟨fun e => ?_, fun e e1 => ?_, fun e e1 => ?_⟩
  · rw [decide_eq_false (fun q => q e)]
    exact ⟨rfl, rfl⟩
  · rw [decide_eq_true (show D (t + 1) ≠ D t from e), decide_eq_false (show ¬ D (t + 1) = 0 by omega), decide_eq_false (show ¬ D (t + 1) = 2 by omega)]
    refine ⟨rfl, ?_⟩
    rcases (show D (t + 1) = 1 ∨ D (t + 1) = 3 by omega) with q | q <;> rw [q] <;> rfl
  · rw [decide_eq_true (show D (t + 1) ≠ D t from e), decide_eq_false (show ¬ D (t + 1) = 1 by omega), decide_eq_false (show ¬ D (t + 1) = 3 by omega)]
    refine ⟨?_, rfl⟩
    rcases (show D (t + 1) = 0 ∨ D (t + 1) = 2 by omega) with q | q <;> rw [q] <;> rfl
theorem vh_bal (hW : Wlk (GA A p go gs) N D V T) : ∀ t, t ≤ T → cntN (hcB D) t + (if D 0 % 2 = 1 then 1 else 0) = cntN (vcB D) t + if D t % 2 = 1 then 1 else 0 := by
  intro t
  induction t with
  | zero => intro _; rfl
  | succ t ih =>
    intro ht
    have ih := ih (by omega)
    have d1 := (hW.1 t (by omega)).1
    have d2 := (hW.1 (t + 1) ht).1
    have d3 := (hW.2.1 t (by omega)).1
    unfold opp at d3
    show cntN (hcB D) t + (if hcB D t = true then 1 else 0) + _ = cntN (vcB D) t + (if vcB D t = true then 1 else 0) + _
    obtain ⟨f1, f2, f3⟩ := vh_at D t d2
    by_cases e : D (t + 1) = D t
    · obtain ⟨g1, g2⟩ := f1 e
      rw [g1, g2, e]
      simp only [Bool.false_eq_true, if_false]
      omega
    · by_cases e1 : D (t + 1) % 2 = 1
      · obtain ⟨g1, g2⟩ := f2 e e1
        rw [if_neg (show ¬ D t % 2 = 1 by omega)] at ih
        rw [g1, g2, if_pos e1]
        simp only [Bool.false_eq_true, if_false, if_true]
        omega
      · obtain ⟨g1, g2⟩ := f3 e e1
        rw [if_pos (show D t % 2 = 1 by omega)] at ih
        rw [g1, g2, if_neg e1]
        simp only [Bool.false_eq_true, if_false, if_true]
        omega
/-- the directions, and the one in which the last point is left -/
def edir (D : Nat → Nat) (gs T i : Nat) : Nat := if i ≤ T then D i else opp gs
def chB (D : Nat → Nat) (gs T i : Nat) : Bool := decide (edir D gs T (i + 1) ≠ edir D gs T i)
theorem ch_le (hg : GrOk A) (hnb : d_nb A ≤ 8) (hW : Wlk (GA A p go gs) N D V T) (hX : ∀ s t, s < t → t ≤ T → N s ≠ N t) : cntN (chB D gs T) (T + 1) ≤ 64 := by
  have h1 := vc_le hg hnb hW hX
  have h2 := vh_bal hW T (Nat.le_refl _)
  have h3 : ∀ t, t ≤ T → cntN (chB D gs T) t = cntN (vcB D) t + cntN (hcB D) t := by
    intro t
    induction t with
    | zero => intro _; rfl
    | succ t ih =>
      intro ht
      have ih := ih (by omega)
      have d2 := (hW.1 (t + 1) ht).1
      show cntN (chB D gs T) t + (if chB D gs T t = true then 1 else 0) = cntN (vcB D) t + (if vcB D t = true then 1 else 0) + (cntN (hcB D) t + if hcB D t = true then 1 else 0)
      obtain ⟨f1, f2, f3⟩ := vh_at D t d2
      have hch : chB D gs T t = decide (D (t + 1) ≠ D t) := by
        unfold chB edir
        rw [if_pos (show t + 1 ≤ T by omega), if_pos (show t ≤ T by omega)]
      rw [hch]
      by_cases e : D (t + 1) = D t
      · obtain ⟨g1, g2⟩ := f1 e
        rw [g1, g2, decide_eq_false (fun q => q e)]
        simp only [Bool.false_eq_true, if_false]
        omega
      · rw [decide_eq_true (show D (t + 1) ≠ D t from e)]
        by_cases e1 : D (t + 1) % 2 = 1
        · obtain ⟨g1, g2⟩ := f2 e e1
          rw [g1, g2]
          simp only [Bool.false_eq_true, if_false, if_true]
          omega
        · obtain ⟨g1, g2⟩ := f3 e e1
          rw [g1, g2]
          simp only [Bool.false_eq_true, if_false, if_true]
          omega
  have h4 := h3 T (Nat.le_refl _)
  show cntN (chB D gs T) T + (if chB D gs T T = true then 1 else 0) ≤ 64
  have h5 : (if D 0 % 2 = 1 then 1 else 0 : Nat) ≤ 1 := by split <;> omega
  have h6 : (if D T % 2 = 1 then 1 else 0 : Nat) ≤ 1 := by split <;> omega
  have h7 : (if chB D gs T T = true then 1 else 0 : Nat) ≤ 1 := by split <;> omega
  omega
end B1
