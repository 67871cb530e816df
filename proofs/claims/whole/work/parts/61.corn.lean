/-! the corners of a way -/
def MvD (d : Nat) (x y x' y' : Int) : Prop := (d = 0 → x' = x ∧ y' < y) ∧ (d = 1 → y' = y ∧ x < x') ∧ (d = 2 → x' = x ∧ y < y') ∧ (d = 3 → y' = y ∧ x' < x)
theorem MvD.tr {d : Nat} {x y x' y' x'' y'' : Int} (h : MvD d x y x' y') (h' : MvD d x' y' x'' y'') : MvD d x y x'' y'' := by
  obtain ⟨a0, a1, a2, a3⟩ := h
  obtain ⟨b0, b1, b2, b3⟩ := h'
  refine ⟨fun q => ?_, fun q => ?_, fun q => ?_, fun q => ?_⟩
  · have := a0 q; have := b0 q; omega
  · have := a1 q; have := b1 q; omega
  · have := a2 q; have := b2 q; omega
  · have := a3 q; have := b3 q; omega
def EP (qx qy : Nat → Int) (E : Nat → Nat) (M : Nat) : Prop := (∀ j, j < M → E j < 4 ∧ MvD (E j) (qx j) (qy j) (qx (j + 1)) (qy (j + 1))) ∧ ∀ j, j + 1 < M → E (j + 1) ≠ opp (E j)
def chE (E : Nat → Nat) (j : Nat) : Bool := decide (E (j + 1) ≠ E j)
def cpF (E : Nat → Nat) (M k : Nat) : Nat := if k = 0 then 0 else if k ≤ cntN (chE E) (M - 1) then psB (chE E) (M - 1) (k - 1) + 1 else M
def nC (E : Nat → Nat) (M : Nat) : Nat := 2 + cntN (chE E) (M - 1)
section C2
variable {qx qy : Nat → Int} {E : Nat → Nat} {M : Nat}
theorem cp_0 : cpF E M 0 = 0 := rfl
theorem cp_m {k : Nat} (h0 : 1 ≤ k) (h : k ≤ cntN (chE E) (M - 1)) : cpF E M k = psB (chE E) (M - 1) (k - 1) + 1 := by
  unfold cpF
  rw [if_neg (by omega), if_pos h]
theorem cp_e {k : Nat} (h0 : 1 ≤ k) (h : cntN (chE E) (M - 1) < k) : cpF E M k = M := by
  unfold cpF
  rw [if_neg (by omega), if_neg (by omega)]
theorem cp_lt (hM : 1 ≤ M) {k : Nat} (h : k + 1 < nC E M) : cpF E M k < cpF E M (k + 1) := by
  unfold nC at h
  by_cases h1 : k + 1 ≤ cntN (chE E) (M - 1)
  · rw [cp_m (k := k + 1) (by omega) h1]
    by_cases h2 : k = 0
    · subst h2; rw [cp_0]; omega
    · rw [cp_m (by omega) (by omega)]
      have := psB_lt (ch := chE E) (n := M - 1) (k := k - 1) (k' := k + 1 - 1) (by omega) (by omega)
      omega
  · rw [cp_e (k := k + 1) (by omega) (by omega)]
    by_cases h2 : k = 0
    · subst h2; rw [cp_0]; omega
    · rw [cp_m (by omega) (by omega)]
      have := (psB_sp (ch := chE E) (n := M - 1) (k := k - 1) (by omega)).1
      omega
theorem cp_le (hM : 1 ≤ M) {k : Nat} (h : k < nC E M) : cpF E M k ≤ M := by
  unfold nC at h
  by_cases h2 : k = 0
  · subst h2; rw [cp_0]; omega
  · by_cases h1 : k ≤ cntN (chE E) (M - 1)
    · rw [cp_m (by omega) h1]
      have := (psB_sp (ch := chE E) (n := M - 1) (k := k - 1) (by omega)).1
      omega
    · rw [cp_e (by omega) (by omega)]
      exact Nat.le_refl _
theorem cp_mono (hM : 1 ≤ M) {k k' : Nat} (h : k < k') (h' : k' < nC E M) : cpF E M k < cpF E M k' := by
  induction k' with
  | zero => omega
  | succ k' ih =>
    have h1 := cp_lt hM (k := k') h'
    rcases Nat.lt_or_ge k k' with q | q
    · have := ih q (by omega); omega
    · rw [show k = k' by omega]; exact h1
/-- between two corners no change -/
theorem cp_no (hM : 1 ≤ M) {k j : Nat} (h : k + 1 < nC E M) (h1 : cpF E M k ≤ j) (h2 : j + 1 < cpF E M (k + 1)) : E (j + 1) = E j := by
  have hle := cp_le hM h
  unfold nC at h
  have hf : chE E j = false := by
    by_cases hk : k = 0
    · subst hk
      refine psB_no0 (n := M - 1) (by omega) (fun q => ?_)
      rw [cp_m (k := 0 + 1) (by omega) (by omega)] at h2
      have : psB (chE E) (M - 1) (0 + 1 - 1) = psB (chE E) (M - 1) 0 := rfl
      omega
    · rw [cp_m (by omega) (by omega)] at h1
      refine psB_no (n := M - 1) (k := k - 1) (by omega) (by omega) (by omega) (fun q => ?_)
      rw [cp_m (k := k + 1) (by omega) (by omega)] at h2
      rw [show k - 1 + 1 = k + 1 - 1 by omega]
      omega
  unfold chE at hf
  rw [decide_eq_false_iff_not] at hf
  exact Classical.not_not.mp hf
theorem cp_cst (hM : 1 ≤ M) {k : Nat} (h : k + 1 < nC E M) : ∀ d, cpF E M k + d < cpF E M (k + 1) → E (cpF E M k + d) = E (cpF E M k) := by
  intro d
  induction d with
  | zero => intro _; rfl
  | succ d ih =>
    intro h2
    rw [← ih (by omega)]
    exact cp_no hM h (j := cpF E M k + d) (by omega) h2
theorem cp_chg (hM : 1 ≤ M) {k : Nat} (h : k + 2 < nC E M) : ∃ j, cpF E M (k + 1) = j + 1 ∧ j + 1 < M ∧ E j = E (cpF E M k) ∧ E (j + 1) ≠ E (cpF E M k) := by
  have h1 := cp_lt (E := E) hM (k := k) (by omega)
  have h' := h
  unfold nC at h'
  have h2 := cp_m (E := E) (M := M) (k := k + 1) (by omega) (by omega)
  obtain ⟨a1, a2, a3⟩ := psB_sp (ch := chE E) (n := M - 1) (k := k + 1 - 1) (by omega)
  refine ⟨psB (chE E) (M - 1) (k + 1 - 1), h2, by omega, ?_⟩
  have h3 := cp_cst (E := E) hM (k := k) (by omega) (psB (chE E) (M - 1) (k + 1 - 1) - cpF E M k) (by omega)
  rw [show cpF E M k + (psB (chE E) (M - 1) (k + 1 - 1) - cpF E M k) = psB (chE E) (M - 1) (k + 1 - 1) by omega] at h3
  refine ⟨h3, ?_⟩
  unfold chE at a2
  rw [decide_eq_true_eq] at a2
  rw [← h3]
  exact a2
theorem cp_mv (hE : EP qx qy E M) (hM : 1 ≤ M) {k : Nat} (h : k + 1 < nC E M) : MvD (E (cpF E M k)) (qx (cpF E M k)) (qy (cpF E M k)) (qx (cpF E M (k + 1))) (qy (cpF E M (k + 1))) := by
  have h1 := cp_lt hM h
  have h2 := cp_le hM h
  have key : ∀ d, cpF E M k + d < cpF E M (k + 1) → MvD (E (cpF E M k)) (qx (cpF E M k)) (qy (cpF E M k)) (qx (cpF E M k + d + 1)) (qy (cpF E M k + d + 1)) := by
    intro d
    induction d with
    | zero => intro _; exact (hE.1 _ (by omega)).2
    | succ d ih =>
      intro hd
      have e := cp_cst hM h (d + 1) hd
      have := (hE.1 (cpF E M k + (d + 1)) (by omega)).2
      rw [e] at this
      exact (ih (by omega)).tr this
  have := key (cpF E M (k + 1) - cpF E M k - 1) (by omega)
  rw [show cpF E M k + (cpF E M (k + 1) - cpF E M k - 1) + 1 = cpF E M (k + 1) by omega] at this
  exact this
theorem I_inj {a b : Int} (h1 : 0 ≤ a) (h2 : a ≤ 99) (h3 : 0 ≤ b) (h4 : b ≤ 99) : (I a = I b) = (a = b) := I_eq (by omega) (by omega) (by omega) (by omega)
def RtS (v : RV) (c : Int) (qx qy : Nat → Int) (E : Nat → Nat) (M : Nat) : Prop := v.1 = I c ∧ v.2.1 = nC E M ∧ ∀ k, k < nC E M → v.2.2.1 k = I (qx (cpF E M k)) ∧ v.2.2.2 k = I (qy (cpF E M k))
theorem rts_ok {v : RV} {c : Int} (hv : RtS v c qx qy E M) (hM : 2 ≤ M) (hE : EP qx qy E M) (hb : ∀ j, j ≤ M → (0 ≤ qx j ∧ qx j ≤ 99) ∧ (0 ≤ qy j ∧ qy j ≤ 99)) (hn : nC E M ≤ 66) (cl rw_ : Nat → Nat) (hcl : ∀ j, 1 ≤ j → j < M → cl j < 18 ∧ rw_ j < 18) (hc : ∀ i j, 1 ≤ i → i < M → 1 ≤ j → j < M → (cl i = cl j → qx i = qx j) ∧ (rw_ i = rw_ j → qy i = qy j) ∧ (qx i = qx j → qy i = qy j → i = j)) : RouteOk v := by
  obtain ⟨v1, v2, v3⟩ := hv
  have hM1 : 1 ≤ M := by omega
  have hn2 : 2 ≤ nC E M := by unfold nC; omega
  unfold RouteOk
  rw [v2]
  refine ⟨hn2, hn, fun lv ln => ?_, fun k hk => ?_, fun k hk => ?_, fun k hk => ?_, fun h2 => ?_⟩
  · refine pig (Q := fun k y => y = if lv then cl (cpF E M k) else rw_ (cpF E M k)) _ (fun k hk hp => ?_) (fun i j y hi hj hp hp' hQ hQ' => ?_)
    · unfold lnB at hp
      simp only [Bool.and_eq_true, decide_eq_true_eq] at hp
      have q1 := cp_mono (E := E) hM1 (k := 0) (k' := k) (by omega) (by omega)
      have q2 := cp_mono (E := E) hM1 (k := k) (k' := k + 1) (by omega) (by omega)
      have q3 := cp_le (E := E) hM1 (k := k + 1) (by omega)
      have q4 := hcl (cpF E M k) (by omega) (by omega)
      refine ⟨_, ?_, rfl⟩
      split
      · exact q4.1
      · exact q4.2
    · unfold lnB at hp hp'
      simp only [Bool.and_eq_true, decide_eq_true_eq] at hp hp'
      have q1 := cp_mono (E := E) hM1 (k := 0) (k' := i) (by omega) (by omega)
      have q2 := cp_mono (E := E) hM1 (k := i) (k' := i + 1) (by omega) (by omega)
      have q3 := cp_le (E := E) hM1 (k := i + 1) (by omega)
      have p1 := cp_mono (E := E) hM1 (k := 0) (k' := j) (by omega) (by omega)
      have p2 := cp_mono (E := E) hM1 (k := j) (k' := j + 1) (by omega) (by omega)
      have p3 := cp_le (E := E) hM1 (k := j + 1) (by omega)
      have b1 := hb (cpF E M i) (by omega)
      have b2 := hb (cpF E M j) (by omega)
      obtain ⟨c1, c2, c3⟩ := hc (cpF E M i) (cpF E M j) (by omega) (by omega) (by omega) (by omega)
      have e1 := hp.2.trans hp'.2.symm
      have hcp : cpF E M i = cpF E M j := by
        cases lv with
        | true =>
          simp only [if_true] at e1 hQ hQ'
          rw [(v3 i (by omega)).2, (v3 j (by omega)).2, I_inj b1.2.1 b1.2.2 b2.2.1 b2.2.2] at e1
          exact c3 (c1 (hQ.symm.trans hQ')) e1
        | false =>
          simp only [Bool.false_eq_true, if_false] at e1 hQ hQ'
          rw [(v3 i (by omega)).1, (v3 j (by omega)).1, I_inj b1.1.1 b1.1.2 b2.1.1 b2.1.2] at e1
          exact c3 e1 (c2 (hQ.symm.trans hQ'))
      rcases Nat.lt_trichotomy i j with h | h | h
      · have := cp_mono (E := E) hM1 h (by omega); omega
      · exact h
      · have := cp_mono (E := E) hM1 h (by omega); omega
  · rw [(v3 k hk).1, (v3 k hk).2]
    have b1 := hb (cpF E M k) (cp_le hM1 hk)
    have g0 : (0 : Int32) = I 0 := rfl
    have g9 : (99 : Int32) = I 99 := rfl
    rw [g0, g9, I_le (by omega) (by omega) (by omega) (by omega), I_le (by omega) (by omega) (by omega) (by omega), I_le (by omega) (by omega) (by omega) (by omega), I_le (by omega) (by omega) (by omega) (by omega)]
    exact b1
  · rw [(v3 k (by omega)).1, (v3 k (by omega)).2, (v3 (k + 1) hk).1, (v3 (k + 1) hk).2]
    have b1 := hb (cpF E M k) (cp_le hM1 (by omega))
    have b2 := hb (cpF E M (k + 1)) (cp_le hM1 (by omega))
    rw [I_inj b1.1.1 b1.1.2 b2.1.1 b2.1.2, I_inj b1.2.1 b1.2.2 b2.2.1 b2.2.2]
    obtain ⟨m0, m1, m2, m3⟩ := cp_mv hE hM1 hk
    have l1 := cp_lt (E := E) hM1 hk
    have l2 := cp_le (E := E) hM1 hk
    have h4 := (hE.1 (cpF E M k) (by omega)).1
    rcases (show E (cpF E M k) = 0 ∨ E (cpF E M k) = 1 ∨ E (cpF E M k) = 2 ∨ E (cpF E M k) = 3 by omega) with q | q | q | q
    · have := m0 q; omega
    · have := m1 q; omega
    · have := m2 q; omega
    · have := m3 q; omega
  · rw [(v3 k (by omega)).2, (v3 (k + 1) (by omega)).2, (v3 (k + 2) hk).2]
    have b1 := hb (cpF E M k) (cp_le hM1 (by omega))
    have b2 := hb (cpF E M (k + 1)) (cp_le hM1 (by omega))
    have b3 := hb (cpF E M (k + 2)) (cp_le hM1 (by omega))
    rw [I_inj b1.2.1 b1.2.2 b2.2.1 b2.2.2, I_inj b2.2.1 b2.2.2 b3.2.1 b3.2.2]
    obtain ⟨m0, m1, m2, m3⟩ := cp_mv hE hM1 (k := k) (by omega)
    obtain ⟨n0, n1, n2, n3⟩ := cp_mv hE hM1 (k := k + 1) hk
    obtain ⟨j, j1, j2, j3, j4⟩ := cp_chg (E := E) hM1 hk
    have j5 := hE.2 j j2
    have h4 := (hE.1 j (by omega)).1
    have h5 := (hE.1 (j + 1) (by omega)).1
    rw [show k + 1 + 1 = k + 2 by omega] at n0 n1 n2 n3
    rw [j1] at n0 n1 n2 n3 m0 m1 m2 m3 ⊢
    rw [← j3] at m0 m1 m2 m3 j4
    unfold opp at j5
    rcases (show E j = 0 ∨ E j = 1 ∨ E j = 2 ∨ E j = 3 by omega) with q | q | q | q
    · have := m0 q
      rcases (show E (j + 1) = 1 ∨ E (j + 1) = 3 by omega) with r | r
      · have := n1 r; omega
      · have := n3 r; omega
    · have := m1 q
      rcases (show E (j + 1) = 0 ∨ E (j + 1) = 2 by omega) with r | r
      · have := n0 r; omega
      · have := n2 r; omega
    · have := m2 q
      rcases (show E (j + 1) = 1 ∨ E (j + 1) = 3 by omega) with r | r
      · have := n1 r; omega
      · have := n3 r; omega
    · have := m3 q
      rcases (show E (j + 1) = 0 ∨ E (j + 1) = 2 by omega) with r | r
      · have := n0 r; omega
      · have := n2 r; omega
  · have hc0 : cntN (chE E) (M - 1) = 0 := by
      have h2' : 2 + cntN (chE E) (M - 1) = 2 := h2
      omega
    have e1 : cpF E M 1 = M := cp_e (by omega) (by omega)
    have hcs : ∀ d, d < M → E d = E 0 := fun d hd => by
      have := cp_cst (E := E) hM1 (k := 0) (by omega) d (by rw [cp_0, e1]; omega)
      rw [cp_0, Nat.zero_add] at this
      exact this
    have hmv : ∀ m, m + 2 ≤ M → MvD (E 0) (qx 1) (qy 1) (qx (m + 2)) (qy (m + 2)) := fun m => by
      induction m with
      | zero =>
        intro h
        have := (hE.1 1 (by omega)).2
        rw [hcs 1 (by omega)] at this
        exact this
      | succ m ih =>
        intro h
        have := (hE.1 (m + 2) (by omega)).2
        rw [hcs (m + 2) (by omega)] at this
        exact (ih (by omega)).tr this
    have a1 : MvD (E 0) (qx 0) (qy 0) (qx 1) (qy 1) := (hE.1 0 (by omega)).2
    have a2 := hmv (M - 2) (by omega)
    rw [show M - 2 + 2 = M by omega] at a2
    have b0 := hb 0 (by omega)
    have b1 := hb M (by omega)
    rw [(v3 0 (by omega)).1, (v3 0 (by omega)).2, (v3 1 (by omega)).1, (v3 1 (by omega)).2, cp_0, e1, I_toInt (by omega) (by omega), I_toInt (by omega) (by omega), I_toInt (by omega) (by omega), I_toInt (by omega) (by omega)]
    have h4 := (hE.1 0 (by omega)).1
    obtain ⟨m0, m1, m2, m3⟩ := a1
    obtain ⟨n0, n1, n2, n3⟩ := a2
    rcases (show E 0 = 0 ∨ E 0 = 1 ∨ E 0 = 2 ∨ E 0 = 3 by omega) with q | q | q | q
    · have := m0 q; have := n0 q; omega
    · have := m1 q; have := n1 q; omega
    · have := m2 q; have := n2 q; omega
    · have := m3 q; have := n3 q; omega
end C2
