/-! ways on a graph of nodes and directions -/
def opp (d : Nat) : Nat := (d + 2) % 4
theorem opp_lt (d : Nat) : opp d < 4 := Nat.mod_lt _ (by omega)
theorem opp_opp {d : Nat} (h : d < 4) : opp (opp d) = d := by unfold opp; omega
abbrev GT : Type := (Nat → Nat → Bool) × (Nat → Nat → Nat) × (Nat → Nat → Nat) × Nat × Nat × Nat
def g_op (G : GT) : Nat → Nat → Bool := G.1
def g_tg (G : GT) : Nat → Nat → Nat := G.2.1
def g_ln (G : GT) : Nat → Nat → Nat := G.2.2.1
def g_p (G : GT) : Nat := G.2.2.2.1
def g_go (G : GT) : Nat := G.2.2.2.2.1
def g_gs (G : GT) : Nat := G.2.2.2.2.2
def bnd (p d e : Nat) : Nat := if e = d then 0 else p
theorem bnd_le (p d e : Nat) : bnd p d e ≤ p := by unfold bnd; split <;> omega
theorem bnd_ne {p d e : Nat} (h : e ≠ d) : bnd p d e = p := if_neg h
theorem bnd_eq (p d : Nat) : bnd p d d = 0 := if_pos rfl
def enB (G : GT) (d : Nat) : Nat := if d = opp (g_gs G) then 0 else g_p G
theorem enB_le (G : GT) (d : Nat) : enB G d ≤ g_p G := by unfold enB; split <;> omega
/-- a way of t steps and of cost c leads from node n, come to in direction d, to the end -/
def Rc (G : GT) : Nat → Nat → Nat → Nat → Prop
  | 0, n, d, c => n = g_go G ∧ d ≠ g_gs G ∧ c = enB G d
  | t + 1, n, d, c => ∃ e c', e < 4 ∧ e ≠ opp d ∧ g_op G n e = true ∧ Rc G t (g_tg G n e) e c' ∧ c = g_ln G n e + bnd (g_p G) d e + c'
def IsV (G : GT) (n d v : Nat) : Prop := (∃ t, Rc G t n d v) ∧ ∀ t c, Rc G t n d c → v ≤ c
theorem IsV.uq {G : GT} {n d v w : Nat} (h : IsV G n d v) (h' : IsV G n d w) : v = w := by
  obtain ⟨⟨t, a⟩, b⟩ := h
  obtain ⟨⟨t', a'⟩, b'⟩ := h'
  have := b _ _ a'
  have := b' _ _ a
  omega
def GOK (G : GT) : Prop := ∀ n e, e < 4 → g_op G n e = true → g_op G (g_tg G n e) (opp e) = true ∧ g_tg G (g_tg G n e) (opp e) = n ∧ g_ln G (g_tg G n e) (opp e) = g_ln G n e ∧ 1 ≤ g_ln G n e ∧ (e = 0 → g_tg G n e + 18 = n) ∧ (e = 1 → g_tg G n e = n + 1) ∧ (e = 2 → g_tg G n e = n + 18) ∧ (e = 3 → g_tg G n e + 1 = n)
def Wlk (G : GT) (N D V : Nat → Nat) (T : Nat) : Prop :=
  (∀ i, i ≤ T → D i < 4 ∧ IsV G (N i) (D i) (V i)) ∧ (∀ i, i < T → D (i + 1) ≠ opp (D i) ∧ g_op G (N i) (D (i + 1)) = true ∧ N (i + 1) = g_tg G (N i) (D (i + 1)) ∧ V i = g_ln G (N i) (D (i + 1)) + bnd (g_p G) (D i) (D (i + 1)) + V (i + 1) ∧ ∀ e t c, e < D (i + 1) → e ≠ opp (D i) → g_op G (N i) e = true → Rc G t (g_tg G (N i) e) e c → V i < g_ln G (N i) e + bnd (g_p G) (D i) e + c) ∧ N T = g_go G ∧ D T ≠ g_gs G ∧ V T = enB G (D T)
section W1
variable {G : GT} {N D V : Nat → Nat} {T : Nat}
theorem wk_dec (hG : GOK G) (hW : Wlk G N D V T) {i : Nat} (h : i < T) : V (i + 1) + 1 + bnd (g_p G) (D i) (D (i + 1)) ≤ V i := by
  obtain ⟨w1, w2, -⟩ := hW
  obtain ⟨a1, a2, a3, a4, -⟩ := w2 i h
  have := (hG (N i) (D (i + 1)) (w1 (i + 1) (by omega)).1 a2).2.2.2.1
  omega
theorem wk_le (hG : GOK G) (hW : Wlk G N D V T) (s : Nat) : ∀ d, s + d ≤ T → V (s + d) + d ≤ V s := by
  intro d
  induction d with
  | zero => intro _; exact Nat.le_refl _
  | succ d ih =>
    intro h
    have h1 := ih (by omega)
    have h2 := wk_dec hG hW (i := s + d) (by omega)
    have h3 : s + (d + 1) = s + d + 1 := by omega
    rw [h3]
    omega
theorem wk_bend (hG : GOK G) (hW : Wlk G N D V T) {s k t : Nat} (h1 : s ≤ k) (h2 : k < t) (h3 : t ≤ T) (hb : D (k + 1) ≠ D k) : V t + 1 + g_p G ≤ V s := by
  have a1 := wk_le hG hW s (k - s) (by omega)
  have a2 := wk_dec hG hW (i := k) (by omega)
  have a3 := wk_le hG hW (k + 1) (t - (k + 1)) (by omega)
  rw [bnd_ne hb] at a2
  rw [show s + (k - s) = k by omega] at a1
  rw [show k + 1 + (t - (k + 1)) = t by omega] at a3
  omega
theorem wk_str (hG : GOK G) (hW : Wlk G N D V T) {s : Nat} : ∀ d, s + d ≤ T → (∀ k, s < k → k ≤ s + d → D k = D (s + 1)) → (D (s + 1) = 0 → N (s + d) + 18 * d = N s) ∧ (D (s + 1) = 1 → N (s + d) = N s + d) ∧ (D (s + 1) = 2 → N (s + d) = N s + 18 * d) ∧ (D (s + 1) = 3 → N (s + d) + d = N s) := by
  intro d
  induction d with
  | zero => intro _ _; exact ⟨fun _ => rfl, fun _ => rfl, fun _ => rfl, fun _ => rfl⟩
  | succ d ih =>
    intro h hd
    obtain ⟨i0, i1, i2, i3⟩ := ih (by omega) (fun k a b => hd k a (by omega))
    have hW' := hW
    obtain ⟨w1, w2, -⟩ := hW
    obtain ⟨a1, a2, a3, a4, -⟩ := w2 (s + d) (by omega)
    have e1 : D (s + d + 1) = D (s + 1) := hd _ (by omega) (by omega)
    obtain ⟨-, -, -, -, b0, b1, b2, b3⟩ := hG (N (s + d)) (D (s + d + 1)) (w1 _ (by omega)).1 a2
    rw [e1] at a3 b0 b1 b2 b3
    rw [show s + (d + 1) = s + d + 1 by omega, a3]
    refine ⟨fun q => ?_, fun q => ?_, fun q => ?_, fun q => ?_⟩
    · have := b0 q; have := i0 q; omega
    · have := b1 q; have := i1 q; omega
    · have := b2 q; have := i2 q; omega
    · have := b3 q; have := i3 q; omega
theorem wk_cst {s t : Nat} (h : ∀ k, s ≤ k → k < t → D (k + 1) = D k) : ∀ d, s + d ≤ t → D (s + d) = D s := by
  intro d
  induction d with
  | zero => intro _; rfl
  | succ d ih =>
    intro q
    rw [← ih (by omega)]
    exact h (s + d) (by omega) (by omega)
/-- a straight part does not come back -/
theorem wk_strne (hG : GOK G) (hW : Wlk G N D V T) {s t : Nat} (h1 : s < t) (h2 : t ≤ T) (h : ∀ k, s ≤ k → k < t → D (k + 1) = D k) : N s ≠ N t := by
  have hc := wk_cst h
  have := wk_str hG hW (s := s) (t - s) (by omega) (fun k a b => by
    have e1 := hc (k - s) (by omega)
    have e2 := hc 1 (by omega)
    rw [show s + (k - s) = k by omega] at e1
    rw [e1, e2])
  rw [show s + (t - s) = t by omega] at this
  obtain ⟨i0, i1, i2, i3⟩ := this
  have hd := (hW.1 (s + 1) (by omega)).1
  intro q
  rcases (show D (s + 1) = 0 ∨ D (s + 1) = 1 ∨ D (s + 1) = 2 ∨ D (s + 1) = 3 by omega) with e | e | e | e
  · have := i0 e; omega
  · have := i1 e; omega
  · have := i2 e; omega
  · have := i3 e; omega
theorem wk_alt (hW : Wlk G N D V T) {i e t c : Nat} (hi : i ≤ T) (he : e < 4) (h1 : e ≠ opp (D i)) (h2 : g_op G (N i) e = true) (h3 : Rc G t (g_tg G (N i) e) e c) : V i ≤ g_ln G (N i) e + bnd (g_p G) (D i) e + c :=
  (hW.1 i hi).2.2 (t + 1) _ ⟨e, c, he, h1, h2, h3, rfl⟩
/-- the next step, come to in another direction -/
theorem wk_oth (hW : Wlk G N D V T) {i x : Nat} (hi : i < T) (hx : D (i + 1) ≠ opp x) : ∃ t, Rc G t (N i) x (g_ln G (N i) (D (i + 1)) + bnd (g_p G) x (D (i + 1)) + V (i + 1)) := by
  obtain ⟨w1, w2, -⟩ := hW
  obtain ⟨a1, a2, a3, a4, -⟩ := w2 i hi
  obtain ⟨t, ht⟩ := (w1 (i + 1) (by omega)).2.1
  rw [a3] at ht
  exact ⟨t + 1, D (i + 1), V (i + 1), (w1 (i + 1) (by omega)).1, hx, a2, ht, rfl⟩
/-- the step back -/
theorem wk_bk (hG : GOK G) (hW : Wlk G N D V T) {i : Nat} (hi : i < T) : g_op G (N (i + 1)) (opp (D (i + 1))) = true ∧ g_tg G (N (i + 1)) (opp (D (i + 1))) = N i ∧ g_ln G (N (i + 1)) (opp (D (i + 1))) = g_ln G (N i) (D (i + 1)) ∧ 1 ≤ g_ln G (N i) (D (i + 1)) := by
  obtain ⟨w1, w2, -⟩ := hW
  obtain ⟨a1, a2, a3, a4, -⟩ := w2 i hi
  obtain ⟨b1, b2, b3, b4, -⟩ := hG (N i) (D (i + 1)) (w1 (i + 1) (by omega)).1 a2
  rw [a3]
  exact ⟨b1, b2, b3, b4⟩
/-- a best way comes to no node twice -/
theorem wk_simple (hG : GOK G) (hW : Wlk G N D V T) (h0 : g_op G (N 0) (opp (D 0)) = false) (hE : g_op G (g_go G) (opp (g_gs G)) = false) (hP : ¬ (N 0 = g_go G ∧ D 0 = g_gs G)) : ∀ s t, s < t → t ≤ T → N s ≠ N t := by
  intro s
  induction s with
  | zero =>
    intro t h1 h2 hq
    by_cases hb : ∀ k, 0 ≤ k → k < t → D (k + 1) = D k
    · exact wk_strne hG hW h1 h2 hb hq
    · obtain ⟨k, hk⟩ : ∃ k, ¬ (0 ≤ k → k < t → D (k + 1) = D k) := Classical.not_forall.mp hb
      have hk1 : k < t := Classical.byContradiction fun q => hk (fun _ q' => absurd q' q)
      have hk2 : D (k + 1) ≠ D k := fun q => hk (fun _ _ => q)
      have hv := wk_bend hG hW (s := 0) (k := k) (t := t) (by omega) hk1 h2 hk2
      by_cases hT : t = T
      · subst hT
        have hgo := hW.2.2.1
        have h5 := (hW.1 0 (by omega)).2.2 0 (enB G (D 0)) ⟨hq.trans hgo, fun q => hP ⟨hq.trans hgo, q⟩, rfl⟩
        have := enB_le G (D 0)
        omega
      · by_cases he : D (t + 1) = opp (D 0)
        · have := (hW.2.1 t (by omega)).2.1
          rw [he, ← hq, h0] at this
          cases this
        · obtain ⟨t', ht'⟩ := wk_oth hW (i := t) (x := D 0) (by omega) he
          rw [← hq] at ht'
          have h5 := (hW.1 0 (by omega)).2.2 _ _ ht'
          have h6 := (hW.2.1 t (by omega)).2.2.2.1
          have := bnd_le (g_p G) (D 0) (D (t + 1))
          rw [hq] at h5
          omega
  | succ s ih =>
    intro t h1 h2 hq
    by_cases hb : ∀ k, s + 1 ≤ k → k < t → D (k + 1) = D k
    · exact wk_strne hG hW h1 h2 hb hq
    · obtain ⟨k, hk⟩ : ∃ k, ¬ (s + 1 ≤ k → k < t → D (k + 1) = D k) := Classical.not_forall.mp hb
      have hk0 : s + 1 ≤ k := Classical.byContradiction fun q => hk (fun q' _ => absurd q' q)
      have hk1 : k < t := Classical.byContradiction fun q => hk (fun _ q' => absurd q' q)
      have hk2 : D (k + 1) ≠ D k := fun q => hk (fun _ _ => q)
      have hv := wk_bend hG hW hk0 hk1 h2 hk2
      have hbk := wk_bk hG hW (i := s) (by omega)
      by_cases hT : t = T
      · subst hT
        have hgo := hW.2.2.1
        have hne : D (s + 1) ≠ g_gs G := fun q => by
          have := hbk.1
          rw [q, hq, hgo, hE] at this
          cases this
        have h5 := (hW.1 (s + 1) (by omega)).2.2 0 (enB G (D (s + 1))) ⟨hq.trans hgo, hne, rfl⟩
        have := enB_le G (D (s + 1))
        omega
      · by_cases he : D (t + 1) = opp (D (s + 1))
        · have h7 := (hW.2.1 t (by omega)).2.2.1
          rw [he, ← hq, hbk.2.1] at h7
          exact ih (t + 1) (by omega) (by omega) h7.symm
        · obtain ⟨t', ht'⟩ := wk_oth hW (i := t) (x := D (s + 1)) (by omega) he
          rw [← hq] at ht'
          have h5 := (hW.1 (s + 1) (by omega)).2.2 _ _ ht'
          have h6 := (hW.2.1 t (by omega)).2.2.2.1
          have := bnd_le (g_p G) (D (s + 1)) (D (t + 1))
          rw [hq] at h5
          omega
end W1
