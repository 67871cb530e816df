/-! run -/
section U5
variable {F : Nat} {σ σ' : CSt} {τ τ' : MS} {n p w q f : Nat} {T : Nat → Int32}
theorem nm_1 {x : Nat} (h : nmK T n x = true) : x + 1 ≤ nmE T n x := by
  unfold nmK at h
  simp only [Bool.and_eq_true, decide_eq_true_eq] at h
  have : x ≤ nmQ T n x := stN_ge
  omega
theorem nm_2 {x y : Nat} (hx : x = nmE T n y) (hn : x ≤ n) (h : nmK T n x = true) : x + 2 ≤ nmE T n x := by
  unfold nmK at h
  simp only [Bool.and_eq_true, decide_eq_true_eq] at h
  have h1 : x ≤ nmQ T n x := stN_ge
  rcases Nat.lt_or_ge x (nmQ T n x) with z | z
  · omega
  · have e : nmQ T n x = x := by omega
    have h2 := stN_in (q := isD) (T := T) (n := n) (p := nmQ T n x) (j := nmQ T n x) (Nat.le_refl _) h.1
    have h3 := nmE_le (T := T) hn
    rw [e] at h2 h
    have h4 := stN_at (q := isD) (T := T) (n := n) (p := nmQ T n y) (by unfold nmE at hx; omega)
    have hx' : x = stN isD T n (nmQ T n y) := hx
    rw [← hx', h2] at h4
    cases h4
theorem PO_cst (h : PO T n p w q) (hp : p ≤ n) : p + cst w ≤ q + 1 := by
  obtain ⟨h1, h2, h3, h4, -⟩ := h
  have l := wdN_len h1 h2
  have a1 : p ≤ nmQ T n p := stN_ge
  have a0 : nmQ T n p ≤ wdE T n p := wdE_ge
  have a3 : ag T n (wdE T n p) (aW w) ≤ nmQ T n (ag T n (wdE T n p) (aW w)) := stN_ge
  have g : ∀ k, k < aW w → ag T n (wdE T n p) k + 1 ≤ ag T n (wdE T n p) (k + 1) := fun k hk => nm_1 (h3 k hk)
  rcases j6 h1 with rfl | rfl | rfl | rfl | rfl | rfl
  · have l : wdE T n p - nmQ T n p = 3 := l
    have g0 := g 0 (by decide)
    have g1 : ag T n (wdE T n p) 1 + 2 ≤ ag T n (wdE T n p) 2 := nm_2 (y := ag T n (wdE T n p) 0) rfl (ag_le (wdE_le hp) 1) (h3 1 (by decide))
    have g2 := g 2 (by decide)
    have g3 := g 3 (by decide)
    have z : ag T n (wdE T n p) 0 = wdE T n p := rfl
    have a3 : ag T n (wdE T n p) 4 ≤ nmQ T n (ag T n (wdE T n p) 4) := a3
    have h4 : q = nmQ T n (ag T n (wdE T n p) 4) := h4
    show p + 9 ≤ q + 1
    simp only [Nat.zero_add, Nat.reduceAdd] at g0 g2 g3
    omega
  · have l : wdE T n p - nmQ T n p = 4 := l
    have g0 := g 0 (by decide)
    have g1 := g 1 (by decide)
    have g2 := g 2 (by decide)
    have g3 := g 3 (by decide)
    have g4 := g 4 (by decide)
    have g5 := g 5 (by decide)
    have z : ag T n (wdE T n p) 0 = wdE T n p := rfl
    have a3 : ag T n (wdE T n p) 6 ≤ nmQ T n (ag T n (wdE T n p) 6) := a3
    have h4 : q = nmQ T n (ag T n (wdE T n p) 6) := h4
    show p + 11 ≤ q + 1
    simp only [Nat.zero_add, Nat.reduceAdd] at g0 g1 g2 g3 g4 g5
    omega
  · have l : wdE T n p - nmQ T n p = 5 := l
    have g0 := g 0 (by decide)
    have z : ag T n (wdE T n p) 0 = wdE T n p := rfl
    have a3 : ag T n (wdE T n p) 1 ≤ nmQ T n (ag T n (wdE T n p) 1) := a3
    have h4 : q = nmQ T n (ag T n (wdE T n p) 1) := h4
    show p + 7 ≤ q + 1
    simp only [Nat.zero_add, Nat.reduceAdd] at g0
    omega
  · have l : wdE T n p - nmQ T n p = 4 := l
    have g0 := g 0 (by decide)
    have z : ag T n (wdE T n p) 0 = wdE T n p := rfl
    have a3 : ag T n (wdE T n p) 1 ≤ nmQ T n (ag T n (wdE T n p) 1) := a3
    have h4 : q = nmQ T n (ag T n (wdE T n p) 1) := h4
    show p + 6 ≤ q + 1
    simp only [Nat.zero_add, Nat.reduceAdd] at g0
    omega
  · have l : wdE T n p - nmQ T n p = 7 := l
    have g0 := g 0 (by decide)
    have z : ag T n (wdE T n p) 0 = wdE T n p := rfl
    have a3 : ag T n (wdE T n p) 1 ≤ nmQ T n (ag T n (wdE T n p) 1) := a3
    have h4 : q = nmQ T n (ag T n (wdE T n p) 1) := h4
    show p + 9 ≤ q + 1
    simp only [Nat.zero_add, Nat.reduceAdd] at g0
    omega
  · have l : wdE T n p - nmQ T n p = 3 := l
    have z : ag T n (wdE T n p) 0 = wdE T n p := rfl
    have a3 : ag T n (wdE T n p) 0 ≤ nmQ T n (ag T n (wdE T n p) 0) := a3
    have h4 : q = nmQ T n (ag T n (wdE T n p) 0) := h4
    show p + 4 ≤ q + 1
    omega
theorem PO_PF (h : PO T n p w q) (h' : PF T n p f) : False := by
  obtain ⟨b1, b2, b3, b4, b5⟩ := h
  rcases h' with ⟨c1, -⟩ | ⟨w', c1, c2, hA⟩
  · exact I6_m1 b1 (b2.symm.trans c1)
  · have := I6_inj b1 c1 (b2.symm.trans c2)
    subst this
    rcases hA with ⟨i, d1, -, d3, -⟩ | ⟨-, rfl, d3, d4⟩
    · exact absurd ((b3 i d1).symm.trans d3) (by decide)
    · exact d4 (by rw [← b4]; exact b5 (by omega))
theorem PO_uq {w' q' : Nat} (h : PO T n p w q) (h' : PO T n p w' q') : w' = w ∧ q' = q := by
  obtain ⟨b1, b2, -, b4, -⟩ := h
  obtain ⟨c1, c2, -, c4, -⟩ := h'
  have := I6_inj b1 c1 (b2.symm.trans c2)
  subst this
  exact ⟨rfl, c4.trans b4.symm⟩
end U5
