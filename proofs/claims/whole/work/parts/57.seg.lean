/-! a vertical part of a best way lies at a corner of a box -/
def Cell (G : GT) (cor : Nat → Prop) : Prop :=
  (∀ n m s, (m = 0 ∨ m = 2) → (s = 1 ∨ s = 3) → g_op G n m = true → ¬ cor n → ¬ cor (g_tg G n m) → g_op G n s = true → g_op G (g_tg G n m) s = true → g_op G (g_tg G n s) m = true ∧ g_tg G (g_tg G n s) m = g_tg G (g_tg G n m) s ∧ g_ln G (g_tg G n s) m = g_ln G n m ∧ g_ln G (g_tg G n m) s = g_ln G n s) ∧
  (∀ n m, (m = 0 ∨ m = 2) → g_op G n m = true → ¬ cor n → ¬ cor (g_tg G n m) → g_op G n 1 = true → g_op G (g_tg G n m) 1 = true) ∧
  (∀ n, g_op G n 0 = true → ¬ cor n → ¬ cor (g_tg G n 0) → g_op G n 3 = true → g_op G (g_tg G n 0) 3 = true)
theorem sp_fw {P : Nat → Prop} {i j : Nat} (h0 : P i) (hs : ∀ q, i ≤ q → q < j → P q → P (q + 1)) : ∀ q, i ≤ q → q ≤ j → P q := by
  intro q
  induction q with
  | zero => intro h1 _; rw [show (0 : Nat) = i by omega]; exact h0
  | succ q ih =>
    intro h1 h2
    by_cases h : i = q + 1
    · rw [← h]; exact h0
    · exact hs q (by omega) (by omega) (ih (by omega) (by omega))
theorem sp_bw {P : Nat → Prop} {i j : Nat} (h0 : P j) (hs : ∀ q, i ≤ q → q < j → P (q + 1) → P q) : ∀ d q, q + d = j → i ≤ q → P q := by
  intro d
  induction d with
  | zero => intro q h1 _; rw [show q = j by omega]; exact h0
  | succ d ih => intro q h1 h2; exact hs q h2 (by omega) (ih (q + 1) (by omega) (by omega))
section S1
variable {G : GT} {N D V : Nat → Nat} {T : Nat} {cor : Nat → Prop} {i j m s : Nat}
theorem sg_strip (hW : Wlk G N D V T) (hC : Cell G cor) (hjT : j < T) (hm : m = 0 ∨ m = 2) (hs : s = 1 ∨ s = 3) (hk : ∀ k, i < k → k ≤ j → D k = m) (hn : ∀ q, i ≤ q → q ≤ j → ¬ cor (N q)) (ho : ∀ q, i ≤ q → q ≤ j → g_op G (N q) s = true) : ∀ q, i ≤ q → q < j → g_op G (g_tg G (N q) s) m = true ∧ g_tg G (g_tg G (N q) s) m = g_tg G (N (q + 1)) s ∧ g_ln G (g_tg G (N q) s) m = g_ln G (N q) m ∧ g_ln G (N (q + 1)) s = g_ln G (N q) s := by
  intro q h1 h2
  obtain ⟨a1, a2, a3, -⟩ := hW.2.1 q (by omega)
  rw [hk (q + 1) (by omega) (by omega)] at a2 a3
  have n2 := hn (q + 1) (by omega) (by omega)
  have o2 := ho (q + 1) (by omega) (by omega)
  rw [a3] at n2 o2 ⊢
  exact hC.1 (N q) m s hm hs a2 (hn q h1 (by omega)) n2 (ho q h1 (by omega)) o2
theorem sg_go (hW : Wlk G N D V T) (hij : i < j) (hjT : j < T) (hm : m = 0 ∨ m = 2) (hk : ∀ k, i < k → k ≤ j → D k = m) (hi : D i ≠ m) (hS : ∀ q, i ≤ q → q < j → g_op G (g_tg G (N q) s) m = true ∧ g_tg G (g_tg G (N q) s) m = g_tg G (N (q + 1)) s ∧ g_ln G (g_tg G (N q) s) m = g_ln G (N q) m ∧ g_ln G (N (q + 1)) s = g_ln G (N q) s) {t0 c : Nat} (hR : Rc G t0 (g_tg G (N j) s) m c) : ∃ t C, g_op G (g_tg G (N i) s) m = true ∧ Rc G t (g_tg G (g_tg G (N i) s) m) m C ∧ g_ln G (g_tg G (N i) s) m + g_p G + C + V j = V i + c := by
  have hm4 : m < 4 := by omega
  have hmo : m ≠ opp m := by unfold opp; omega
  have key : ∀ d q, q + d = j → i < q → ∃ t C, Rc G t (g_tg G (N q) s) m C ∧ C + V j = V q + c := by
    intro d
    induction d with
    | zero =>
      intro q h1 _
      rw [show q = j by omega]
      exact ⟨t0, c, hR, by omega⟩
    | succ d ih =>
      intro q h1 h2
      obtain ⟨t, C, e1, e2⟩ := ih (q + 1) (by omega) (by omega)
      obtain ⟨b1, b2, b3, -⟩ := hS q (by omega) (by omega)
      obtain ⟨a1, a2, a3, a4, -⟩ := hW.2.1 q (by omega)
      rw [hk (q + 1) (by omega) (by omega), hk q (by omega) (by omega), bnd_eq] at a4
      rw [← b2] at e1
      refine ⟨t + 1, _, ⟨m, C, hm4, hmo, b1, e1, rfl⟩, ?_⟩
      rw [bnd_eq]
      omega
  obtain ⟨t, C, e1, e2⟩ := key (j - (i + 1)) (i + 1) (by omega) (by omega)
  obtain ⟨b1, b2, b3, -⟩ := hS i (by omega) (by omega)
  obtain ⟨a1, a2, a3, a4, -⟩ := hW.2.1 i (by omega)
  rw [hk (i + 1) (by omega) (by omega), bnd_ne (Ne.symm hi)] at a4
  rw [← b2] at e1
  exact ⟨t, C, b1, e1, by omega⟩
/-- the leg before does not run the other way -/
theorem sg_ex1 (hG : GOK G) (hW : Wlk G N D V T) (hX : ∀ s t, s < t → t ≤ T → N s ≠ N t) (hi : 3 ≤ i) (hij : i < j) (hjT : j + 3 < T) (hm : m = 0 ∨ m = 2) (hs : s = 1 ∨ s = 3) (hk : ∀ k, i < k → k ≤ j → D k = m) (ha : D i = opp s) (hS : ∀ q, i ≤ q → q < j → g_op G (g_tg G (N q) s) m = true ∧ g_tg G (g_tg G (N q) s) m = g_tg G (N (q + 1)) s ∧ g_ln G (g_tg G (N q) s) m = g_ln G (N q) m ∧ g_ln G (N (q + 1)) s = g_ln G (N q) s) (ho : ∀ q, i ≤ q → q ≤ j → g_op G (N q) s = true) : D (i - 1) ≠ opp m := by
  obtain ⟨i, rfl⟩ : ∃ i', i = i' + 3 := ⟨i - 3, by omega⟩
  intro hd
  rw [show i + 3 - 1 = i + 2 by omega] at hd
  have hs4 : s < 4 := by omega
  have hm4 : m < 4 := by omega
  have hos : opp (opp s) = s := opp_opp hs4
  have hom : opp (opp m) = m := opp_opp hm4
  obtain ⟨b1, b2, b3, b4⟩ := hS (i + 3) (by omega) (by omega)
  obtain ⟨k1, k2, k3, k4⟩ := wk_bk hG hW (i := i + 2) (by omega)
  obtain ⟨l1, l2, l3, l4⟩ := wk_bk hG hW (i := i + 1) (by omega)
  rw [ha, hos] at k1 k2 k3
  rw [hd, hom] at l1 l2 l3
  rw [k2] at b1 b2 b3
  rw [l2] at b2
  have o1 := ho (i + 4) (by omega) (by omega)
  obtain ⟨p1, p2, p3, p4, -⟩ := hG (N (i + 4)) s hs4 o1
  rw [← b2] at p1 p2 p3
  have hne1 : D (i + 1) ≠ s := fun q => by
    obtain ⟨q1, q2, q3, q4⟩ := wk_bk hG hW (i := i) (by omega)
    rw [q, p2] at q2
    exact hX i (i + 4) (by omega) (by omega) q2.symm
  have hne2 : D (i + 5) ≠ s := fun q => by
    have q3 := (hW.2.1 (i + 4) (by omega)).2.2.1
    rw [show i + 4 + 1 = i + 5 by omega, q, ← b2] at q3
    exact hX (i + 1) (i + 5) (by omega) (by omega) q3.symm
  obtain ⟨t, hR⟩ := wk_oth hW (i := i + 4) (x := opp s) (by omega) (by rw [hos]; exact hne2)
  rw [← p2] at hR
  have hA := wk_alt hW (i := i + 1) (e := opp s) (by omega) (opp_lt s) (fun q => hne1 (by
    have := congrArg opp q
    rw [hos, opp_opp (hW.1 (i + 1) (by omega)).1] at this
    exact this.symm)) p1 hR
  rw [p2] at hA
  have v1 := (hW.2.1 (i + 4) (by omega)).2.2.2.1
  have v2 := wk_dec hG hW (i := i + 1) (by omega)
  have v3 := (hW.2.1 (i + 2) (by omega)).2.2.2.1
  have v4 := (hW.2.1 (i + 3) (by omega)).2.2.2.1
  have e4 : D (i + 3 + 1) = m := hk _ (by omega) (by omega)
  have e2 : D (i + 2 + 1) = opp s := ha
  have e3 : D (i + 3) = opp s := ha
  have n1 : m ≠ opp s := by unfold opp; omega
  have n2 : opp s ≠ opp m := by unfold opp; omega
  rw [e2, hd, bnd_ne n2] at v3
  rw [e4, e3, bnd_ne n1] at v4
  have z1 := bnd_le (g_p G) (D (i + 1)) (opp s)
  have z2 := bnd_le (g_p G) (opp s) (D (i + 4 + 1))
  have z5 : g_ln G (N (i + 4)) s = g_ln G (N (i + 3)) s := b4
  have z6 : V (i + 2 + 1) = V (i + 3) := rfl
  have z7 : V (i + 3 + 1) = V (i + 4) := rfl
  have z8 : V (i + 1 + 1) = V (i + 2) := rfl
  have z9 : g_ln G (N (i + 2 + 1)) s = g_ln G (N (i + 3)) s := rfl
  have z10 := (hG (N (i + 3)) m hm4 (by rw [← e4]; exact (hW.2.1 (i + 3) (by omega)).2.1)).2.2.2.1
  omega
/-- nor the leg behind -/
theorem sg_ex2 (hG : GOK G) (hW : Wlk G N D V T) (hX : ∀ s t, s < t → t ≤ T → N s ≠ N t) (hi : 3 ≤ i) (hij : i < j) (hjT : j + 3 < T) (hm : m = 0 ∨ m = 2) (hs : s = 1 ∨ s = 3) (hk : ∀ k, i < k → k ≤ j → D k = m) (hb : D (j + 1) = s) (hS : ∀ q, i ≤ q → q < j → g_op G (g_tg G (N q) s) m = true ∧ g_tg G (g_tg G (N q) s) m = g_tg G (N (q + 1)) s ∧ g_ln G (g_tg G (N q) s) m = g_ln G (N q) m ∧ g_ln G (N (q + 1)) s = g_ln G (N q) s) (ho : ∀ q, i ≤ q → q ≤ j → g_op G (N q) s = true) : D (j + 2) ≠ opp m := by
  obtain ⟨j, rfl⟩ : ∃ j', j = j' + 2 := ⟨j - 2, by omega⟩
  intro hd
  have hs4 : s < 4 := by omega
  have hm4 : m < 4 := by omega
  have hos : opp (opp s) = s := opp_opp hs4
  have hom : opp (opp m) = m := opp_opp hm4
  obtain ⟨b1, b2, b3, b4⟩ := hS (j + 1) (by omega) (by omega)
  obtain ⟨a1, a2, a3, a4, -⟩ := hW.2.1 (j + 2) (by omega)
  obtain ⟨c1, c2, c3, c4, -⟩ := hW.2.1 (j + 3) (by omega)
  rw [hb] at a2 a3 a4
  have hd' : D (j + 3 + 1) = opp m := hd
  rw [hd'] at c2 c3 c4
  obtain ⟨d1, d2, d3, d4, -⟩ := hG _ m hm4 b1
  have hb3 : g_tg G (N (j + 1 + 1)) s = N (j + 3) := a3.symm
  rw [b2, hb3] at d2
  have hu : N (j + 4) = g_tg G (N (j + 1)) s := c3.trans d2
  have o1 := ho (j + 1) (by omega) (by omega)
  obtain ⟨p1, p2, p3, p4, -⟩ := hG (N (j + 1)) s hs4 o1
  have hne1 : D (j + 1) ≠ opp s := fun q => by
    obtain ⟨q1, q2, q3, q4⟩ := wk_bk hG hW (i := j) (by omega)
    rw [q, hos, ← hu] at q2
    exact hX j (j + 4) (by omega) (by omega) q2.symm
  have hne2 : D (j + 5) ≠ opp s := fun q => by
    have q3 := (hW.2.1 (j + 4) (by omega)).2.2.1
    rw [show j + 4 + 1 = j + 5 by omega, q, hu, p2] at q3
    exact hX (j + 1) (j + 5) (by omega) (by omega) q3.symm
  obtain ⟨t, hR⟩ := wk_oth hW (i := j + 4) (x := s) (by omega) hne2
  rw [hu] at hR
  have hA := wk_alt hW (i := j + 1) (e := s) (by omega) hs4 (fun q => hne1 (by
    have := congrArg opp q
    rw [opp_opp (hW.1 (j + 1) (by omega)).1] at this
    exact this.symm)) o1 hR
  rw [← hu] at hA
  have v1 := (hW.2.1 (j + 4) (by omega)).2.2.2.1
  have v2 := wk_dec hG hW (i := j + 1) (by omega)
  have e2 : D (j + 2) = m := hk _ (by omega) (by omega)
  have n1 : s ≠ m := by omega
  have n2 : opp m ≠ s := by unfold opp; omega
  have e3 : D (j + 3) = s := hb
  rw [e2, bnd_ne n1] at a4
  rw [e3, bnd_ne n2] at c4
  have z1 := bnd_le (g_p G) (D (j + 1)) s
  have z2 := bnd_le (g_p G) s (D (j + 4 + 1))
  have z5 : g_ln G (N (j + 2)) s = g_ln G (N (j + 1)) s := b4
  have z6 : V (j + 2 + 1) = V (j + 3) := rfl
  have z7 : V (j + 3 + 1) = V (j + 4) := rfl
  have z8 : V (j + 1 + 1) = V (j + 2) := rfl
  have z10 := (hG (N (j + 3)) (opp m) (opp_lt m) c2).2.2.2.1
  omega
theorem sg_main (hG : GOK G) (hW : Wlk G N D V T) (hC : Cell G cor) (hX : ∀ s t, s < t → t ≤ T → N s ≠ N t) (hi : 3 ≤ i) (hij : i < j) (hjT : j + 3 < T) (hm : D (i + 1) = 0 ∨ D (i + 1) = 2) (hk : ∀ k, i < k → k ≤ j → D k = D (i + 1)) (ha : D (i + 1) ≠ D i) (hb : D (j + 1) ≠ D (i + 1)) : ∃ q, i ≤ q ∧ q ≤ j ∧ cor (N q) := by
  refine Classical.byContradiction fun hno => ?_
  have hn : ∀ q, i ≤ q → q ≤ j → ¬ cor (N q) := fun q h1 h2 h3 => hno ⟨q, h1, h2, h3⟩
  generalize hmm : D (i + 1) = m at hm hk ha hb
  have hm4 : m < 4 := by omega
  obtain ⟨i, rfl⟩ : ∃ i', i = i' + 1 := ⟨i - 1, by omega⟩
  have a4 := (hW.1 (i + 1) (by omega)).1
  have b4 := (hW.1 (j + 1) (by omega)).1
  have ao := (hW.2.1 (i + 1) (by omega)).1
  have bo := (hW.2.1 j (by omega)).1
  rw [hmm] at ao
  rw [hk j (by omega) (by omega)] at bo
  have ha1 : D (i + 1) = 1 ∨ D (i + 1) = 3 := by unfold opp at ao; omega
  have hb1 : D (j + 1) = 1 ∨ D (j + 1) = 3 := by unfold opp at bo; omega
  have bkA := wk_bk hG hW (i := i) (by omega)
  have stB := hW.2.1 j (by omega)
  have oF : ∀ q, i + 1 ≤ q → q < j → g_op G (N q) m = true ∧ N (q + 1) = g_tg G (N q) m := fun q h1 h2 => by
    obtain ⟨x1, x2, x3, -⟩ := hW.2.1 q (by omega)
    rw [hk (q + 1) (by omega) (by omega)] at x2 x3
    exact ⟨x2, x3⟩
  have oB : ∀ q, i + 1 ≤ q → q < j → g_op G (N (q + 1)) (opp m) = true ∧ N q = g_tg G (N (q + 1)) (opp m) := fun q h1 h2 => by
    obtain ⟨x1, x2, -⟩ := wk_bk hG hW (i := q) (by omega)
    rw [hk (q + 1) (by omega) (by omega)] at x1 x2
    exact ⟨x1, x2.symm⟩
  have omv : opp m = 0 ∨ opp m = 2 := by unfold opp; omega
  -- the side on the right, open at the first node, or at the last one
  have rF : g_op G (N (i + 1)) 1 = true → ∀ q, i + 1 ≤ q → q ≤ j → g_op G (N q) 1 = true := fun h0 => sp_fw h0 fun q h1 h2 h3 => by
    obtain ⟨x1, x2⟩ := oF q h1 h2
    have n2 := hn (q + 1) (by omega) (by omega)
    rw [x2] at n2 ⊢
    exact hC.2.1 _ m hm x1 (hn q h1 (by omega)) n2 h3
  have rB : g_op G (N j) 1 = true → ∀ q, i + 1 ≤ q → q ≤ j → g_op G (N q) 1 = true := fun h0 q h1 h2 => sp_bw (P := fun q => g_op G (N q) 1 = true) (i := i + 1) h0 (fun q h1 h2 h3 => by
    obtain ⟨x1, x2⟩ := oB q h1 h2
    have n2 := hn q (by omega) (by omega)
    show g_op G (N q) 1 = true
    rw [x2] at n2 ⊢
    exact hC.2.1 _ (opp m) omv x1 (hn (q + 1) (by omega) (by omega)) n2 h3) (j - q) q (by omega) h1
  have lF : m = 0 → g_op G (N (i + 1)) 3 = true → ∀ q, i + 1 ≤ q → q ≤ j → g_op G (N q) 3 = true := fun hm0 h0 => sp_fw h0 fun q h1 h2 h3 => by
    obtain ⟨x1, x2⟩ := oF q h1 h2
    have n2 := hn (q + 1) (by omega) (by omega)
    rw [hm0] at x1 x2
    rw [x2] at n2 ⊢
    exact hC.2.2 _ x1 (hn q h1 (by omega)) n2 h3
  have lB : m = 2 → g_op G (N j) 3 = true → ∀ q, i + 1 ≤ q → q ≤ j → g_op G (N q) 3 = true := fun hm0 h0 q h1 h2 => sp_bw (P := fun q => g_op G (N q) 3 = true) (i := i + 1) h0 (fun q h1 h2 h3 => by
    obtain ⟨x1, x2⟩ := oB q h1 h2
    have n2 := hn q (by omega) (by omega)
    show g_op G (N q) 3 = true
    rw [hm0] at x1 x2
    rw [x2] at n2 ⊢
    exact hC.2.2 _ x1 (hn (q + 1) (by omega) (by omega)) n2 h3) (j - q) q (by omega) h1
  have hi' : D (i + 1) ≠ m := Ne.symm ha
  -- U
  have caseU : ∀ s, (s = 1 ∨ s = 3) → D (i + 1) = opp s → D (j + 1) = s → (∀ q, i + 1 ≤ q → q ≤ j → g_op G (N q) s = true) → False := by
    intro s hs e1 e2 ho
    have hs4 : s < 4 := by omega
    have hS := sg_strip hW hC (by omega) hm hs hk hn ho
    have x1 := sg_ex1 hG hW hX hi (by omega) hjT hm hs hk e1 hS ho
    have x2 := sg_ex2 hG hW hX hi (by omega) hjT hm hs hk e2 hS ho
    rw [show i + 1 - 1 = i by omega] at x1
    obtain ⟨t, hR⟩ := wk_oth hW (i := j + 1) (x := m) (by omega) x2
    have y1 := stB.2.2.1
    rw [e2] at y1
    rw [y1] at hR
    obtain ⟨t', C, g1, g2, g3⟩ := sg_go hW (by omega) (by omega) hm hk hi' hS hR
    obtain ⟨k1, k2, k3, k4⟩ := bkA
    rw [e1, opp_opp hs4] at k1 k2 k3
    rw [k2] at g1 g2 g3
    have hA := wk_alt hW (i := i) (e := m) (by omega) hm4 (fun q => x1 (by rw [q, opp_opp (hW.1 i (by omega)).1])) g1 g2
    have z1 := bnd_le (g_p G) (D i) m
    have z2 := bnd_le (g_p G) m (D (j + 1 + 1))
    have v1 := (hW.2.1 (j + 1) (by omega)).2.2.2.1
    have v2 := stB.2.2.2.1
    have v3 := wk_dec hG hW (i := i) (by omega)
    rw [← y1] at g3
    rw [hk j (by omega) (by omega), bnd_ne hb] at v2
    omega
  have caseE : ∀ s, (s = 1 ∨ s = 3) → D (i + 1) = opp s → D (j + 1) = opp s → m < opp s → (∀ q, i + 1 ≤ q → q ≤ j → g_op G (N q) s = true) → False := by
    intro s hs e1 e2 hlt ho
    have hs4 : s < 4 := by omega
    have hS := sg_strip hW hC (by omega) hm hs hk hn ho
    have x1 := sg_ex1 hG hW hX hi (by omega) hjT hm hs hk e1 hS ho
    rw [show i + 1 - 1 = i by omega] at x1
    obtain ⟨t, hR⟩ := wk_oth hW (i := j) (x := opp s) (by omega) (by rw [e2, opp_opp hs4]; unfold opp; omega)
    obtain ⟨p1, p2, p3, p4, -⟩ := hG (N j) s hs4 (ho j (by omega) (by omega))
    have hR2 : Rc G (t + 1) (g_tg G (N j) s) m (g_ln G (g_tg G (N j) s) (opp s) + bnd (g_p G) m (opp s) + (g_ln G (N j) (D (j + 1)) + bnd (g_p G) (opp s) (D (j + 1)) + V (j + 1))) := ⟨opp s, _, opp_lt s, by unfold opp; omega, p1, by rw [p2]; exact hR, rfl⟩
    obtain ⟨t', C, g1, g2, g3⟩ := sg_go hW (by omega) (by omega) hm hk hi' hS hR2
    obtain ⟨k1, k2, k3, k4⟩ := bkA
    rw [e1, opp_opp hs4] at k1 k2 k3
    rw [k2] at g1 g2 g3
    have hl : ∀ q, i + 1 ≤ q → q ≤ j → g_ln G (N q) s = g_ln G (N (i + 1)) s := sp_fw rfl fun q h1 h2 h3 => ((hS q h1 h2).2.2.2).trans h3
    have hlj := hl j (by omega) (by omega)
    have z1 := bnd_le (g_p G) (D i) m
    have v0 := (hW.2.1 i (by omega)).2.2.2.1
    have hA := (hW.2.1 i (by omega)).2.2.2.2 m t' C (by rw [e1]; exact hlt) (fun q => x1 (by rw [q, opp_opp (hW.1 i (by omega)).1])) g1 g2
    have v2 := stB.2.2.2.1
    have n1 : opp s ≠ m := by omega
    rw [hk j (by omega) (by omega), e2, bnd_ne n1] at v2
    rw [e2, bnd_eq, bnd_ne n1, p3] at g3
    rw [e1] at v0
    omega
  have caseL : m = 2 → D (i + 1) = 1 → D (j + 1) = 1 → (∀ q, i + 1 ≤ q → q ≤ j → g_op G (N q) 1 = true) → False := by
    intro hm2 e1 e2 ho
    have hS := sg_strip hW hC (by omega) hm (Or.inl rfl) hk hn ho
    have x2 := sg_ex2 hG hW hX hi (by omega) hjT hm (Or.inl rfl) hk e2 hS ho
    obtain ⟨t, hR⟩ := wk_oth hW (i := j + 1) (x := m) (by omega) x2
    have y1 := stB.2.2.1
    rw [e2] at y1
    rw [y1] at hR
    obtain ⟨t', C, g1, g2, g3⟩ := sg_go hW (by omega) (by omega) hm hk hi' hS hR
    have n1 : m ≠ 1 := by omega
    have hR3 : Rc G (t' + 1) (g_tg G (N (i + 1)) 1) 1 (g_ln G (g_tg G (N (i + 1)) 1) m + bnd (g_p G) 1 m + C) := ⟨m, C, hm4, by unfold opp; omega, g1, g2, rfl⟩
    have hA := (hW.2.1 (i + 1) (by omega)).2.2.2.2 1 _ _ (by rw [hmm]; omega) (by rw [e1]; unfold opp; omega) (ho (i + 1) (by omega) (by omega)) hR3
    rw [e1, bnd_eq, bnd_ne n1] at hA
    have z2 := bnd_le (g_p G) m (D (j + 1 + 1))
    have v1 := (hW.2.1 (j + 1) (by omega)).2.2.2.1
    have v2 := stB.2.2.2.1
    have hl : ∀ q, i + 1 ≤ q → q ≤ j → g_ln G (N q) 1 = g_ln G (N (i + 1)) 1 := sp_fw rfl fun q h1 h2 h3 => ((hS q h1 h2).2.2.2).trans h3
    have hlj := hl j (by omega) (by omega)
    rw [← y1] at g3
    rw [hk j (by omega) (by omega), e2, bnd_ne (Ne.symm n1)] at v2
    omega
  rcases ha1 with a1 | a1 <;> rcases hb1 with b1 | b1
  · -- right, m, right
    rcases hm with h0 | h2
    · refine caseE 3 (Or.inr rfl) a1 b1 (by rw [h0]; decide) (lF h0 ?_)
      have := bkA.1
      rw [a1] at this
      exact this
    · refine caseL h2 a1 b1 (rB ?_)
      have := stB.2.1
      rw [b1] at this
      exact this
  · -- right, m, left
    refine caseU 3 (Or.inr rfl) a1 b1 ?_
    rcases hm with h0 | h2
    · refine lF h0 ?_
      have := bkA.1
      rw [a1] at this
      exact this
    · refine lB h2 ?_
      have := stB.2.1
      rw [b1] at this
      exact this
  · refine caseU 1 (Or.inl rfl) a1 b1 (rF ?_)
    have := bkA.1
    rw [a1] at this
    exact this
  · refine caseE 1 (Or.inl rfl) a1 b1 (by show m < 3; omega) (rF ?_)
    have := bkA.1
    rw [a1] at this
    exact this
end S1
