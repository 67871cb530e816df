/-! lanes: codes of segments; both sides give the same -/
section N2
variable {R : Nat → Option RV} {nl q q' : Nat}
def rvq (R : Nat → Option RV) (q : Nat) : RV := match R (q / 100) with
  | some v => v
  | none => (0, 0, fun _ => 0, fun _ => 0)
theorem rvq_s {v : RV} (h : R (q / 100) = some v) : rvq R q = v := by
  unfold rvq
  rw [h]
def InQ (R : Nat → Option RV) (nl q : Nat) : Prop := q / 100 < nl ∧ ∃ v, R (q / 100) = some v ∧ 1 ≤ q % 100 ∧ q % 100 + 2 < v.2.1
def lvQ (R : Nat → Option RV) (q : Nat) : Bool := lvB (rvq R q) (q % 100)
def liQ (R : Nat → Option RV) (q : Nat) : Int := liS (rvq R q) (q % 100)
def loQ (R : Nat → Option RV) (q : Nat) : Int := loS (rvq R q) (q % 100)
def hiQ (R : Nat → Option RV) (q : Nat) : Int := hiS (rvq R q) (q % 100)
def puV (v : RV) (s : Nat) : Int := if lvB v s = true then rY v (s - 1) + rY v (s + 2) - 2 * rY v s else rX v (s - 1) + rX v (s + 2) - 2 * rX v s
def puQ (R : Nat → Option RV) (q : Nat) : Int := puV (rvq R q) (q % 100)
def coQ (R : Nat → Option RV) (q q' : Nat) : Bool := !(decide (q = q')) && decide (0 < cmI (rvq R q) (rvq R q') (q % 100) (q' % 100))
def ovI (R : Nat → Option RV) (q q' : Nat) : Bool := decide (max (loQ R q) (loQ R q') < min (hiQ R q) (hiQ R q'))
theorem cm_pos {v w : RV} {i j : Nat} : 0 < cmI v w i j ↔ (lvB v i = lvB w j ∧ liS v i = liS w j) ∧ max (loS v i) (loS w j) < min (hiS v i) (hiS w j) := by
  unfold cmI
  by_cases h : lvB v i = lvB w j ∧ liS v i = liS w j
  · rw [if_pos h]
    constructor
    · intro g
      exact ⟨h, by omega⟩
    · intro g
      have := g.2
      omega
  · rw [if_neg h]
    constructor
    · intro g
      omega
    · intro g
      exact absurd g.1 h
theorem coQ_i : coQ R q q' = true ↔ ¬ q = q' ∧ lvQ R q = lvQ R q' ∧ liQ R q = liQ R q' ∧ ovI R q q' = true := by
  unfold coQ ovI
  simp only [Bool.and_eq_true, Bool.not_eq_true', decide_eq_false_iff_not, decide_eq_true_eq, cm_pos]
  unfold lvQ liQ loQ hiQ
  exact ⟨fun h => ⟨h.1, h.2.1.1, h.2.1.2, h.2.2⟩, fun h => ⟨h.1, ⟨h.2.1, h.2.2.1⟩, h.2.2.2⟩⟩
theorem ovI_sym : ovI R q q' = ovI R q' q := by
  unfold ovI
  rw [Int.max_comm, Int.min_comm]
theorem coQ_sym : coQ R q q' = coQ R q' q := by
  cases h : coQ R q q' with
  | true =>
    obtain ⟨h1, h2, h3, h4⟩ := coQ_i.mp h
    exact (coQ_i.mpr ⟨fun e => h1 e.symm, h2.symm, h3.symm, by rw [ovI_sym]; exact h4⟩).symm
  | false =>
    cases h' : coQ R q' q with
    | false => rfl
    | true =>
      obtain ⟨h1, h2, h3, h4⟩ := coQ_i.mp h'
      rw [coQ_i.mpr ⟨fun e => h1 e.symm, h2.symm, h3.symm, by rw [ovI_sym]; exact h4⟩] at h
      exact h.symm
/-- what collisions reach -/
def Rq (R : Nat → Option RV) (nl q0 q : Nat) : Prop := ∀ P : Nat → Prop, P q0 → (∀ x y, P x → InQ R nl y → coQ R y x = true → P y) → P q
theorem Rq.own {q0 : Nat} : Rq R nl q0 q0 := fun _ h _ => h
theorem Rq.go {q0 x y : Nat} (h : Rq R nl q0 x) (hy : InQ R nl y) (hc : coQ R y x = true) : Rq R nl q0 y := fun P h1 h2 => h2 x y (h P h1 h2) hy hc
variable {A B : Nat → Nat} {nA nB bA bB q0 : Nat} {U V : Nat → Bool} {LA LB : Nat → Int} {P : Nat → Prop}
/-- the flags of a list are what is reached -/
theorem fl_iff (hB : LsT P B nB bB) (hP : ∀ y, P y → InQ R nl y) (hin : ∀ x y, P x → InQ R nl y → coQ R y x = true → P y ∧ y < bB) (h0 : P q0) (h0b : q0 < bB) (hU0 : ∀ k, k < nB → B k = q0 → U k = true) (hr : ∀ k, k < nB → U k = true → Rq R nl q0 (B k)) (hcl : ∀ k, k < nB → U k = false → ∀ i, i < nB → U i = true → coQ R (B k) (B i) = false) : ∀ k, k < nB → (U k = true ↔ Rq R nl q0 (B k)) := by
  intro k hk
  refine ⟨hr k hk, fun h => ?_⟩
  have := h (fun z => (P z ∧ z < bB) ∧ ∀ k, k < nB → B k = z → U k = true) ⟨⟨h0, h0b⟩, hU0⟩ (fun x y hx hy hc => by
    obtain ⟨⟨hx1, hxb⟩, hx2⟩ := hx
    refine ⟨hin x y hx1 hy hc, fun j hj e => ?_⟩
    obtain ⟨i, i1, i2⟩ := hB.2.2 x hx1 hxb
    have hUi := hx2 i i1 i2
    cases hj2 : U j with
    | true => rfl
    | false =>
      have := hcl j hj hj2 i i1 hUi
      rw [e, i2, hc] at this
      exact this.symm)
  exact this.2 k hk rfl
theorem prI_q {A B : Nat → Nat} {PA PB : Nat → Prop} (hA : LsT PA A nA bA) (hB : LsT PB B nB bB) {i i' j j' : Nat} (hi : i < nA) (hi' : i' < nA) (hj : j < nB) (hj' : j' < nB) (e : A i = B j) (e' : A i' = B j') (h : prI (fun k => puQ R (A k)) i' i) : prI (fun k => puQ R (B k)) j' j := by
  have h1 := (hA.ij hi' hi).1
  have h2 := (hB.ij hj' hj).1
  unfold prI at h ⊢
  simp only at h ⊢
  rw [e, e'] at h
  rcases h with h | ⟨h, g⟩
  · exact Or.inl h
  · refine Or.inr ⟨h, h2.mp ?_⟩
    have := h1.mpr g
    rwa [e, e'] at this
/-- both sides give the same lanes -/
theorem ln_uq {PA PB : Nat → Prop} {clA clB : Nat → Nat → Bool} {aA aB : Nat} (hA : LsT PA A nA bA) (hB : LsT PB B nB bB) (gA : GI (fun _ => true) (fun k => puQ R (A k)) clA nA LA aA) (gB : GI U (fun k => puQ R (B k)) clB nB LB aB) (fA : ∀ i, i < nA → 0 ≤ LA i) (fB : ∀ j, j < nB → U j = true → 0 ≤ LB j)
    (hcA : ∀ i j, i < nA → j < nA → ¬ i = j → clA i j = coQ R (A i) (A j)) (hcB : ∀ i j, i < nB → j < nB → ¬ i = j → clB i j = coQ R (B i) (B j))
    (xA : ∀ j, j < nB → ∀ i, i < nA → A i = B j → ∀ j', j' < nB → coQ R (B j') (B j) = true → ∃ i', i' < nA ∧ A i' = B j')
    (xB : ∀ i, i < nA → ∀ j, j < nB → A i = B j → U j = true → ∀ i', i' < nA → coQ R (A i') (A i) = true → ∃ j', j' < nB ∧ A i' = B j' ∧ U j' = true) :
    ∀ (i j : Nat), i < nA → j < nB → A i = B j → U j = true → LA i = LB j := by
  have key : ∀ (m i j : Nat), LA i < m → i < nA → j < nB → A i = B j → U j = true → LA i ≤ LB j := by
    intro m
    induction m with
    | zero => intro i j h1 h2; have := fA i h2; omega
    | succ m ih =>
      intro i j h1 h2 h3 h4 h5
      obtain ⟨-, k2⟩ := gA.2.2 i h2 rfl (fA i h2)
      rcases k2 with g | ⟨i', g1, -, g3, g4, g5, g6⟩
      · have := fB j h3 h5
        omega
      · have hne : ¬ i' = i := fun e => by rw [e] at g3; exact prI_ir g3
        rw [hcA i' i g1 h2 hne] at g4
        obtain ⟨j', r1, r2, r3⟩ := xB i h2 j h3 h4 h5 i' g1 g4
        have r4 := ih i' j' (by omega) g1 r1 r2 r3
        have r5 := prI_q hA hB h2 g1 h3 r1 h4 r2 g3
        have hnj : ¬ j' = j := fun e => by rw [e] at r5; exact prI_ir r5
        have r6 := (gB.2.2 j h3 h5 (fB j h3 h5)).1 j' r1 r3 r5 (by rw [hcB j' j r1 h3 hnj, ← r2, ← h4]; exact g4)
        omega
  have key2 : ∀ (m i j : Nat), LB j < m → i < nA → j < nB → A i = B j → U j = true → LB j ≤ LA i := by
    intro m
    induction m with
    | zero => intro i j h1 h2 h3 h4 h5; have := fB j h3 h5; omega
    | succ m ih =>
      intro i j h1 h2 h3 h4 h5
      obtain ⟨-, k2⟩ := gB.2.2 j h3 h5 (fB j h3 h5)
      rcases k2 with g | ⟨j', g1, g2, g3, g4, g5, g6⟩
      · have := fA i h2
        omega
      · have hne : ¬ j' = j := fun e => by rw [e] at g3; exact prI_ir g3
        rw [hcB j' j g1 h3 hne] at g4
        obtain ⟨i', r1, r2⟩ := xA j h3 i h2 h4 j' g1 g4
        have r4 := ih i' j' (by omega) r1 g1 r2 g2
        have r5 := prI_q hB hA h3 g1 h2 r1 h4.symm r2.symm g3
        have hni : ¬ i' = i := fun e => by rw [e] at r5; exact prI_ir r5
        have r6 := (gA.2.2 i h2 rfl (fA i h2)).1 i' r1 rfl r5 (by rw [hcA i' i r1 h2 hni, r2, h4]; exact g4)
        omega
  intro i j h2 h3 h4 h5
  have a1 := key ((LA i).toNat + 1) i j (by omega) h2 h3 h4 h5
  have a2 := key2 ((LB j).toNat + 1) i j (by omega) h2 h3 h4 h5
  omega
end N2
