/-! lanes: what both sides compute -/
section N1
/-- the order in which lanes are given -/
def prI (p : Nat → Int) (i j : Nat) : Prop := p i < p j ∨ (p i = p j ∧ i < j)
theorem prI_tot {p : Nat → Int} {i j : Nat} (h : ¬ i = j) : prI p i j ∨ prI p j i := by
  unfold prI
  omega
theorem prI_tr {p : Nat → Int} {i j k : Nat} (h1 : prI p i j) (h2 : prI p j k) : prI p i k := by
  unfold prI at h1 h2 ⊢
  omega
theorem prI_ir {p : Nat → Int} {i : Nat} : ¬ prI p i i := by
  unfold prI
  omega
def updI (L : Nat → Int) (t : Nat) (x : Int) : Nat → Int := fun j => if j = t then x else L j
def updB (U : Nat → Bool) (t : Nat) : Nat → Bool := fun j => if j = t then true else U j
def updN (B : Nat → Nat) (t x : Nat) : Nat → Nat := fun j => if j = t then x else B j
/-- lanes given so far (-1: none yet) -/
def GI (U : Nat → Bool) (p : Nat → Int) (cl : Nat → Nat → Bool) (n : Nat) (L : Nat → Int) (a : Nat) : Prop :=
  (∀ k, k < n → U k = true → -1 ≤ L k ∧ L k < a) ∧ (∀ k j, k < n → j < n → U k = true → U j = true → 0 ≤ L k → prI p j k → 0 ≤ L j) ∧ (∀ k, k < n → U k = true → 0 ≤ L k → (∀ j, j < n → U j = true → prI p j k → cl j k = true → L j < L k) ∧ (L k = 0 ∨ ∃ j, j < n ∧ U j = true ∧ prI p j k ∧ cl j k = true ∧ 0 ≤ L j ∧ L k = L j + 1))
variable {U : Nat → Bool} {p : Nat → Int} {cl : Nat → Nat → Bool} {n a t : Nat} {L : Nat → Int} {x : Int}
theorem GI.step (h : GI U p cl n L a) (ht : t < n) (hU : U t = true) (hL : L t < 0) (hmin : ∀ j, j < n → U j = true → L j < 0 → j = t ∨ prI p t j) (hx0 : 0 ≤ x) (hx1 : ∀ j, j < n → U j = true → 0 ≤ L j → cl j t = true → L j < x) (hx2 : x = 0 ∨ ∃ j, j < n ∧ U j = true ∧ 0 ≤ L j ∧ cl j t = true ∧ x = L j + 1) : GI U p cl n (updI L t x) (a + 1) := by
  obtain ⟨h1, h2, h3⟩ := h
  have ut : updI L t x t = x := if_pos rfl
  have un : ∀ j, ¬ j = t → updI L t x j = L j := fun j hj => if_neg hj
  have hass : ∀ j, j < n → U j = true → 0 ≤ L j → prI p j t := fun j hj hUj hLj => by
    have hne : ¬ j = t := fun e => by rw [e] at hLj; omega
    rcases prI_tot (p := p) hne with g | g
    · exact g
    · have := h2 j t hj ht hUj hU hLj g
      omega
  have hasn : ∀ j, j < n → U j = true → prI p j t → 0 ≤ L j := fun j hj hUj hp => by
    rcases Int.lt_or_le (L j) 0 with g | g
    · rcases hmin j hj hUj g with e | e
      · rw [e] at hp
        exact absurd hp prI_ir
      · exact absurd (prI_tr hp e) prI_ir
    · exact g
  refine ⟨fun k hk hUk => ?_, fun k j hk hj hUk hUj hLk hp => ?_, fun k hk hUk hLk => ?_⟩
  · by_cases e : k = t
    · subst e
      rw [ut]
      refine ⟨by omega, ?_⟩
      rcases hx2 with g | ⟨j, g1, g2, g3, g4, g5⟩
      · omega
      · have := (h1 j g1 g2).2
        omega
    · rw [un k e]
      have := h1 k hk hUk
      omega
  · by_cases e : j = t
    · rw [e, ut]
      exact hx0
    · rw [un j e]
      by_cases e2 : k = t
      · rw [e2] at hp
        exact hasn j hj hUj hp
      · rw [un k e2] at hLk
        exact h2 k j hk hj hUk hUj hLk hp
  · by_cases e : k = t
    · subst e
      rw [ut]
      refine ⟨fun j hj hUj hp hc => ?_, ?_⟩
      · have hne : ¬ j = k := fun e => by rw [e] at hp; exact prI_ir hp
        rw [un j hne]
        exact hx1 j hj hUj (hasn j hj hUj hp) hc
      · rcases hx2 with g | ⟨j, g1, g2, g3, g4, g5⟩
        · exact Or.inl g
        · have hne : ¬ j = k := fun e => by rw [e] at g3; omega
          exact Or.inr ⟨j, g1, g2, hass j g1 g2 g3, g4, by rw [un j hne]; exact g3, by rw [un j hne]; exact g5⟩
    · rw [un k e] at hLk ⊢
      obtain ⟨k1, k2⟩ := h3 k hk hUk hLk
      refine ⟨fun j hj hUj hp hc => ?_, ?_⟩
      · have hne : ¬ j = t := fun e2 => by
          rw [e2] at hp
          have := h2 k t hk ht hUk hU hLk hp
          omega
        rw [un j hne]
        exact k1 j hj hUj hp hc
      · rcases k2 with g | ⟨j, g1, g2, g3, g4, g5, g6⟩
        · exact Or.inl g
        · have hne : ¬ j = t := fun e2 => by rw [e2] at g5; omega
          exact Or.inr ⟨j, g1, g2, g3, g4, by rw [un j hne]; exact g5, by rw [un j hne]; exact g6⟩
theorem GI.zero (hL : ∀ k, L k = -1) : GI U p cl n L 0 := ⟨fun k _ _ => by rw [hL k]; omega, fun k j _ _ _ _ h => by rw [hL k] at h; omega, fun k _ _ h => by rw [hL k] at h; omega⟩
/-- the lane of the next one -/
def lnN (U : Nat → Bool) (cl : Nat → Nat → Bool) (L : Nat → Int) (t : Nat) : Nat → Int
  | 0 => 0
  | j + 1 => if U j = true ∧ 0 ≤ L j ∧ cl j t = true ∧ lnN U cl L t j ≤ L j then L j + 1 else lnN U cl L t j
theorem lnN_ok : ∀ m, 0 ≤ lnN U cl L t m ∧ (∀ j, j < m → U j = true → 0 ≤ L j → cl j t = true → L j < lnN U cl L t m) ∧ (lnN U cl L t m = 0 ∨ ∃ j, j < m ∧ U j = true ∧ 0 ≤ L j ∧ cl j t = true ∧ lnN U cl L t m = L j + 1)
  | 0 => ⟨Int.le_refl _, fun j hj => absurd hj (Nat.not_lt_zero _), Or.inl rfl⟩
  | m + 1 => by
    obtain ⟨h1, h2, h3⟩ := lnN_ok m
    by_cases q : U m = true ∧ 0 ≤ L m ∧ cl m t = true ∧ lnN U cl L t m ≤ L m
    · have e : lnN U cl L t (m + 1) = L m + 1 := if_pos q
      obtain ⟨q1, q2, q3, q4⟩ := q
      rw [e]
      refine ⟨by omega, fun j hj g1 g2 g3 => ?_, Or.inr ⟨m, by omega, q1, q2, q3, rfl⟩⟩
      by_cases ej : j = m
      · rw [ej]
        omega
      · have := h2 j (by omega) g1 g2 g3
        omega
    · have e : lnN U cl L t (m + 1) = lnN U cl L t m := if_neg q
      rw [e]
      refine ⟨h1, fun j hj g1 g2 g3 => ?_, ?_⟩
      · by_cases ej : j = m
        · subst ej
          rcases Int.lt_or_le (L j) (lnN U cl L t j) with g | g
          · exact g
          · exact absurd ⟨g1, g2, g3, g⟩ q
        · exact h2 j (by omega) g1 g2 g3
      · rcases h3 with g | ⟨j, g1, g2⟩
        · exact Or.inl g
        · exact Or.inr ⟨j, by omega, g2⟩
theorem lnN_le (h : GI U p cl n L a) : ∀ m, m ≤ n → lnN U cl L t m ≤ a := fun m hm => by
  obtain ⟨-, -, h3⟩ := lnN_ok (U := U) (cl := cl) (L := L) (t := t) m
  rcases h3 with g | ⟨j, g1, g2, -, -, g5⟩
  · omega
  · have := (h.1 j (by omega) g2).2
    omega
/-- the next one -/
def nxN (U : Nat → Bool) (p : Nat → Int) (L : Nat → Int) : Nat → Option Nat
  | 0 => none
  | j + 1 => match nxN U p L j with
    | none => if U j = true ∧ L j < 0 then some j else none
    | some b => if U j = true ∧ L j < 0 ∧ p j < p b then some j else some b
theorem nxN_n {j : Nat} (h : nxN U p L j = none) : nxN U p L (j + 1) = if U j = true ∧ L j < 0 then some j else none := by
  show (match nxN U p L j with
    | none => if U j = true ∧ L j < 0 then some j else none
    | some b => if U j = true ∧ L j < 0 ∧ p j < p b then some j else some b) = _
  rw [h]
theorem nxN_s {j b : Nat} (h : nxN U p L j = some b) : nxN U p L (j + 1) = if U j = true ∧ L j < 0 ∧ p j < p b then some j else some b := by
  show (match nxN U p L j with
    | none => if U j = true ∧ L j < 0 then some j else none
    | some b => if U j = true ∧ L j < 0 ∧ p j < p b then some j else some b) = _
  rw [h]
def nxS (U : Nat → Bool) (p : Nat → Int) (L : Nat → Int) (m : Nat) (o : Option Nat) : Prop := match o with
  | none => ∀ j, j < m → U j = true → 0 ≤ L j
  | some b => b < m ∧ U b = true ∧ L b < 0 ∧ ∀ j, j < m → U j = true → L j < 0 → j = b ∨ prI p b j
theorem nxN_ok : ∀ m, nxS U p L m (nxN U p L m)
  | 0 => fun j hj => absurd hj (Nat.not_lt_zero _)
  | m + 1 => by
    have ih := nxN_ok m
    cases hq : nxN U p L m with
    | none =>
      rw [hq] at ih
      have ih : ∀ j, j < m → U j = true → 0 ≤ L j := ih
      rw [nxN_n hq]
      by_cases q : U m = true ∧ L m < 0
      · rw [if_pos q]
        refine ⟨by omega, q.1, q.2, fun j hj g1 g2 => ?_⟩
        by_cases ej : j = m
        · exact Or.inl ej
        · have := ih j (by omega) g1
          omega
      · rw [if_neg q]
        intro j hj g1
        by_cases ej : j = m
        · subst ej
          rcases Int.lt_or_le (L j) 0 with g | g
          · exact absurd ⟨g1, g⟩ q
          · exact g
        · exact ih j (by omega) g1
    | some b =>
      rw [hq] at ih
      obtain ⟨i1, i2, i3, i4⟩ := ih
      rw [nxN_s hq]
      by_cases q : U m = true ∧ L m < 0 ∧ p m < p b
      · rw [if_pos q]
        refine ⟨by omega, q.1, q.2.1, fun j hj g1 g2 => ?_⟩
        by_cases ej : j = m
        · exact Or.inl ej
        · have q3 := q.2.2
          rcases i4 j (by omega) g1 g2 with e | e
          · rw [e]
            exact Or.inr (Or.inl q3)
          · unfold prI at e ⊢
            omega
      · rw [if_neg q]
        refine ⟨by omega, i2, i3, fun j hj g1 g2 => ?_⟩
        by_cases ej : j = m
        · subst ej
          have q3 : ¬ p j < p b := fun z => q ⟨g1, g2, z⟩
          refine Or.inr ?_
          unfold prI
          omega
        · exact i4 j (by omega) g1 g2
/-- counting -/
theorem cnt_cg {b b' : Nat → Bool} : ∀ m, (∀ j, j < m → b' j = b j) → cntN b' m = cntN b m
  | 0, _ => rfl
  | m + 1, h => by
    show cntN b' m + (if b' m then 1 else 0) = cntN b m + (if b m then 1 else 0)
    rw [cnt_cg m (fun j hj => h j (by omega)), h m (by omega)]
theorem cnt_flip {b b' : Nat → Bool} (h0 : b t = false) (h1 : b' t = true) (hn : ∀ j, ¬ j = t → b' j = b j) : ∀ m, t < m → cntN b' m = cntN b m + 1
  | 0, h => absurd h (Nat.not_lt_zero _)
  | m + 1, h => by
    show cntN b' m + (if b' m then 1 else 0) = cntN b m + (if b m then 1 else 0) + 1
    by_cases e : m = t
    · subst e
      rw [cnt_cg m (fun j hj => hn j (by omega)), h0, h1]
      rfl
    · rw [cnt_flip h0 h1 hn m (by omega), hn m e]
      omega
theorem cnt_ex {b : Nat → Bool} : ∀ m, cntN b m < m → ∃ j, j < m ∧ b j = false
  | 0, h => absurd h (Nat.not_lt_zero _)
  | m + 1, h => by
    have h : cntN b m + (if b m then 1 else 0) < m + 1 := h
    cases hb : b m with
    | false => exact ⟨m, by omega, hb⟩
    | true =>
      rw [hb] at h
      simp only [if_true] at h
      obtain ⟨j, h1, h2⟩ := cnt_ex (b := b) m (by omega)
      exact ⟨j, by omega, h2⟩
/-- a list of codes in their order -/
def LsT (P : Nat → Prop) (B : Nat → Nat) (n b : Nat) : Prop := (∀ k, k < n → P (B k) ∧ B k < b) ∧ (∀ i j, i < j → j < n → B i < B j) ∧ (∀ q, P q → q < b → ∃ k, k < n ∧ B k = q)
theorem LsT.add {P : Nat → Prop} {B : Nat → Nat} {b : Nat} (h : LsT P B n b) (hb : P b) : LsT P (updN B n b) (n + 1) (b + 1) := by
  obtain ⟨h1, h2, h3⟩ := h
  have ut : updN B n b n = b := if_pos rfl
  have un : ∀ j, ¬ j = n → updN B n b j = B j := fun j hj => if_neg hj
  refine ⟨fun k hk => ?_, fun i j hij hj => ?_, fun q hq hqb => ?_⟩
  · by_cases e : k = n
    · rw [e, ut]
      exact ⟨hb, by omega⟩
    · rw [un k e]
      have := h1 k (by omega)
      exact ⟨this.1, by omega⟩
  · rw [un i (by omega)]
    by_cases e : j = n
    · rw [e, ut]
      exact (h1 i (by omega)).2
    · rw [un j e]
      exact h2 i j hij (by omega)
  · by_cases e : q = b
    · exact ⟨n, by omega, by rw [ut, e]⟩
    · obtain ⟨k, k1, k2⟩ := h3 q hq (by omega)
      exact ⟨k, by omega, by rw [un k (by omega)]; exact k2⟩
theorem LsT.skip {P : Nat → Prop} {B : Nat → Nat} {b b' : Nat} (h : LsT P B n b) (hbb : b ≤ b') (hno : ∀ q, P q → b ≤ q → q < b' → False) : LsT P B n b' := by
  obtain ⟨h1, h2, h3⟩ := h
  refine ⟨fun k hk => ⟨(h1 k hk).1, by have := (h1 k hk).2; omega⟩, h2, fun q hq hqb => ?_⟩
  rcases Nat.lt_or_ge q b with g | g
  · exact h3 q hq g
  · exact absurd (hno q hq g hqb) id
theorem LsT.ij {P : Nat → Prop} {B : Nat → Nat} {b i j : Nat} (h : LsT P B n b) (hi : i < n) (hj : j < n) : (B i < B j ↔ i < j) ∧ (B i = B j ↔ i = j) := by
  obtain ⟨-, h2, -⟩ := h
  rcases Nat.lt_trichotomy i j with g | g | g
  · have := h2 i j g hj
    omega
  · subst g
    omega
  · have := h2 j i g hi
    omega
end N1
