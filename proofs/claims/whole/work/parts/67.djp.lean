/-! the class's search: what holds of costs -/
def DjP (A : GD) (p go gs : Nat) (W D : Nat → Prop) (c : Nat → Nat) (re s0 j k6 : Nat) : Prop :=
  (∀ s, s < 1296 → c s ≤ 1000000 ∧ (c s < 1000000 ↔ W s ∨ D s)) ∧
  (∀ s, W s ∨ D s → s < 1296 ∧ inG A (s / 4) ∧ ∃ t, Rc (GA A p go gs) t (s / 4) (s % 4) (c s)) ∧
  (∀ s, W s → ¬ D s ∧ re ≤ c s ∧ c s ≤ re + 150) ∧
  (∀ s, D s → c s ≤ re ∧ ∀ t x, Rc (GA A p go gs) t (s / 4) (s % 4) x → c s ≤ x) ∧
  (∀ n i e, i < 4 → e < 4 → e ≠ opp i → opA A n e = true → D (4 * tgA n e + e) → (4 * tgA n e + e ≠ s0 ∨ i < j) → (W (4 * n + i) ∨ D (4 * n + i)) ∧ c (4 * n + i) ≤ lnA A n e + bnd p i e + c (4 * tgA n e + e)) ∧
  ∀ i, i < k6 → i ≠ gs → (W (4 * go + i) ∨ D (4 * go + i)) ∧ c (4 * go + i) ≤ enB (GA A p go gs) i
section D1
variable {A : GD} {p go gs : Nat} {W D : Nat → Prop} {c : Nat → Nat} {re s0 j k6 : Nat}
theorem dj_cmp (h : DjP A p go gs W D c re s0 4 4) : ∀ t n d x, d < 4 → Rc (GA A p go gs) t n d x → (D (4 * n + d) ∧ c (4 * n + d) ≤ x) ∨ ∃ u, W u ∧ c u ≤ x
  | 0, n, d, x, hd, hR => by
    obtain ⟨h1, h2, h3, h4, h5, h6⟩ := h
    obtain ⟨r1, r2, r3⟩ := hR
    have r1' : n = go := r1
    have r2' : d ≠ gs := r2
    subst r1'
    obtain ⟨a1, a2⟩ := h6 d hd r2'
    rcases a1 with a1 | a1
    · exact Or.inr ⟨_, a1, by omega⟩
    · exact Or.inl ⟨a1, by omega⟩
  | t + 1, n, d, x, hd, hR => by
    obtain ⟨e, c', r1, r2, r3, r4, r5⟩ := hR
    have r3' : opA A n e = true := r3
    have r5' : x = lnA A n e + bnd p d e + c' := r5
    rcases dj_cmp h t (tgA n e) e c' r1 r4 with ⟨a1, a2⟩ | ⟨u, a1, a2⟩
    · obtain ⟨b1, b2⟩ := h.2.2.2.2.1 n d e hd r1 r2 r3' a1 (Or.inr hd)
      rcases b1 with b1 | b1
      · exact Or.inr ⟨_, b1, by omega⟩
      · exact Or.inl ⟨b1, by omega⟩
    · exact Or.inr ⟨u, a1, by omega⟩
theorem dj_take (h : DjP A p go gs W D c re s0 4 4) {s : Nat} (hs : W s) (hm : ∀ u, W u → c s ≤ c u) : DjP A p go gs (fun x => W x ∧ x ≠ s) (fun x => x = s ∨ D x) c (c s) s 0 4 := by
  obtain ⟨h1, h2, h3, h4, h5, h6⟩ := id h
  have hsD := (h3 s hs).1
  have k1 : ∀ u, (W u ∨ D u) ↔ ((W u ∧ u ≠ s) ∨ (u = s ∨ D u)) := fun u => by
    by_cases q : u = s
    · subst q
      exact ⟨fun _ => Or.inr (Or.inl rfl), fun _ => Or.inl hs⟩
    · constructor
      · rintro (a | a)
        · exact Or.inl ⟨a, q⟩
        · exact Or.inr (Or.inr a)
      · rintro (a | a | a)
        · exact Or.inl a.1
        · exact absurd a q
        · exact Or.inr a
  refine ⟨fun u hu => ⟨(h1 u hu).1, (h1 u hu).2.trans (k1 u)⟩, fun u hu => h2 u ((k1 u).mpr hu), fun u hu => ?_, fun u hu => ?_, fun n i e hi he hne ho hD hc => ?_, fun i hi hg => ?_⟩
  · have := h3 u hu.1
    have := h3 s hs
    refine ⟨?_, hm u hu.1, by omega⟩
    rintro (q | q)
    · exact hu.2 q
    · exact (h3 u hu.1).1 q
  · rcases hu with rfl | hu
    · refine ⟨Nat.le_refl _, fun t x hR => ?_⟩
      rcases dj_cmp h t (u / 4) (u % 4) x (by omega) hR with ⟨a1, a2⟩ | ⟨w, a1, a2⟩
      · rw [show 4 * (u / 4) + u % 4 = u by omega] at a1
        exact absurd a1 hsD
      · have := hm w a1
        omega
    · have := h4 u hu
      have := h3 s hs
      exact ⟨by omega, (h4 u hu).2⟩
  · rcases hc with hc | hc
    · rcases hD with hD | hD
      · exact absurd hD hc
      · obtain ⟨a1, a2⟩ := h5 n i e hi he hne ho hD (Or.inr hi)
        exact ⟨(k1 _).mp a1, a2⟩
    · omega
  · obtain ⟨a1, a2⟩ := h6 i hi hg
    exact ⟨(k1 _).mp a1, a2⟩
theorem dj_off (h : DjP A p go gs W D c re s0 j k6) {u x t : Nat} (hu : u < 1296) (hg : inG A (u / 4)) (hR : Rc (GA A p go gs) t (u / 4) (u % 4) x) (hx1 : re ≤ x) (hx2 : x ≤ re + 150) (hx3 : x < 1000000) (hx : x < c u) : ¬ D u ∧ DjP A p go gs (fun y => y = u ∨ W y) D (va_up c u x) re s0 j k6 := by
  obtain ⟨h1, h2, h3, h4, h5, h6⟩ := h
  have hD : ¬ D u := fun q => by
    have := (h4 u q).2 t x hR
    omega
  have hc : ∀ y, y ≠ u → va_up c u x y = c y := fun y hy => va_up_ne _ _ hy
  have hcu : va_up c u x u = x := va_up_self _ _ _
  have hcD : ∀ y, D y → va_up c u x y = c y := fun y hy => hc y fun q => hD (q ▸ hy)
  have hle : ∀ y, va_up c u x y ≤ c y := fun y => by
    by_cases q : y = u
    · subst q
      omega
    · rw [hc y q]
      exact Nat.le_refl _
  have hWD : ∀ y, W y ∨ D y → (y = u ∨ W y) ∨ D y := fun y hy => hy.elim (fun q => Or.inl (Or.inr q)) Or.inr
  refine ⟨hD, fun s hs => ?_, fun s hs => ?_, fun s hs => ?_, fun s hs => ?_, fun n i e hi he hne ho hDs hcc => ?_, fun i hi hgi => ?_⟩
  · by_cases q : s = u
    · subst q
      rw [hcu]
      exact ⟨by omega, fun _ => Or.inl (Or.inl rfl), fun _ => hx3⟩
    · rw [hc s q]
      refine ⟨(h1 s hs).1, (h1 s hs).2.trans ⟨hWD s, ?_⟩⟩
      rintro ((a | a) | a)
      · exact absurd a q
      · exact Or.inl a
      · exact Or.inr a
  · by_cases q : s = u
    · subst q
      rw [hcu]
      exact ⟨hu, hg, t, hR⟩
    · rw [hc s q]
      refine h2 s ?_
      rcases hs with (a | a) | a
      · exact absurd a q
      · exact Or.inl a
      · exact Or.inr a
  · by_cases q : s = u
    · subst q
      rw [hcu]
      exact ⟨hD, hx1, hx2⟩
    · rw [hc s q]
      exact h3 s (hs.resolve_left q)
  · rw [hcD s hs]
    exact h4 s hs
  · rw [hcD _ hDs]
    obtain ⟨a1, a2⟩ := h5 n i e hi he hne ho hDs hcc
    exact ⟨hWD _ a1, Nat.le_trans (hle _) a2⟩
  · obtain ⟨a1, a2⟩ := h6 i hi hgi
    exact ⟨hWD _ a1, Nat.le_trans (hle _) a2⟩
theorem dj_ext5 (hG : GOK (GA A p go gs)) (h : DjP A p go gs W D c re s0 j k6) (hx : ∀ n e, e < 4 → e ≠ opp j → opA A n e = true → 4 * tgA n e + e = s0 → (W (4 * n + j) ∨ D (4 * n + j)) ∧ c (4 * n + j) ≤ lnA A n e + bnd p j e + c s0) : DjP A p go gs W D c re s0 (j + 1) k6 := by
  obtain ⟨h1, h2, h3, h4, h5, h6⟩ := h
  refine ⟨h1, h2, h3, h4, fun n i e hi he hne ho hDs hcc => ?_, h6⟩
  by_cases q : 4 * tgA n e + e = s0
  · rcases hcc with hcc | hcc
    · exact absurd q hcc
    · by_cases q2 : i = j
      · subst q2
        rw [q]
        exact hx n e he hne ho q
      · exact h5 n i e hi he hne ho hDs (Or.inr (by omega))
  · exact h5 n i e hi he hne ho hDs (Or.inl q)
theorem dj_ext6 (h : DjP A p go gs W D c re s0 j k6) (hx : k6 ≠ gs → (W (4 * go + k6) ∨ D (4 * go + k6)) ∧ c (4 * go + k6) ≤ enB (GA A p go gs) k6) : DjP A p go gs W D c re s0 j (k6 + 1) := by
  obtain ⟨h1, h2, h3, h4, h5, h6⟩ := h
  refine ⟨h1, h2, h3, h4, h5, fun i hi hg => ?_⟩
  by_cases q : i = k6
  · subst q
    exact hx hg
  · exact h6 i (by omega) hg
theorem dj_0 : DjP A p go gs (fun _ => False) (fun _ => False) (fun _ => 1000000) 0 s0 4 0 :=
  ⟨fun s _ => ⟨Nat.le_refl _, fun q => absurd q (Nat.lt_irrefl _), fun q => q.elim False.elim False.elim⟩, fun s hs => hs.elim False.elim False.elim, fun s hs => hs.elim, fun s hs => hs.elim, fun n i e _ _ _ _ hs _ => hs.elim, fun i hi => absurd hi (Nat.not_lt_zero _)⟩
end D1
