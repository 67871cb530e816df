/-! the grid -/
def blk (B : Nat → Int) (x0 y0 x1 y1 : Int) (k : Nat) : Bool := decide (B (4 * k) ≤ x1) && decide (x0 ≤ B (4 * k + 2)) && decide (B (4 * k + 1) ≤ y1) && decide (y0 ≤ B (4 * k + 3))
def fre (B : Nat → Int) (nb : Nat) (x0 y0 x1 y1 : Int) : Bool := !anyN (blk B x0 y0 x1 y1) nb
theorem fre_iff {B : Nat → Int} {nb : Nat} {x0 y0 x1 y1 : Int} : fre B nb x0 y0 x1 y1 = true ↔ ∀ k, k < nb → ¬ (B (4 * k) ≤ x1 ∧ x0 ≤ B (4 * k + 2) ∧ B (4 * k + 1) ≤ y1 ∧ y0 ≤ B (4 * k + 3)) := by
  unfold fre
  rw [Bool.not_eq_true', ← Bool.not_eq_true, anyN_ex]
  constructor
  · intro h k hk hq
    refine h ⟨k, hk, ?_⟩
    simp only [blk, Bool.and_eq_true, decide_eq_true_eq]
    omega
  · rintro h ⟨k, hk, hq⟩
    refine h k hk ?_
    simp only [blk, Bool.and_eq_true, decide_eq_true_eq] at hq
    omega
abbrev GD : Type := Nat × Nat × (Nat → Int) × (Nat → Int) × Nat × (Nat → Int)
def d_nx (A : GD) : Nat := A.1
def d_ny (A : GD) : Nat := A.2.1
def d_X (A : GD) : Nat → Int := A.2.2.1
def d_Y (A : GD) : Nat → Int := A.2.2.2.1
def d_nb (A : GD) : Nat := A.2.2.2.2.1
def d_B (A : GD) : Nat → Int := A.2.2.2.2.2
def rtB (A : GD) (n : Nat) : Bool := decide (n % 18 + 1 < d_nx A) && decide (n / 18 < d_ny A) && fre (d_B A) (d_nb A) (d_X A (n % 18)) (d_Y A (n / 18)) (d_X A (n % 18 + 1)) (d_Y A (n / 18))
def dnB (A : GD) (n : Nat) : Bool := decide (n % 18 < d_nx A) && decide (n / 18 + 1 < d_ny A) && fre (d_B A) (d_nb A) (d_X A (n % 18)) (d_Y A (n / 18)) (d_X A (n % 18)) (d_Y A (n / 18 + 1))
def opA (A : GD) (n d : Nat) : Bool := if d = 0 then decide (18 ≤ n) && dnB A (n - 18) else if d = 1 then rtB A n else if d = 2 then dnB A n else decide (1 ≤ n) && rtB A (n - 1)
def tgA (n d : Nat) : Nat := if d = 0 then n - 18 else if d = 1 then n + 1 else if d = 2 then n + 18 else n - 1
def lnA (A : GD) (n d : Nat) : Nat := (if d = 0 then d_Y A (n / 18) - d_Y A (n / 18 - 1) else if d = 1 then d_X A (n % 18 + 1) - d_X A (n % 18) else if d = 2 then d_Y A (n / 18 + 1) - d_Y A (n / 18) else d_X A (n % 18) - d_X A (n % 18 - 1)).toNat
def GA (A : GD) (p go gs : Nat) : GT := (opA A, tgA, lnA A, p, go, gs)
def GrOk (A : GD) : Prop := d_nx A ≤ 18 ∧ d_ny A ≤ 18 ∧ (∀ a b, a < b → b < d_nx A → d_X A a < d_X A b) ∧ (∀ a b, a < b → b < d_ny A → d_Y A a < d_Y A b) ∧ ∀ k, k < d_nb A → d_B A (4 * k) ≤ d_B A (4 * k + 2) ∧ d_B A (4 * k + 1) ≤ d_B A (4 * k + 3) ∧ (∃ c, c < d_nx A ∧ d_X A c = d_B A (4 * k) - 1) ∧ (∃ c, c < d_nx A ∧ d_X A c = d_B A (4 * k + 2) + 1) ∧ (∃ c, c < d_ny A ∧ d_Y A c = d_B A (4 * k + 1) - 1) ∧ ∃ c, c < d_ny A ∧ d_Y A c = d_B A (4 * k + 3) + 1
def corA (A : GD) (n : Nat) : Prop := ∃ k t, k < d_nb A ∧ t < 3 ∧ d_X A (n % 18) = (if t = 1 then d_B A (4 * k + 2) + 1 else d_B A (4 * k) - 1) ∧ d_Y A (n / 18) = if t = 2 then d_B A (4 * k + 1) - 1 else d_B A (4 * k + 3) + 1
def frP (A : GD) (x0 y0 x1 y1 : Int) : Prop := ∀ k, k < d_nb A → ¬ (d_B A (4 * k) ≤ x1 ∧ x0 ≤ d_B A (4 * k + 2) ∧ d_B A (4 * k + 1) ≤ y1 ∧ y0 ≤ d_B A (4 * k + 3))
section G1
variable {A : GD}
theorem rt_iff {r c : Nat} (hc : c < 18) : rtB A (18 * r + c) = true ↔ c + 1 < d_nx A ∧ r < d_ny A ∧ frP A (d_X A c) (d_Y A r) (d_X A (c + 1)) (d_Y A r) := by
  unfold rtB
  rw [show (18 * r + c) % 18 = c by omega, show (18 * r + c) / 18 = r by omega, Bool.and_eq_true, Bool.and_eq_true, decide_eq_true_eq, decide_eq_true_eq, fre_iff, and_assoc]
  rfl
theorem dn_iff {r c : Nat} (hc : c < 18) : dnB A (18 * r + c) = true ↔ c < d_nx A ∧ r + 1 < d_ny A ∧ frP A (d_X A c) (d_Y A r) (d_X A c) (d_Y A (r + 1)) := by
  unfold dnB
  rw [show (18 * r + c) % 18 = c by omega, show (18 * r + c) / 18 = r by omega, Bool.and_eq_true, Bool.and_eq_true, decide_eq_true_eq, decide_eq_true_eq, fre_iff, and_assoc]
  rfl
theorem op1_iff {r c : Nat} (hc : c < 18) : opA A (18 * r + c) 1 = true ↔ c + 1 < d_nx A ∧ r < d_ny A ∧ frP A (d_X A c) (d_Y A r) (d_X A (c + 1)) (d_Y A r) := rt_iff hc
theorem op2_iff {r c : Nat} (hc : c < 18) : opA A (18 * r + c) 2 = true ↔ c < d_nx A ∧ r + 1 < d_ny A ∧ frP A (d_X A c) (d_Y A r) (d_X A c) (d_Y A (r + 1)) := dn_iff hc
theorem op0_iff {r c : Nat} (hc : c < 18) : opA A (18 * r + c) 0 = true ↔ ∃ r', r = r' + 1 ∧ c < d_nx A ∧ r' + 1 < d_ny A ∧ frP A (d_X A c) (d_Y A r') (d_X A c) (d_Y A (r' + 1)) := by
  show (decide (18 ≤ 18 * r + c) && dnB A (18 * r + c - 18)) = true ↔ _
  rw [Bool.and_eq_true, decide_eq_true_eq]
  constructor
  · rintro ⟨h1, h2⟩
    obtain ⟨r', rfl⟩ : ∃ r', r = r' + 1 := ⟨r - 1, by omega⟩
    rw [show 18 * (r' + 1) + c - 18 = 18 * r' + c by omega, dn_iff hc] at h2
    exact ⟨r', rfl, h2⟩
  · rintro ⟨r', rfl, h2⟩
    rw [show 18 * (r' + 1) + c - 18 = 18 * r' + c by omega, dn_iff hc]
    exact ⟨by omega, h2⟩
theorem op3_iff (hg : GrOk A) {r c : Nat} (hc : c < 18) : opA A (18 * r + c) 3 = true ↔ ∃ c', c = c' + 1 ∧ c' + 1 < d_nx A ∧ r < d_ny A ∧ frP A (d_X A c') (d_Y A r) (d_X A (c' + 1)) (d_Y A r) := by
  show (decide (1 ≤ 18 * r + c) && rtB A (18 * r + c - 1)) = true ↔ _
  rw [Bool.and_eq_true, decide_eq_true_eq]
  constructor
  · rintro ⟨h1, h2⟩
    by_cases h0 : c = 0
    · subst h0
      obtain ⟨r', rfl⟩ : ∃ r', r = r' + 1 := ⟨r - 1, by omega⟩
      rw [show 18 * (r' + 1) + 0 - 1 = 18 * r' + 17 by omega, rt_iff (by omega)] at h2
      have := hg.1
      omega
    · obtain ⟨c', rfl⟩ : ∃ c', c = c' + 1 := ⟨c - 1, by omega⟩
      rw [show 18 * r + (c' + 1) - 1 = 18 * r + c' by omega, rt_iff (by omega)] at h2
      exact ⟨c', rfl, h2⟩
  · rintro ⟨c', rfl, h2⟩
    rw [show 18 * r + (c' + 1) - 1 = 18 * r + c' by omega, rt_iff (by omega)]
    exact ⟨by omega, h2⟩
theorem rc_of (n : Nat) : ∃ r c, c < 18 ∧ n = 18 * r + c := ⟨n / 18, n % 18, by omega, by omega⟩
theorem cor_iff {r c : Nat} (hc : c < 18) : corA A (18 * r + c) ↔ ∃ k t, k < d_nb A ∧ t < 3 ∧ d_X A c = (if t = 1 then d_B A (4 * k + 2) + 1 else d_B A (4 * k) - 1) ∧ d_Y A r = if t = 2 then d_B A (4 * k + 1) - 1 else d_B A (4 * k + 3) + 1 := by
  unfold corA
  rw [show (18 * r + c) % 18 = c by omega, show (18 * r + c) / 18 = r by omega]
theorem gX (hg : GrOk A) {a b : Nat} (h : a < b) (hb : b < d_nx A) : d_X A a < d_X A b := hg.2.2.1 a b h hb
theorem gY (hg : GrOk A) {a b : Nat} (h : a < b) (hb : b < d_ny A) : d_Y A a < d_Y A b := hg.2.2.2.1 a b h hb
/-- no line between two that follow one another -/
theorem gX_at (hg : GrOk A) {c a : Nat} {z : Int} (hc : c + 1 < d_nx A) (ha : a < d_nx A) (e : d_X A a = z) : (d_X A c < z → z ≤ d_X A (c + 1) → d_X A (c + 1) = z) ∧ (d_X A c ≤ z → z < d_X A (c + 1) → d_X A c = z) := by
  constructor
  · intro h1 h2
    rcases Nat.lt_or_ge a (c + 1) with h | h
    · rcases Nat.lt_or_ge a c with h' | h'
      · have := gX hg h' (by omega); omega
      · rw [show a = c by omega] at e; omega
    · rcases Nat.lt_or_ge (c + 1) a with h' | h'
      · have := gX hg h' ha; omega
      · rw [show a = c + 1 by omega] at e; omega
  · intro h1 h2
    rcases Nat.lt_or_ge a (c + 1) with h | h
    · rcases Nat.lt_or_ge a c with h' | h'
      · have := gX hg h' (by omega); omega
      · rw [show a = c by omega] at e; omega
    · rcases Nat.lt_or_ge (c + 1) a with h' | h'
      · have := gX hg h' ha; omega
      · rw [show a = c + 1 by omega] at e; omega
theorem gY_at (hg : GrOk A) {c a : Nat} {z : Int} (hc : c + 1 < d_ny A) (ha : a < d_ny A) (e : d_Y A a = z) : (d_Y A c < z → z ≤ d_Y A (c + 1) → d_Y A (c + 1) = z) ∧ (d_Y A c ≤ z → z < d_Y A (c + 1) → d_Y A c = z) := by
  constructor
  · intro h1 h2
    rcases Nat.lt_or_ge a (c + 1) with h | h
    · rcases Nat.lt_or_ge a c with h' | h'
      · have := gY hg h' (by omega); omega
      · rw [show a = c by omega] at e; omega
    · rcases Nat.lt_or_ge (c + 1) a with h' | h'
      · have := gY hg h' ha; omega
      · rw [show a = c + 1 by omega] at e; omega
  · intro h1 h2
    rcases Nat.lt_or_ge a (c + 1) with h | h
    · rcases Nat.lt_or_ge a c with h' | h'
      · have := gY hg h' (by omega); omega
      · rw [show a = c by omega] at e; omega
    · rcases Nat.lt_or_ge (c + 1) a with h' | h'
      · have := gY hg h' ha; omega
      · rw [show a = c + 1 by omega] at e; omega
theorem GA_ok (hg : GrOk A) (p go gs : Nat) : GOK (GA A p go gs) := by
  intro n e he ho
  change opA A n e = true at ho
  show opA A (tgA n e) (opp e) = true ∧ tgA (tgA n e) (opp e) = n ∧ lnA A (tgA n e) (opp e) = lnA A n e ∧ 1 ≤ lnA A n e ∧ (e = 0 → tgA n e + 18 = n) ∧ (e = 1 → tgA n e = n + 1) ∧ (e = 2 → tgA n e = n + 18) ∧ (e = 3 → tgA n e + 1 = n)
  obtain ⟨r, c, hc, rfl⟩ := rc_of n
  have hx := hg.1
  rcases (show e = 0 ∨ e = 1 ∨ e = 2 ∨ e = 3 by omega) with rfl | rfl | rfl | rfl
  · obtain ⟨r', rfl, h1, h2, h3⟩ := (op0_iff hc).mp ho
    have hy := gY hg (show r' < r' + 1 by omega) h2
    have e1 : tgA (18 * (r' + 1) + c) 0 = 18 * r' + c := by show 18 * (r' + 1) + c - 18 = _; omega
    rw [e1]
    refine ⟨(op2_iff hc).mpr ⟨h1, h2, h3⟩, ?_, ?_, ?_, fun _ => by omega, fun q => by omega, fun q => by omega, fun q => by omega⟩
    · show 18 * r' + c + 18 = _; omega
    · show (d_Y A ((18 * r' + c) / 18 + 1) - d_Y A ((18 * r' + c) / 18)).toNat = (d_Y A ((18 * (r' + 1) + c) / 18) - d_Y A ((18 * (r' + 1) + c) / 18 - 1)).toNat
      rw [show (18 * r' + c) / 18 = r' by omega, show (18 * (r' + 1) + c) / 18 = r' + 1 by omega]
      rfl
    · show 1 ≤ (d_Y A ((18 * (r' + 1) + c) / 18) - d_Y A ((18 * (r' + 1) + c) / 18 - 1)).toNat
      rw [show (18 * (r' + 1) + c) / 18 = r' + 1 by omega, show r' + 1 - 1 = r' by omega]
      omega
  · obtain ⟨h1, h2, h3⟩ := (op1_iff hc).mp ho
    have hy := gX hg (show c < c + 1 by omega) h1
    have e1 : tgA (18 * r + c) 1 = 18 * r + (c + 1) := rfl
    rw [e1]
    refine ⟨(op3_iff hg (by omega)).mpr ⟨c, rfl, h1, h2, h3⟩, ?_, ?_, ?_, fun q => by omega, fun q => by omega, fun q => by omega, fun q => by omega⟩
    · show 18 * r + (c + 1) - 1 = _; omega
    · show (d_X A ((18 * r + (c + 1)) % 18) - d_X A ((18 * r + (c + 1)) % 18 - 1)).toNat = (d_X A ((18 * r + c) % 18 + 1) - d_X A ((18 * r + c) % 18)).toNat
      rw [show (18 * r + (c + 1)) % 18 = c + 1 by omega, show (18 * r + c) % 18 = c by omega]
      rfl
    · show 1 ≤ (d_X A ((18 * r + c) % 18 + 1) - d_X A ((18 * r + c) % 18)).toNat
      rw [show (18 * r + c) % 18 = c by omega]
      omega
  · obtain ⟨h1, h2, h3⟩ := (op2_iff hc).mp ho
    have hy := gY hg (show r < r + 1 by omega) h2
    have e1 : tgA (18 * r + c) 2 = 18 * (r + 1) + c := by show 18 * r + c + 18 = _; omega
    rw [e1]
    refine ⟨(op0_iff hc).mpr ⟨r, rfl, h1, h2, h3⟩, ?_, ?_, ?_, fun q => by omega, fun q => by omega, fun q => by omega, fun q => by omega⟩
    · show 18 * (r + 1) + c - 18 = _; omega
    · show (d_Y A ((18 * (r + 1) + c) / 18) - d_Y A ((18 * (r + 1) + c) / 18 - 1)).toNat = (d_Y A ((18 * r + c) / 18 + 1) - d_Y A ((18 * r + c) / 18)).toNat
      rw [show (18 * r + c) / 18 = r by omega, show (18 * (r + 1) + c) / 18 = r + 1 by omega]
      rfl
    · show 1 ≤ (d_Y A ((18 * r + c) / 18 + 1) - d_Y A ((18 * r + c) / 18)).toNat
      rw [show (18 * r + c) / 18 = r by omega]
      omega
  · obtain ⟨c', rfl, h1, h2, h3⟩ := (op3_iff hg hc).mp ho
    have hy := gX hg (show c' < c' + 1 by omega) h1
    have e1 : tgA (18 * r + (c' + 1)) 3 = 18 * r + c' := by show 18 * r + (c' + 1) - 1 = _; omega
    rw [e1]
    refine ⟨(op1_iff (by omega)).mpr ⟨h1, h2, h3⟩, ?_, ?_, ?_, fun q => by omega, fun q => by omega, fun q => by omega, fun q => by omega⟩
    · show 18 * r + c' + 1 = _; omega
    · show (d_X A ((18 * r + c') % 18 + 1) - d_X A ((18 * r + c') % 18)).toNat = (d_X A ((18 * r + (c' + 1)) % 18) - d_X A ((18 * r + (c' + 1)) % 18 - 1)).toNat
      rw [show (18 * r + c') % 18 = c' by omega, show (18 * r + (c' + 1)) % 18 = c' + 1 by omega]
      rfl
    · show 1 ≤ (d_X A ((18 * r + (c' + 1)) % 18) - d_X A ((18 * r + (c' + 1)) % 18 - 1)).toNat
      rw [show (18 * r + (c' + 1)) % 18 = c' + 1 by omega, show c' + 1 - 1 = c' by omega]
      omega
/-- the other column of a cell is free -/
theorem cellA (hg : GrOk A) {c r e : Nat} (hc : c + 1 < d_nx A) (hr : r + 1 < d_ny A) (he : e = c ∨ e = c + 1) (h1 : frP A (d_X A c) (d_Y A r) (d_X A (c + 1)) (d_Y A r)) (h2 : frP A (d_X A c) (d_Y A (r + 1)) (d_X A (c + 1)) (d_Y A (r + 1))) (h3 : frP A (d_X A e) (d_Y A r) (d_X A e) (d_Y A (r + 1))) (n2 : ¬ corA A (18 * (r + 1) + e)) : frP A (d_X A (c + (c + 1) - e)) (d_Y A r) (d_X A (c + (c + 1) - e)) (d_Y A (r + 1)) := by
  intro k hk ⟨q1, q2, q3, q4⟩
  have he18 : e < 18 := by have := hg.1; omega
  rw [cor_iff he18] at n2
  obtain ⟨b1, b2, ⟨u1, u2, u3⟩, ⟨v1, v2, v3⟩, ⟨w1, w2, w3⟩, ⟨z1, z2, z3⟩⟩ := hg.2.2.2.2 k hk
  have hx := gX hg (show c < c + 1 by omega) hc
  have hy := gY hg (show r < r + 1 by omega) hr
  have a1 := h1 k hk
  have a2 := h2 k hk
  have a3 := h3 k hk
  have g1 := (gX_at hg hc u2 u3).2
  have g2 := (gX_at hg hc v2 v3).1
  have g4 := (gY_at hg hr z2 z3).1
  rcases he with rfl | rfl
  · rw [show e + (e + 1) - e = e + 1 by omega] at q1 q2
    refine n2 ⟨k, 0, hk, by omega, ?_, ?_⟩
    · show d_X A e = d_B A (4 * k) - 1
      omega
    · show d_Y A (r + 1) = d_B A (4 * k + 3) + 1
      omega
  · rw [show c + (c + 1) - (c + 1) = c by omega] at q1 q2
    refine n2 ⟨k, 1, hk, by omega, ?_, ?_⟩
    · show d_X A (c + 1) = d_B A (4 * k + 2) + 1
      omega
    · show d_Y A (r + 1) = d_B A (4 * k + 3) + 1
      omega
theorem cellB (hg : GrOk A) {c r : Nat} (hc : c + 1 < d_nx A) (hr : r + 1 < d_ny A) (h3 : frP A (d_X A c) (d_Y A r) (d_X A c) (d_Y A (r + 1))) (n1 : ¬ corA A (18 * r + c)) (n2 : ¬ corA A (18 * (r + 1) + c)) : frP A (d_X A c) (d_Y A r) (d_X A (c + 1)) (d_Y A r) ↔ frP A (d_X A c) (d_Y A (r + 1)) (d_X A (c + 1)) (d_Y A (r + 1)) := by
  have he18 : c < 18 := by have := hg.1; omega
  rw [cor_iff he18] at n1 n2
  constructor
  all_goals
    intro h k hk ⟨q1, q2, q3, q4⟩
    obtain ⟨b1, b2, ⟨u1, u2, u3⟩, ⟨v1, v2, v3⟩, ⟨w1, w2, w3⟩, ⟨z1, z2, z3⟩⟩ := hg.2.2.2.2 k hk
    have hx := gX hg (show c < c + 1 by omega) hc
    have hy := gY hg (show r < r + 1 by omega) hr
    have a1 := h k hk
    have a3 := h3 k hk
    have g1 := (gX_at hg hc u2 u3).2
    have g3 := (gY_at hg hr w2 w3).2
    have g4 := (gY_at hg hr z2 z3).1
  · refine n1 ⟨k, 2, hk, by omega, ?_, ?_⟩
    · show d_X A c = d_B A (4 * k) - 1
      omega
    · show d_Y A r = d_B A (4 * k + 1) - 1
      omega
  · refine n2 ⟨k, 0, hk, by omega, ?_, ?_⟩
    · show d_X A c = d_B A (4 * k) - 1
      omega
    · show d_Y A (r + 1) = d_B A (4 * k + 3) + 1
      omega
theorem cellC (hg : GrOk A) {c r : Nat} (hc : c + 1 < d_nx A) (hr : r + 1 < d_ny A) (h3 : frP A (d_X A (c + 1)) (d_Y A r) (d_X A (c + 1)) (d_Y A (r + 1))) (n2 : ¬ corA A (18 * (r + 1) + (c + 1))) (h : frP A (d_X A c) (d_Y A (r + 1)) (d_X A (c + 1)) (d_Y A (r + 1))) : frP A (d_X A c) (d_Y A r) (d_X A (c + 1)) (d_Y A r) := by
  have he18 : c + 1 < 18 := by have := hg.1; omega
  rw [cor_iff he18] at n2
  intro k hk ⟨q1, q2, q3, q4⟩
  obtain ⟨b1, b2, ⟨u1, u2, u3⟩, ⟨v1, v2, v3⟩, ⟨w1, w2, w3⟩, ⟨z1, z2, z3⟩⟩ := hg.2.2.2.2 k hk
  have hx := gX hg (show c < c + 1 by omega) hc
  have hy := gY hg (show r < r + 1 by omega) hr
  have a1 := h k hk
  have a3 := h3 k hk
  have g2 := (gX_at hg hc v2 v3).1
  have g4 := (gY_at hg hr z2 z3).1
  refine n2 ⟨k, 1, hk, by omega, ?_, ?_⟩
  · show d_X A (c + 1) = d_B A (4 * k + 2) + 1
    omega
  · show d_Y A (r + 1) = d_B A (4 * k + 3) + 1
    omega
theorem tg0 (r c : Nat) : tgA (18 * (r + 1) + c) 0 = 18 * r + c := by show 18 * (r + 1) + c - 18 = _; omega
theorem tg1 (r c : Nat) : tgA (18 * r + c) 1 = 18 * r + (c + 1) := rfl
theorem tg2 (r c : Nat) : tgA (18 * r + c) 2 = 18 * (r + 1) + c := by show 18 * r + c + 18 = _; omega
theorem tg3 (r c : Nat) : tgA (18 * r + (c + 1)) 3 = 18 * r + c := by show 18 * r + (c + 1) - 1 = _; omega
theorem ln0 {r c : Nat} (hc : c < 18) : lnA A (18 * (r + 1) + c) 0 = (d_Y A (r + 1) - d_Y A r).toNat := by
  show (d_Y A ((18 * (r + 1) + c) / 18) - d_Y A ((18 * (r + 1) + c) / 18 - 1)).toNat = _
  rw [show (18 * (r + 1) + c) / 18 = r + 1 by omega]
  rfl
theorem ln1 {r c : Nat} (hc : c < 18) : lnA A (18 * r + c) 1 = (d_X A (c + 1) - d_X A c).toNat := by
  show (d_X A ((18 * r + c) % 18 + 1) - d_X A ((18 * r + c) % 18)).toNat = _
  rw [show (18 * r + c) % 18 = c by omega]
theorem ln2 {r c : Nat} (hc : c < 18) : lnA A (18 * r + c) 2 = (d_Y A (r + 1) - d_Y A r).toNat := by
  show (d_Y A ((18 * r + c) / 18 + 1) - d_Y A ((18 * r + c) / 18)).toNat = _
  rw [show (18 * r + c) / 18 = r by omega]
theorem ln3 {r c : Nat} (hc : c + 1 < 18) : lnA A (18 * r + (c + 1)) 3 = (d_X A (c + 1) - d_X A c).toNat := by
  show (d_X A ((18 * r + (c + 1)) % 18) - d_X A ((18 * r + (c + 1)) % 18 - 1)).toNat = _
  rw [show (18 * r + (c + 1)) % 18 = c + 1 by omega]
  rfl
theorem GA_cell (hg : GrOk A) (p go gs : Nat) : Cell (GA A p go gs) (corA A) := by
  have hx := hg.1
  refine ⟨?_, ?_, ?_⟩
  · intro n m s hm hs o1 n1 n2 o2 o3
    change opA A n m = true at o1
    change ¬ corA A (tgA n m) at n2
    change opA A n s = true at o2
    change opA A (tgA n m) s = true at o3
    show opA A (tgA n s) m = true ∧ tgA (tgA n s) m = tgA (tgA n m) s ∧ lnA A (tgA n s) m = lnA A n m ∧ lnA A (tgA n m) s = lnA A n s
    obtain ⟨r, c, hc, rfl⟩ := rc_of n
    rcases hm with rfl | rfl <;> rcases hs with rfl | rfl
    · obtain ⟨r, rfl, a1, a2, a3⟩ := (op0_iff hc).mp o1
      obtain ⟨b1, b2, b3⟩ := (op1_iff hc).mp o2
      rw [tg0] at n2 o3 ⊢
      obtain ⟨c1, c2, c3⟩ := (op1_iff hc).mp o3
      rw [tg1, tg0, tg1, ln0 (by omega), ln0 hc, ln1 hc, ln1 hc]
      refine ⟨(op0_iff (by omega)).mpr ⟨r, rfl, b1, a2, ?_⟩, rfl, rfl, rfl⟩
      have := cellA hg b1 a2 (e := c) (Or.inl rfl) c3 b3 a3 n1
      rw [show c + (c + 1) - c = c + 1 by omega] at this
      exact this
    · obtain ⟨r, rfl, a1, a2, a3⟩ := (op0_iff hc).mp o1
      obtain ⟨c, rfl, b1, b2, b3⟩ := (op3_iff hg hc).mp o2
      rw [tg0] at n2 o3 ⊢
      obtain ⟨c', ec, c1, c2, c3⟩ := (op3_iff hg hc).mp o3
      obtain rfl : c' = c := by omega
      rw [tg3, tg0, tg3, ln0 (by omega), ln0 hc, ln3 hc, ln3 hc]
      refine ⟨(op0_iff (by omega)).mpr ⟨r, rfl, by omega, a2, ?_⟩, rfl, rfl, rfl⟩
      have := cellA hg b1 a2 (e := c' + 1) (Or.inr rfl) c3 b3 a3 n1
      rw [show c' + (c' + 1) - (c' + 1) = c' by omega] at this
      exact this
    · obtain ⟨a1, a2, a3⟩ := (op2_iff hc).mp o1
      obtain ⟨b1, b2, b3⟩ := (op1_iff hc).mp o2
      rw [tg2] at n2 o3 ⊢
      obtain ⟨c1, c2, c3⟩ := (op1_iff hc).mp o3
      rw [tg1, tg2, tg1, ln2 (by omega), ln2 hc, ln1 hc, ln1 hc]
      refine ⟨(op2_iff (by omega)).mpr ⟨b1, a2, ?_⟩, rfl, rfl, rfl⟩
      have := cellA hg b1 a2 (e := c) (Or.inl rfl) b3 c3 a3 n2
      rw [show c + (c + 1) - c = c + 1 by omega] at this
      exact this
    · obtain ⟨a1, a2, a3⟩ := (op2_iff hc).mp o1
      obtain ⟨c, rfl, b1, b2, b3⟩ := (op3_iff hg hc).mp o2
      rw [tg2] at n2 o3 ⊢
      obtain ⟨c', ec, c1, c2, c3⟩ := (op3_iff hg hc).mp o3
      obtain rfl : c' = c := by omega
      rw [tg3, tg2, tg3, ln2 (by omega), ln2 hc, ln3 hc, ln3 hc]
      refine ⟨(op2_iff (by omega)).mpr ⟨by omega, a2, ?_⟩, rfl, rfl, rfl⟩
      have := cellA hg b1 a2 (e := c' + 1) (Or.inr rfl) b3 c3 a3 n2
      rw [show c' + (c' + 1) - (c' + 1) = c' by omega] at this
      exact this
  · intro n m hm o1 n1 n2 o2
    change opA A n m = true at o1
    change ¬ corA A (tgA n m) at n2
    change opA A n 1 = true at o2
    show opA A (tgA n m) 1 = true
    obtain ⟨r, c, hc, rfl⟩ := rc_of n
    obtain ⟨b1, b2, b3⟩ := (op1_iff hc).mp o2
    rcases hm with rfl | rfl
    · obtain ⟨r, rfl, a1, a2, a3⟩ := (op0_iff hc).mp o1
      rw [tg0] at n2 ⊢
      exact (op1_iff hc).mpr ⟨b1, by omega, (cellB hg b1 a2 a3 n2 n1).mpr b3⟩
    · obtain ⟨a1, a2, a3⟩ := (op2_iff hc).mp o1
      rw [tg2] at n2 ⊢
      exact (op1_iff hc).mpr ⟨b1, by omega, (cellB hg b1 a2 a3 n1 n2).mp b3⟩
  · intro n o1 n1 n2 o2
    change opA A n 0 = true at o1
    change opA A n 3 = true at o2
    show opA A (tgA n 0) 3 = true
    obtain ⟨r, c, hc, rfl⟩ := rc_of n
    obtain ⟨r, rfl, a1, a2, a3⟩ := (op0_iff hc).mp o1
    obtain ⟨c, rfl, b1, b2, b3⟩ := (op3_iff hg hc).mp o2
    rw [tg0]
    exact (op3_iff hg hc).mpr ⟨c, rfl, b1, by omega, cellC hg b1 a2 a3 n1 b3⟩
end G1
