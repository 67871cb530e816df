/-! pure: small rows -/
theorem bd_s {α β : Type} (x : α) (k : α → Option β) : bd (some x) k = k x := rfl
theorem bd2_s {α β γ : Type} (x : α) (y : β) (k : α → β → Option γ) : bd2 (some (x, y)) k = k x y := rfl
theorem gd_t {α : Type} {P : Prop} [Decidable P] {k : Option α} (h : P) : gd P k = k := if_pos h
theorem gd_T {α : Type} {inst : Decidable True} {k : Option α} : @gd α True inst k = k := if_pos trivial
theorem lt_r {α β : Type} (e : α) (k : α → Option β) : lt e k = k e := rfl
def I (z : Int) : Int32 := Int32.ofInt z
theorem I_add (a b : Int) : I a + I b = I (a + b) := (Int32.ofInt_add a b).symm
theorem I_sub (a b : Int) : I a - I b = I (a - b) := (Int32.ofInt_sub a b).symm
theorem I_mul (a b : Int) : I a * I b = I (a * b) := (Int32.ofInt_mul a b).symm
theorem I_neg (a : Int) : - I a = I (-a) := (Int32.ofInt_neg a).symm
theorem I_toInt {a : Int} (h1 : -2147483648 ≤ a) (h2 : a < 2147483648) : (I a).toInt = a := Int32.toInt_ofInt_of_le (by omega) (by omega)
theorem I_of (x : Int32) : I x.toInt = x := Int32.ofInt_toInt x
theorem I_cl {a : Int} (h1 : -2147483648 ≤ a) (h2 : a < 2147483648) : (I a).toNatClampNeg = a.toNat := Int32.toNatClampNeg_ofInt_of_le (by omega) (by omega)
theorem I_le {a b : Int} (h1 : -2147483648 ≤ a) (h2 : a < 2147483648) (h3 : -2147483648 ≤ b) (h4 : b < 2147483648) : (I a ≤ I b) = (a ≤ b) := by
  rw [Int32.le_iff_toInt_le, I_toInt h1 h2, I_toInt h3 h4]
theorem I_lt {a b : Int} (h1 : -2147483648 ≤ a) (h2 : a < 2147483648) (h3 : -2147483648 ≤ b) (h4 : b < 2147483648) : (I a < I b) = (a < b) := by
  rw [Int32.lt_iff_toInt_lt, I_toInt h1 h2, I_toInt h3 h4]
theorem I_eq {a b : Int} (h1 : -2147483648 ≤ a) (h2 : a < 2147483648) (h3 : -2147483648 ≤ b) (h4 : b < 2147483648) : (I a = I b) = (a = b) := by
  rw [← Int32.toInt_inj, I_toInt h1 h2, I_toInt h3 h4]
theorem I_ix {a : Int} {n : Nat} (h1 : 0 ≤ a) (h2 : a < n) (h3 : a < 2147483648) : (ix (I a) n = true) = True := by
  unfold ix
  rw [I_cl (by omega) h3]
  have h4 : (0 : Int32) ≤ I a := by
    rw [Int32.le_iff_toInt_le, I_toInt (by omega) h3]
    simpa using h1
  simp only [h4, decide_true, Bool.true_and, Nat.blt_eq]
  exact eq_true (by omega)
theorem I_nat (n : Nat) : nI n = I (n : Int) := (Int32.ofInt_eq_ofNat (n := n)).symm
theorem I_0 : (0 : Int32) = I 0 := rfl
theorem I_1 : (1 : Int32) = I 1 := rfl
theorem I_2 : (2 : Int32) = I 2 := rfl
theorem I_3 : (3 : Int32) = I 3 := rfl
theorem I_4 : (4 : Int32) = I 4 := rfl
theorem I_5 : (5 : Int32) = I 5 := rfl
theorem I_6 : (6 : Int32) = I 6 := rfl
theorem I_7 : (7 : Int32) = I 7 := rfl
theorem I_8 : (8 : Int32) = I 8 := rfl
theorem I_9 : (9 : Int32) = I 9 := rfl
theorem I_10 : (10 : Int32) = I 10 := rfl
theorem I_20 : (20 : Int32) = I 20 := rfl
theorem I_35 : (35 : Int32) = I 35 := rfl
theorem I_169 : (169 : Int32) = I 169 := rfl
theorem I_1725 : (1725 : Int32) = I 1725 := rfl
theorem I_S (k : Nat) : I k + 1 = I ((k + 1 : Nat) : Int) := by rw [I_1, I_add]; rfl
/-- an index that is valid is a number -/
theorem I_num {x : Int32} {n : Nat} (hn : n < 2147483648) (h0 : 0 ≤ x) (h1 : x < I n) : ∃ k : Nat, k < n ∧ x = I k := by
  have a0 : 0 ≤ x.toInt := by simpa using Int32.le_iff_toInt_le.mp h0
  have a1 := Int32.lt_iff_toInt_lt.mp h1
  rw [I_toInt (by omega) (by omega)] at a1
  refine ⟨x.toInt.toNat, by omega, ?_⟩
  have e : ((x.toInt.toNat : Nat) : Int) = x.toInt := by omega
  rw [e, I_of]
def b2 (b : Bool) : Int32 := if b then 1 else 0
theorem b2_t : b2 true = 1 := rfl
theorem b2_f : b2 false = 0 := rfl
theorem b2_0 (b : Bool) : (b2 b = 0) = (b = false) := by cases b <;> decide
theorem b2_1 (b : Bool) : (b2 b = 1) = (b = true) := by cases b <;> decide
theorem gd_b {α : Type} {b : Bool} {inst : Decidable (b2 b = 0 ∨ b2 b = 1)} {k : Option α} : @gd α (b2 b = 0 ∨ b2 b = 1) inst k = k := gd_t (match b with
  | false => Or.inl rfl
  | true => Or.inr rfl)
theorem gd_0 {α : Type} {inst : Decidable ((0 : Int32) = 0 ∨ (0 : Int32) = 1)} {k : Option α} : @gd α ((0 : Int32) = 0 ∨ (0 : Int32) = 1) inst k = k := gd_t (Or.inl rfl)
theorem gd_1 {α : Type} {inst : Decidable ((1 : Int32) = 0 ∨ (1 : Int32) = 1)} {k : Option α} : @gd α ((1 : Int32) = 0 ∨ (1 : Int32) = 1) inst k = k := gd_t (Or.inr rfl)
theorem ixz {n : Nat} (h : 0 < n) : (ix 0 n = true) = True := by
  have := I_ix (a := 0) (n := n) (by omega) (by omega) (by omega)
  exact this
theorem ix1_ {n : Nat} (h : 1 < n) : (ix 1 n = true) = True := by
  have := I_ix (a := 1) (n := n) (by omega) (by omega) (by omega)
  exact this
theorem ix2_ {n : Nat} (h : 2 < n) : (ix 2 n = true) = True := by
  have := I_ix (a := 2) (n := n) (by omega) (by omega) (by omega)
  exact this
theorem cN0 : (0 : Int32).toNatClampNeg = 0 := rfl
theorem cN1 : (1 : Int32).toNatClampNeg = 1 := rfl
theorem cN2 : (2 : Int32).toNatClampNeg = 2 := rfl
/-- a loop whose states are known: it leaves at state m -/
theorem lp_for {α β : Type} {b : (α → Option β) → α → Option β} (S : Nat → α) (v : β) (m : Nat) (hs : ∀ (k : Nat) (rec : α → Option β), k < m → b rec (S k) = rec (S (k + 1))) (he : ∀ rec : α → Option β, b rec (S m) = some v) : ∀ (d k n : Nat), k + d = m → d < n → lpN b n (S k) = some v := by
  intro d
  induction d with
  | zero =>
    intro k n hk hn
    obtain ⟨n, rfl⟩ : ∃ n', n = n' + 1 := ⟨n - 1, by omega⟩
    rw [show k = m by omega]
    exact he _
  | succ d ih =>
    intro k n hk hn
    obtain ⟨n, rfl⟩ : ∃ n', n = n' + 1 := ⟨n - 1, by omega⟩
    have h1 := hs k (lpN b n) (by omega)
    have h2 := ih (k + 1) n (by omega) (by omega)
    rw [← h2, ← h1]
    rfl
theorem lp_for0 {α β : Type} {b : (α → Option β) → α → Option β} (S : Nat → α) (v : β) (m : Nat) {n : Nat} (hn : m < n) (hs : ∀ (k : Nat) (rec : α → Option β), k < m → b rec (S k) = rec (S (k + 1))) (he : ∀ rec : α → Option β, b rec (S m) = some v) : lpN b n (S 0) = some v := lp_for S v m hs he m 0 n (by omega) hn
/-- whether there is one below n -/
def anyN (p : Nat → Bool) : Nat → Bool
  | 0 => false
  | n + 1 => anyN p n || p n
theorem anyN_ex {p : Nat → Bool} {n : Nat} : anyN p n = true ↔ ∃ k, k < n ∧ p k = true := by
  induction n with
  | zero => simp [anyN]
  | succ n ih =>
    simp only [anyN, Bool.or_eq_true, ih]
    constructor
    · rintro (⟨k, h1, h2⟩ | h)
      · exact ⟨k, by omega, h2⟩
      · exact ⟨n, by omega, h⟩
    · rintro ⟨k, h1, h2⟩
      rcases Nat.lt_or_ge k n with h | h
      · exact Or.inl ⟨k, h, h2⟩
      · exact Or.inr (by rw [show n = k by omega]; exact h2)
theorem anyN_no {p : Nat → Bool} {n : Nat} (h : ∀ k, k < n → p k = false) : anyN p n = false := by
  cases hb : anyN p n with
  | false => rfl
  | true =>
    obtain ⟨k, h1, h2⟩ := anyN_ex.mp hb
    rw [h k h1] at h2
    cases h2
/-- the first one below n, or n -/
def fstN (p : Nat → Bool) : Nat → Nat
  | 0 => 0
  | n + 1 => if fstN p n < n then fstN p n else if p n then n else n + 1
theorem fstN_le {p : Nat → Bool} : ∀ {n : Nat}, fstN p n ≤ n
  | 0 => Nat.le_refl _
  | n + 1 => by
    have := fstN_le (p := p) (n := n)
    unfold fstN
    split
    · omega
    · split <;> omega
theorem fstN_at {p : Nat → Bool} : ∀ {n : Nat}, fstN p n < n → p (fstN p n) = true
  | 0, h => absurd h (by simp [fstN])
  | n + 1, h => by
    have hl := fstN_le (p := p) (n := n)
    unfold fstN at h ⊢
    split at h
    · rename_i h1
      rw [if_pos h1]
      exact fstN_at h1
    · rename_i h1
      rw [if_neg h1]
      split at h
      · rename_i h2
        rw [if_pos h2]
        exact h2
      · omega
theorem fstN_no {p : Nat → Bool} : ∀ {n k : Nat}, k < fstN p n → p k = false
  | 0, k, h => absurd h (by simp [fstN])
  | n + 1, k, h => by
    have hl := fstN_le (p := p) (n := n)
    unfold fstN at h
    split at h
    · exact fstN_no h
    · rename_i h1
      split at h
      · exact fstN_no (n := n) (by omega)
      · rename_i h2
        rcases Nat.lt_or_ge k n with h3 | h3
        · exact fstN_no (n := n) (by omega)
        · rw [show k = n by omega]
          exact Bool.not_eq_true _ ▸ h2
theorem anyN_fst {p : Nat → Bool} {n : Nat} : anyN p n = decide (fstN p n < n) := by
  rcases Nat.lt_or_ge (fstN p n) n with h | h
  · rw [decide_eq_true h]
    exact anyN_ex.mpr ⟨_, h, fstN_at h⟩
  · rw [decide_eq_false (by omega)]
    exact anyN_no fun k hk => fstN_no (n := n) (by have := fstN_le (p := p) (n := n); omega)
/-- a sum -/
def sumN (f : Nat → Int32) : Nat → Int32
  | 0 => 0
  | n + 1 => sumN f n + f n
