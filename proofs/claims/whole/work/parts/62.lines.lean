/-! loops with invariants; the lines of a grid -/
theorem lp_inv {α β : Type} {b : (α → Option β) → α → Option β} {P : Nat → α → Prop} {Q : Option β → Prop} (h : ∀ d a, P d a → (∀ rec : α → Option β, Q (b rec a)) ∨ ∃ d' a', d' < d ∧ P d' a' ∧ ∀ rec : α → Option β, b rec a = rec a') : ∀ n d a, d < n → P d a → Q (lpN b n a) := by
  intro n
  induction n with
  | zero => intro d a hd; omega
  | succ n ih =>
    intro d a hd hp
    rcases h d a hp with h1 | ⟨d', a', h1, h2, h3⟩
    · exact h1 (lpN b n)
    · have e : lpN b (n + 1) a = lpN b n a' := h3 (lpN b n)
      rw [e]
      exact ih d' a' (by omega) h2
theorem lp_r {α β : Type} {b : (α → Option β) → α → Option β} (S : Nat → α) (r : Option β) (m : Nat) {a0 : α} (h0 : a0 = S 0) {n : Nat} (hn : m < n) (hs : ∀ (k : Nat) (rec : α → Option β), k < m → b rec (S k) = rec (S (k + 1))) (he : ∀ rec : α → Option β, b rec (S m) = r) : lpN b n a0 = r := by
  refine lp_inv (P := fun d a => d ≤ m ∧ a = S (m - d)) (Q := fun q => q = r) (fun d a hp => ?_) n m a0 hn ⟨Nat.le_refl _, by rw [h0, Nat.sub_self]⟩
  obtain ⟨h1, h2⟩ := hp
  subst h2
  cases d with
  | zero => exact Or.inl fun rec => he rec
  | succ d =>
    refine Or.inr ⟨d, S (m - d), by omega, ⟨by omega, rfl⟩, fun rec => ?_⟩
    have := hs (m - (d + 1)) rec (by omega)
    rw [this, show m - (d + 1) + 1 = m - d by omega]
abbrev LT : Type := Nat × (Nat → Int)
def lAt (L : LT) (z : Int) : Nat := fstN (fun i => decide (z ≤ L.2 i)) L.1
def insL (L : LT) (z : Int) : LT := if lAt L z < L.1 ∧ L.2 (lAt L z) = z then L else (L.1 + 1, fun j => if j < lAt L z then L.2 j else if j = lAt L z then z else L.2 (j - 1))
def SrtL (L : LT) : Prop := ∀ a b, a < b → b < L.1 → L.2 a < L.2 b
def BdL (L : LT) : Prop := ∀ j, j < L.1 → 0 ≤ L.2 j ∧ L.2 j ≤ 99
def InL (L : LT) (w : Int) : Prop := ∃ j, j < L.1 ∧ L.2 j = w
section L1
variable {L : LT} {z : Int}
theorem lAt_le : lAt L z ≤ L.1 := fstN_le
theorem lAt_lt {i : Nat} (h : i < lAt L z) : L.2 i < z := by
  have := fstN_no h
  simp only [decide_eq_false_iff_not] at this
  omega
theorem lAt_ge (hs : SrtL L) {i : Nat} (h : lAt L z ≤ i) (hi : i < L.1) : z ≤ L.2 i := by
  have h1 : lAt L z < L.1 := by omega
  have h2 : z ≤ L.2 (lAt L z) := of_decide_eq_true (fstN_at h1)
  rcases Nat.lt_or_ge (lAt L z) i with h3 | h3
  · have := hs _ _ h3 hi
    omega
  · rw [show i = lAt L z by omega]
    exact h2
theorem insL_y (h : lAt L z < L.1 ∧ L.2 (lAt L z) = z) : insL L z = L := if_pos h
theorem insL_n (h : ¬ (lAt L z < L.1 ∧ L.2 (lAt L z) = z)) : insL L z = (L.1 + 1, fun j => if j < lAt L z then L.2 j else if j = lAt L z then z else L.2 (j - 1)) := if_neg h
theorem ins_n (hs : SrtL L) (h : ¬ (lAt L z < L.1 ∧ L.2 (lAt L z) = z)) {i : Nat} (h1 : lAt L z ≤ i) (hi : i < L.1) : z < L.2 i := by
  have h2 := lAt_ge hs h1 hi
  have h3 : L.2 i ≠ z := fun q => by
    have h4 : lAt L z < L.1 := by omega
    have h5 : z ≤ L.2 (lAt L z) := lAt_ge hs (Nat.le_refl _) h4
    rcases Nat.lt_or_ge (lAt L z) i with h6 | h6
    · have := hs _ _ h6 hi
      omega
    · exact h ⟨h4, by rw [← show i = lAt L z by omega]; exact q⟩
  omega
theorem ins_le : (insL L z).1 ≤ L.1 + 1 := by
  unfold insL
  split
  · omega
  · exact Nat.le_refl _
theorem ins_ge : L.1 ≤ (insL L z).1 := by
  unfold insL
  split
  · omega
  · exact Nat.le_succ _
theorem ins_srt (hs : SrtL L) : SrtL (insL L z) := by
  by_cases h : lAt L z < L.1 ∧ L.2 (lAt L z) = z
  · rw [insL_y h]; exact hs
  · rw [insL_n h]
    intro a b hab hb
    have hb' : b < L.1 + 1 := hb
    have hle := lAt_le (L := L) (z := z)
    show (if a < lAt L z then L.2 a else if a = lAt L z then z else L.2 (a - 1)) < (if b < lAt L z then L.2 b else if b = lAt L z then z else L.2 (b - 1))
    by_cases c1 : b < lAt L z
    · rw [if_pos c1, if_pos (by omega)]
      exact hs a b hab (by omega)
    · rw [if_neg c1]
      by_cases c2 : b = lAt L z
      · rw [if_pos c2, if_pos (by omega)]
        exact lAt_lt (by omega)
      · rw [if_neg c2]
        have k1 := ins_n hs h (i := b - 1) (by omega) (by omega)
        by_cases c3 : a < lAt L z
        · rw [if_pos c3]
          have := lAt_lt c3
          omega
        · rw [if_neg c3]
          by_cases c4 : a = lAt L z
          · rw [if_pos c4]; exact k1
          · rw [if_neg c4]
            exact hs _ _ (by omega) (by omega)
theorem ins_mem (w : Int) : InL (insL L z) w ↔ w = z ∨ InL L w := by
  by_cases h : lAt L z < L.1 ∧ L.2 (lAt L z) = z
  · rw [insL_y h]
    constructor
    · exact Or.inr
    · rintro (rfl | h1)
      · exact ⟨_, h.1, h.2⟩
      · exact h1
  · rw [insL_n h]
    have hle := lAt_le (L := L) (z := z)
    constructor
    · rintro ⟨j, hj, e⟩
      have hj' : j < L.1 + 1 := hj
      have e' : (if j < lAt L z then L.2 j else if j = lAt L z then z else L.2 (j - 1)) = w := e
      by_cases c1 : j < lAt L z
      · rw [if_pos c1] at e'
        exact Or.inr ⟨j, by omega, e'⟩
      · rw [if_neg c1] at e'
        by_cases c2 : j = lAt L z
        · rw [if_pos c2] at e'
          exact Or.inl e'.symm
        · rw [if_neg c2] at e'
          exact Or.inr ⟨j - 1, by omega, e'⟩
    · rintro (rfl | ⟨j, hj, e⟩)
      · refine ⟨lAt L w, by show lAt L w < L.1 + 1; omega, ?_⟩
        show (if lAt L w < lAt L w then L.2 (lAt L w) else if lAt L w = lAt L w then w else L.2 (lAt L w - 1)) = w
        rw [if_neg (by omega), if_pos rfl]
      · rcases Nat.lt_or_ge j (lAt L z) with c | c
        · refine ⟨j, by show j < L.1 + 1; omega, ?_⟩
          show (if j < lAt L z then L.2 j else if j = lAt L z then z else L.2 (j - 1)) = w
          rw [if_pos c]; exact e
        · refine ⟨j + 1, by show j + 1 < L.1 + 1; omega, ?_⟩
          show (if j + 1 < lAt L z then L.2 (j + 1) else if j + 1 = lAt L z then z else L.2 (j + 1 - 1)) = w
          rw [if_neg (by omega), if_neg (by omega)]; exact e
theorem ins_bd (hb : BdL L) (hz : 0 ≤ z ∧ z ≤ 99) : BdL (insL L z) := fun j hj => by
  rcases (ins_mem (L := L) (z := z) ((insL L z).2 j)).mp ⟨j, hj, rfl⟩ with e | ⟨i, hi, e⟩
  · rw [e]; exact hz
  · rw [← e]; exact hb i hi
end L1
theorem sc_ins28 {F : Nat} (hF : 100 ≤ F) {σ : CSt} {L : LT} (hs : SrtL L) (hn : L.1 ≤ 17) (hb : BdL L) {z : Int} (hz : 0 ≤ z ∧ z ≤ 99) (hR : ∀ j, j < L.1 → cs_gx σ j = I (L.2 j)) : ∃ f', fc_X4_insert_28 F σ (I L.1) (I z) = some (I ((insL L z).1 : Nat), cs_gx_s σ f') ∧ ∀ j, j < (insL L z).1 → f' j = I ((insL L z).2 j) := by
  have hle := lAt_le (L := L) (z := z)
  generalize ha : lAt L z = a at hle
  have hlo : ∀ i, i < a → L.2 i < z := fun i hi => lAt_lt (by omega)
  have step : ∀ m, m ≤ L.1 → (∀ i, m ≤ i → i < L.1 → z < L.2 i) → ∀ r, (∀ rec, fc_X4_insert_28_L2_c F rec σ (I L.1) (I z) (I m) = r) → fc_X4_insert_28 F σ (I L.1) (I z) = r := fun m hm hgt r he => by
    refine lp_r (fun k => (σ, I L.1, I z, I ((L.1 - k : Nat) : Int))) r (L.1 - m) rfl (by omega) (fun k rec hk => ?_) (fun rec => ?_)
    · have e1 : ¬ I ((L.1 - k : Nat) : Int) ≤ 0 := by rw [I_0, I_le] <;> omega
      have e2 : I ((L.1 - k : Nat) : Int) - 1 = I ((L.1 - (k + 1) : Nat) : Int) := by
        rw [I_1, I_sub]
        exact congrArg I (by omega)
      have e3 : I ((L.1 - k : Nat) : Int) + -1 = I ((L.1 - (k + 1) : Nat) : Int) := by
        rw [show (-1 : Int32) = I (-1) from rfl, I_add]
        exact congrArg I (by omega)
      have e4 := hR (L.1 - (k + 1)) (by omega)
      have b4 := hb (L.1 - (k + 1)) (by omega)
      have e5 : ¬ I (L.2 (L.1 - (k + 1))) ≤ I z := by
        have := hgt (L.1 - (k + 1)) (by omega) (by omega)
        rw [I_le] <;> omega
      have e6 : ((L.1 - (k + 1) : Nat) : Int).toNat = L.1 - (k + 1) := by omega
      simp (disch := omega) only [fc_X4_insert_28_L2_c, e1, if_false, e2, e3, I_ix, gd_T, I_cl, e6, e4, e5, lt_r]
    · have e7 : L.1 - (L.1 - m) = m := by omega
      show fc_X4_insert_28_L2_c F _ σ (I L.1) (I z) (I ((L.1 - (L.1 - m) : Nat) : Int)) = r
      rw [e7]
      exact he _
  have h18 : ¬ (18 : Int32) ≤ I L.1 := by rw [show (18 : Int32) = I 18 from rfl, I_le] <;> omega
  by_cases h : lAt L z < L.1 ∧ L.2 (lAt L z) = z
  · rw [insL_y h]
    refine ⟨cs_gx σ, ?_, hR⟩
    rw [ha] at h
    refine step (a + 1) (by omega) (fun i h1 h2 => by have := hs a i (by omega) h2; omega) _ (fun rec => ?_)
    have e1 : ¬ I ((a + 1 : Nat) : Int) ≤ 0 := by rw [I_0, I_le] <;> omega
    have e2 : I ((a + 1 : Nat) : Int) - 1 = I a := by
      rw [I_1, I_sub]
      exact congrArg I (by omega)
    have e4 := hR a (by omega)
    rw [h.2] at e4
    have e5 : I z ≤ I z := by rw [I_le] <;> omega
    have e6 : ((a : Nat) : Int).toNat = a := by omega
    simp (disch := omega) only [fc_X4_insert_28_L2_c, fc_X4_insert_28_L21, fc_X4_insert_28_L40, e1, if_false, e2, I_ix, gd_T, I_cl, e6, e4, e5, if_true, h18]
    rfl
  · rw [insL_n h, ha]
    have hgt : ∀ i, a ≤ i → i < L.1 → z < L.2 i := fun i h1 h2 => ins_n hs h (by omega) h2
    refine ⟨upd (va_cpy (cs_gx σ) (cs_gx σ) a (a + 1) (L.1 - a)) a (I z), ?_, fun j hj => ?_⟩
    · refine step a hle hgt _ (fun rec => ?_)
      have e8 : I a + 1 = I ((a + 1 : Nat) : Int) := I_S a
      have e9 : I L.1 - I a = I ((L.1 - a : Nat) : Int) := by
        rw [I_sub]
        exact congrArg I (by omega)
      have e10 : cpo (I a) (I ((a + 1 : Nat) : Int)) (I ((L.1 - a : Nat) : Int)) 18 18 = true := by
        have q1 : (0 : Int32) ≤ I a := by rw [I_0, I_le] <;> omega
        have q2 : (0 : Int32) ≤ I ((a + 1 : Nat) : Int) := by rw [I_0, I_le] <;> omega
        have q3 : (0 : Int32) ≤ I ((L.1 - a : Nat) : Int) := by rw [I_0, I_le] <;> omega
        unfold cpo
        rw [decide_eq_true q1, decide_eq_true q2, decide_eq_true q3, I_cl (by omega) (by omega), I_cl (by omega) (by omega), I_cl (by omega) (by omega)]
        simp only [Bool.true_and, Bool.and_eq_true, Nat.ble_eq]
        omega
      have e11 : ((a : Nat) : Int).toNat = a := by omega
      have e12 : ((a + 1 : Nat) : Int).toNat = a + 1 := by omega
      have e13 : ((L.1 - a : Nat) : Int).toNat = L.1 - a := by omega
      have e14 : I L.1 + 1 = I ((L.1 + 1 : Nat) : Int) := I_S _
      have f42 : fc_X4_insert_28_L42 F σ (I L.1) (I z) (I a) = some (I ((L.1 + 1 : Nat) : Int), cs_gx_s σ (upd (va_cpy (cs_gx σ) (cs_gx σ) a (a + 1) (L.1 - a)) a (I z))) := by
        simp (disch := omega) only [fc_X4_insert_28_L42, e8, e9, e10, gd_T, lt_r, I_ix, I_cl, e11, e12, e13, e14, sc_gx]
        rfl
      by_cases h0 : a = 0
      · have e1 : I a ≤ 0 := by rw [I_0, I_le] <;> omega
        simp (disch := omega) only [fc_X4_insert_28_L2_c, fc_X4_insert_28_L21, e1, if_true, h18, if_false, f42]
      · have e1 : ¬ I a ≤ 0 := by rw [I_0, I_le] <;> omega
        have e2 : I a - 1 = I ((a - 1 : Nat) : Int) := by
          rw [I_1, I_sub]
          exact congrArg I (by omega)
        have e3 : ((a - 1 : Nat) : Int).toNat = a - 1 := by omega
        have e4 := hR (a - 1) (by omega)
        have b4 := hb (a - 1) (by omega)
        have l4 := hlo (a - 1) (by omega)
        have e5 : I (L.2 (a - 1)) ≤ I z := by rw [I_le] <;> omega
        have e6 : ¬ I (L.2 (a - 1)) = I z := by rw [I_eq] <;> omega
        simp (disch := omega) only [fc_X4_insert_28_L2_c, fc_X4_insert_28_L21, e1, if_true, h18, if_false, f42, e2, I_ix, gd_T, I_cl, e3, e4, e5, e6]
    · have hj' : j < L.1 + 1 := hj
      show upd (va_cpy (cs_gx σ) (cs_gx σ) a (a + 1) (L.1 - a)) a (I z) j = I (if j < a then L.2 j else if j = a then z else L.2 (j - 1))
      unfold upd va_cpy
      by_cases c1 : j < a
      · rw [if_neg (by omega), if_neg (by omega), if_pos c1]
        exact hR j (by omega)
      · by_cases c2 : j = a
        · rw [if_pos c2, if_neg c1, if_pos c2]
        · rw [if_neg c2, if_pos (by omega), if_neg c1, if_neg c2, ← hR (j - 1) (by omega)]
          exact congrArg _ (by omega)
theorem sc_ins29 {F : Nat} (hF : 100 ≤ F) {σ : CSt} {L : LT} (hs : SrtL L) (hn : L.1 ≤ 17) (hb : BdL L) {z : Int} (hz : 0 ≤ z ∧ z ≤ 99) (hR : ∀ j, j < L.1 → cs_gy σ j = I (L.2 j)) : ∃ f', fc_X4_insert_29 F σ (I L.1) (I z) = some (I ((insL L z).1 : Nat), cs_gy_s σ f') ∧ ∀ j, j < (insL L z).1 → f' j = I ((insL L z).2 j) := by
  have hle := lAt_le (L := L) (z := z)
  generalize ha : lAt L z = a at hle
  have hlo : ∀ i, i < a → L.2 i < z := fun i hi => lAt_lt (by omega)
  have step : ∀ m, m ≤ L.1 → (∀ i, m ≤ i → i < L.1 → z < L.2 i) → ∀ r, (∀ rec, fc_X4_insert_29_L2_c F rec σ (I L.1) (I z) (I m) = r) → fc_X4_insert_29 F σ (I L.1) (I z) = r := fun m hm hgt r he => by
    refine lp_r (fun k => (σ, I L.1, I z, I ((L.1 - k : Nat) : Int))) r (L.1 - m) rfl (by omega) (fun k rec hk => ?_) (fun rec => ?_)
    · have e1 : ¬ I ((L.1 - k : Nat) : Int) ≤ 0 := by rw [I_0, I_le] <;> omega
      have e2 : I ((L.1 - k : Nat) : Int) - 1 = I ((L.1 - (k + 1) : Nat) : Int) := by
        rw [I_1, I_sub]
        exact congrArg I (by omega)
      have e3 : I ((L.1 - k : Nat) : Int) + -1 = I ((L.1 - (k + 1) : Nat) : Int) := by
        rw [show (-1 : Int32) = I (-1) from rfl, I_add]
        exact congrArg I (by omega)
      have e4 := hR (L.1 - (k + 1)) (by omega)
      have b4 := hb (L.1 - (k + 1)) (by omega)
      have e5 : ¬ I (L.2 (L.1 - (k + 1))) ≤ I z := by
        have := hgt (L.1 - (k + 1)) (by omega) (by omega)
        rw [I_le] <;> omega
      have e6 : ((L.1 - (k + 1) : Nat) : Int).toNat = L.1 - (k + 1) := by omega
      simp (disch := omega) only [fc_X4_insert_29_L2_c, e1, if_false, e2, e3, I_ix, gd_T, I_cl, e6, e4, e5, lt_r]
    · have e7 : L.1 - (L.1 - m) = m := by omega
      show fc_X4_insert_29_L2_c F _ σ (I L.1) (I z) (I ((L.1 - (L.1 - m) : Nat) : Int)) = r
      rw [e7]
      exact he _
  have h18 : ¬ (18 : Int32) ≤ I L.1 := by rw [show (18 : Int32) = I 18 from rfl, I_le] <;> omega
  by_cases h : lAt L z < L.1 ∧ L.2 (lAt L z) = z
  · rw [insL_y h]
    refine ⟨cs_gy σ, ?_, hR⟩
    rw [ha] at h
    refine step (a + 1) (by omega) (fun i h1 h2 => by have := hs a i (by omega) h2; omega) _ (fun rec => ?_)
    have e1 : ¬ I ((a + 1 : Nat) : Int) ≤ 0 := by rw [I_0, I_le] <;> omega
    have e2 : I ((a + 1 : Nat) : Int) - 1 = I a := by
      rw [I_1, I_sub]
      exact congrArg I (by omega)
    have e4 := hR a (by omega)
    rw [h.2] at e4
    have e5 : I z ≤ I z := by rw [I_le] <;> omega
    have e6 : ((a : Nat) : Int).toNat = a := by omega
    simp (disch := omega) only [fc_X4_insert_29_L2_c, fc_X4_insert_29_L21, fc_X4_insert_29_L40, e1, if_false, e2, I_ix, gd_T, I_cl, e6, e4, e5, if_true, h18]
    rfl
  · rw [insL_n h, ha]
    have hgt : ∀ i, a ≤ i → i < L.1 → z < L.2 i := fun i h1 h2 => ins_n hs h (by omega) h2
    refine ⟨upd (va_cpy (cs_gy σ) (cs_gy σ) a (a + 1) (L.1 - a)) a (I z), ?_, fun j hj => ?_⟩
    · refine step a hle hgt _ (fun rec => ?_)
      have e8 : I a + 1 = I ((a + 1 : Nat) : Int) := I_S a
      have e9 : I L.1 - I a = I ((L.1 - a : Nat) : Int) := by
        rw [I_sub]
        exact congrArg I (by omega)
      have e10 : cpo (I a) (I ((a + 1 : Nat) : Int)) (I ((L.1 - a : Nat) : Int)) 18 18 = true := by
        have q1 : (0 : Int32) ≤ I a := by rw [I_0, I_le] <;> omega
        have q2 : (0 : Int32) ≤ I ((a + 1 : Nat) : Int) := by rw [I_0, I_le] <;> omega
        have q3 : (0 : Int32) ≤ I ((L.1 - a : Nat) : Int) := by rw [I_0, I_le] <;> omega
        unfold cpo
        rw [decide_eq_true q1, decide_eq_true q2, decide_eq_true q3, I_cl (by omega) (by omega), I_cl (by omega) (by omega), I_cl (by omega) (by omega)]
        simp only [Bool.true_and, Bool.and_eq_true, Nat.ble_eq]
        omega
      have e11 : ((a : Nat) : Int).toNat = a := by omega
      have e12 : ((a + 1 : Nat) : Int).toNat = a + 1 := by omega
      have e13 : ((L.1 - a : Nat) : Int).toNat = L.1 - a := by omega
      have e14 : I L.1 + 1 = I ((L.1 + 1 : Nat) : Int) := I_S _
      have f42 : fc_X4_insert_29_L42 F σ (I L.1) (I z) (I a) = some (I ((L.1 + 1 : Nat) : Int), cs_gy_s σ (upd (va_cpy (cs_gy σ) (cs_gy σ) a (a + 1) (L.1 - a)) a (I z))) := by
        simp (disch := omega) only [fc_X4_insert_29_L42, e8, e9, e10, gd_T, lt_r, I_ix, I_cl, e11, e12, e13, e14, sc_gy]
        rfl
      by_cases h0 : a = 0
      · have e1 : I a ≤ 0 := by rw [I_0, I_le] <;> omega
        simp (disch := omega) only [fc_X4_insert_29_L2_c, fc_X4_insert_29_L21, e1, if_true, h18, if_false, f42]
      · have e1 : ¬ I a ≤ 0 := by rw [I_0, I_le] <;> omega
        have e2 : I a - 1 = I ((a - 1 : Nat) : Int) := by
          rw [I_1, I_sub]
          exact congrArg I (by omega)
        have e3 : ((a - 1 : Nat) : Int).toNat = a - 1 := by omega
        have e4 := hR (a - 1) (by omega)
        have b4 := hb (a - 1) (by omega)
        have l4 := hlo (a - 1) (by omega)
        have e5 : I (L.2 (a - 1)) ≤ I z := by rw [I_le] <;> omega
        have e6 : ¬ I (L.2 (a - 1)) = I z := by rw [I_eq] <;> omega
        simp (disch := omega) only [fc_X4_insert_29_L2_c, fc_X4_insert_29_L21, e1, if_true, h18, if_false, f42, e2, I_ix, gd_T, I_cl, e3, e4, e5, e6]
    · have hj' : j < L.1 + 1 := hj
      show upd (va_cpy (cs_gy σ) (cs_gy σ) a (a + 1) (L.1 - a)) a (I z) j = I (if j < a then L.2 j else if j = a then z else L.2 (j - 1))
      unfold upd va_cpy
      by_cases c1 : j < a
      · rw [if_neg (by omega), if_neg (by omega), if_pos c1]
        exact hR j (by omega)
      · by_cases c2 : j = a
        · rw [if_pos c2, if_neg c1, if_pos c2]
        · rw [if_neg c2, if_pos (by omega), if_neg c1, if_neg c2, ← hR (j - 1) (by omega)]
          exact congrArg _ (by omega)
def shD (f : Nat → Int32) (n k : Nat) : Nat → Int32 := fun j => if n - k < j ∧ j ≤ n then f (j - 1) else f j
theorem sm_addsX {F : Nat} (hF : 100 ≤ F) {τ : MS} {L : LT} (hs : SrtL L) (hn : L.1 ≤ 18) (hb : BdL L) {z : Int} (hz : 0 ≤ z ∧ z ≤ 99) (hm : ms_xMany τ = I L.1) (hR : ∀ j, j < L.1 → ms_xs τ j = I (L.2 j)) : ∃ f', fm_addsX F τ (I z) = some (ms_xMany_s (ms_xs_s τ f') (I ((insL L z).1 : Nat))) ∧ ∀ j, j < (insL L z).1 → f' j = I ((insL L z).2 j) := by
  have hle := lAt_le (L := L) (z := z)
  generalize ha : lAt L z = a at hle
  have hlo : ∀ i, i < a → L.2 i < z := fun i hi => lAt_lt (by omega)
  have step : ∀ r, fm_addsX_L26 F τ (I z) (I a) = r → fm_addsX F τ (I z) = r := fun r he => by
    refine lp_r (fun k => (τ, I z, I k)) r a rfl (by omega) (fun k rec hk => ?_) (fun rec => ?_)
    · have e1 : ¬ I L.1 ≤ I k := by rw [I_le] <;> omega
      have e4 := hR k (by omega)
      have b4 := hb k (by omega)
      have e5 : ¬ I z ≤ I (L.2 k) := by
        have := hlo k hk
        rw [I_le] <;> omega
      have e6 : ((k : Nat) : Int).toNat = k := by omega
      simp (disch := omega) only [fm_addsX_L2_c, hm, e1, if_false, I_ix, gd_T, I_cl, e6, e4, e5, lt_r, I_S]
    · by_cases h0 : a = L.1
      · have e1 : I L.1 ≤ I a := by rw [I_le] <;> omega
        simp only [fm_addsX_L2_c, hm, e1, if_true]
        exact he
      · have e1 : ¬ I L.1 ≤ I a := by rw [I_le] <;> omega
        have e4 := hR a (by omega)
        have b4 := hb a (by omega)
        have e5 : I z ≤ I (L.2 a) := by
          have := lAt_ge hs (z := z) (i := a) (by omega) (by omega)
          rw [I_le] <;> omega
        have e6 : ((a : Nat) : Int).toNat = a := by omega
        simp (disch := omega) only [fm_addsX_L2_c, hm, e1, if_false, I_ix, gd_T, I_cl, e6, e4, e5, if_true]
        exact he
  have e6 : ((a : Nat) : Int).toNat = a := by omega
  by_cases h : lAt L z < L.1 ∧ L.2 (lAt L z) = z
  · rw [insL_y h]
    rw [ha] at h
    refine ⟨ms_xs τ, step _ ?_, hR⟩
    have e1 : ¬ I L.1 ≤ I a := by rw [I_le] <;> omega
    have e4 := hR a (by omega)
    rw [h.2] at e4
    simp (disch := omega) only [fm_addsX_L26, hm, e1, if_false, I_ix, gd_T, I_cl, e6, e4, if_true]
    rw [← hm]
    rfl
  · rw [insL_n h, ha]
    refine ⟨upd (shD (ms_xs τ) L.1 (L.1 - a)) a (I z), step _ ?_, fun j hj => ?_⟩
    · have f45 : fm_addsX_L45 F τ (I z) (I a) = some (ms_xMany_s (ms_xs_s τ (upd (shD (ms_xs τ) L.1 (L.1 - a)) a (I z))) (I ((L.1 + 1 : Nat) : Int))) := by
        simp only [fm_addsX_L45, lt_r, hm]
        refine lp_r (fun k => (ms_xs_s τ (shD (ms_xs τ) L.1 k), I z, I a, I ((L.1 - k : Nat) : Int))) _ (L.1 - a) ?_ (by omega) (fun k rec hk => ?_) (fun rec => ?_)
        · have q : shD (ms_xs τ) L.1 0 = ms_xs τ := by
            funext j
            unfold shD
            rw [if_neg (by omega)]
          simp only [q]
          rfl
        · have e1 : ¬ I ((L.1 - k : Nat) : Int) ≤ I a := by rw [I_le] <;> omega
          have e2 : I ((L.1 - k : Nat) : Int) - 1 = I ((L.1 - (k + 1) : Nat) : Int) := by
            rw [I_1, I_sub]
            exact congrArg I (by omega)
          have e3 : I ((L.1 - k : Nat) : Int) + -1 = I ((L.1 - (k + 1) : Nat) : Int) := by
            rw [show (-1 : Int32) = I (-1) from rfl, I_add]
            exact congrArg I (by omega)
          have e7 : ((L.1 - k : Nat) : Int).toNat = L.1 - k := by omega
          have e8 : ((L.1 - (k + 1) : Nat) : Int).toNat = L.1 - (k + 1) := by omega
          simp (disch := omega) only [fm_addsX_L50_c, e1, if_false, e2, e3, I_ix, gd_T, I_cl, e7, e8, lt_r, st_xs, zm_xs_xs]
          have q : upd (shD (ms_xs τ) L.1 k) (L.1 - k) (shD (ms_xs τ) L.1 k (L.1 - (k + 1))) = shD (ms_xs τ) L.1 (k + 1) := by
            funext j
            unfold upd shD
            by_cases c1 : j = L.1 - k
            · rw [if_pos c1, if_neg (by omega), if_pos (by omega)]
              exact congrArg _ (by omega)
            · rw [if_neg c1]
              by_cases c2 : L.1 - k < j ∧ j ≤ L.1
              · rw [if_pos c2, if_pos (by omega)]
              · rw [if_neg c2, if_neg (by omega)]
          rw [q]
          rfl
        · have e7 : L.1 - (L.1 - a) = a := by omega
          have e1 : I ((L.1 - (L.1 - a) : Nat) : Int) ≤ I a := by rw [I_le] <;> omega
          simp (disch := omega) only [fm_addsX_L50_c, e1, if_true, I_ix, gd_T, I_cl, e6, lt_r, st_xs, zm_xs_xs, zm_xMany_xs, hm, I_S]
          rfl
      by_cases h0 : a = L.1
      · have e1 : I L.1 ≤ I a := by rw [I_le] <;> omega
        simp only [fm_addsX_L26, hm, e1, if_true]
        exact f45
      · have e1 : ¬ I L.1 ≤ I a := by rw [I_le] <;> omega
        have e4 := hR a (by omega)
        have b4 := hb a (by omega)
        have e5 : ¬ I (L.2 a) = I z := by
          rw [ha] at h
          rw [I_eq] <;> omega
        simp (disch := omega) only [fm_addsX_L26, hm, e1, if_false, I_ix, gd_T, I_cl, e6, e4, e5]
        exact f45
    · have hj' : j < L.1 + 1 := hj
      show upd (shD (ms_xs τ) L.1 (L.1 - a)) a (I z) j = I (if j < a then L.2 j else if j = a then z else L.2 (j - 1))
      unfold upd shD
      by_cases c1 : j < a
      · rw [if_neg (by omega), if_neg (by omega), if_pos c1]
        exact hR j (by omega)
      · by_cases c2 : j = a
        · rw [if_pos c2, if_neg c1, if_pos c2]
        · rw [if_neg c2, if_pos (by omega), if_neg c1, if_neg c2, ← hR (j - 1) (by omega)]
theorem sm_addsY {F : Nat} (hF : 100 ≤ F) {τ : MS} {L : LT} (hs : SrtL L) (hn : L.1 ≤ 18) (hb : BdL L) {z : Int} (hz : 0 ≤ z ∧ z ≤ 99) (hm : ms_yMany τ = I L.1) (hR : ∀ j, j < L.1 → ms_ys τ j = I (L.2 j)) : ∃ f', fm_addsY F τ (I z) = some (ms_yMany_s (ms_ys_s τ f') (I ((insL L z).1 : Nat))) ∧ ∀ j, j < (insL L z).1 → f' j = I ((insL L z).2 j) := by
  have hle := lAt_le (L := L) (z := z)
  generalize ha : lAt L z = a at hle
  have hlo : ∀ i, i < a → L.2 i < z := fun i hi => lAt_lt (by omega)
  have step : ∀ r, fm_addsY_L26 F τ (I z) (I a) = r → fm_addsY F τ (I z) = r := fun r he => by
    refine lp_r (fun k => (τ, I z, I k)) r a rfl (by omega) (fun k rec hk => ?_) (fun rec => ?_)
    · have e1 : ¬ I L.1 ≤ I k := by rw [I_le] <;> omega
      have e4 := hR k (by omega)
      have b4 := hb k (by omega)
      have e5 : ¬ I z ≤ I (L.2 k) := by
        have := hlo k hk
        rw [I_le] <;> omega
      have e6 : ((k : Nat) : Int).toNat = k := by omega
      simp (disch := omega) only [fm_addsY_L2_c, hm, e1, if_false, I_ix, gd_T, I_cl, e6, e4, e5, lt_r, I_S]
    · by_cases h0 : a = L.1
      · have e1 : I L.1 ≤ I a := by rw [I_le] <;> omega
        simp only [fm_addsY_L2_c, hm, e1, if_true]
        exact he
      · have e1 : ¬ I L.1 ≤ I a := by rw [I_le] <;> omega
        have e4 := hR a (by omega)
        have b4 := hb a (by omega)
        have e5 : I z ≤ I (L.2 a) := by
          have := lAt_ge hs (z := z) (i := a) (by omega) (by omega)
          rw [I_le] <;> omega
        have e6 : ((a : Nat) : Int).toNat = a := by omega
        simp (disch := omega) only [fm_addsY_L2_c, hm, e1, if_false, I_ix, gd_T, I_cl, e6, e4, e5, if_true]
        exact he
  have e6 : ((a : Nat) : Int).toNat = a := by omega
  by_cases h : lAt L z < L.1 ∧ L.2 (lAt L z) = z
  · rw [insL_y h]
    rw [ha] at h
    refine ⟨ms_ys τ, step _ ?_, hR⟩
    have e1 : ¬ I L.1 ≤ I a := by rw [I_le] <;> omega
    have e4 := hR a (by omega)
    rw [h.2] at e4
    simp (disch := omega) only [fm_addsY_L26, hm, e1, if_false, I_ix, gd_T, I_cl, e6, e4, if_true]
    rw [← hm]
    rfl
  · rw [insL_n h, ha]
    refine ⟨upd (shD (ms_ys τ) L.1 (L.1 - a)) a (I z), step _ ?_, fun j hj => ?_⟩
    · have f45 : fm_addsY_L45 F τ (I z) (I a) = some (ms_yMany_s (ms_ys_s τ (upd (shD (ms_ys τ) L.1 (L.1 - a)) a (I z))) (I ((L.1 + 1 : Nat) : Int))) := by
        simp only [fm_addsY_L45, lt_r, hm]
        refine lp_r (fun k => (ms_ys_s τ (shD (ms_ys τ) L.1 k), I z, I a, I ((L.1 - k : Nat) : Int))) _ (L.1 - a) ?_ (by omega) (fun k rec hk => ?_) (fun rec => ?_)
        · have q : shD (ms_ys τ) L.1 0 = ms_ys τ := by
            funext j
            unfold shD
            rw [if_neg (by omega)]
          simp only [q]
          rfl
        · have e1 : ¬ I ((L.1 - k : Nat) : Int) ≤ I a := by rw [I_le] <;> omega
          have e2 : I ((L.1 - k : Nat) : Int) - 1 = I ((L.1 - (k + 1) : Nat) : Int) := by
            rw [I_1, I_sub]
            exact congrArg I (by omega)
          have e3 : I ((L.1 - k : Nat) : Int) + -1 = I ((L.1 - (k + 1) : Nat) : Int) := by
            rw [show (-1 : Int32) = I (-1) from rfl, I_add]
            exact congrArg I (by omega)
          have e7 : ((L.1 - k : Nat) : Int).toNat = L.1 - k := by omega
          have e8 : ((L.1 - (k + 1) : Nat) : Int).toNat = L.1 - (k + 1) := by omega
          simp (disch := omega) only [fm_addsY_L50_c, e1, if_false, e2, e3, I_ix, gd_T, I_cl, e7, e8, lt_r, st_ys, zm_ys_ys]
          have q : upd (shD (ms_ys τ) L.1 k) (L.1 - k) (shD (ms_ys τ) L.1 k (L.1 - (k + 1))) = shD (ms_ys τ) L.1 (k + 1) := by
            funext j
            unfold upd shD
            by_cases c1 : j = L.1 - k
            · rw [if_pos c1, if_neg (by omega), if_pos (by omega)]
              exact congrArg _ (by omega)
            · rw [if_neg c1]
              by_cases c2 : L.1 - k < j ∧ j ≤ L.1
              · rw [if_pos c2, if_pos (by omega)]
              · rw [if_neg c2, if_neg (by omega)]
          rw [q]
          rfl
        · have e7 : L.1 - (L.1 - a) = a := by omega
          have e1 : I ((L.1 - (L.1 - a) : Nat) : Int) ≤ I a := by rw [I_le] <;> omega
          simp (disch := omega) only [fm_addsY_L50_c, e1, if_true, I_ix, gd_T, I_cl, e6, lt_r, st_ys, zm_ys_ys, zm_yMany_ys, hm, I_S]
          rfl
      by_cases h0 : a = L.1
      · have e1 : I L.1 ≤ I a := by rw [I_le] <;> omega
        simp only [fm_addsY_L26, hm, e1, if_true]
        exact f45
      · have e1 : ¬ I L.1 ≤ I a := by rw [I_le] <;> omega
        have e4 := hR a (by omega)
        have b4 := hb a (by omega)
        have e5 : ¬ I (L.2 a) = I z := by
          rw [ha] at h
          rw [I_eq] <;> omega
        simp (disch := omega) only [fm_addsY_L26, hm, e1, if_false, I_ix, gd_T, I_cl, e6, e4, e5]
        exact f45
    · have hj' : j < L.1 + 1 := hj
      show upd (shD (ms_ys τ) L.1 (L.1 - a)) a (I z) j = I (if j < a then L.2 j else if j = a then z else L.2 (j - 1))
      unfold upd shD
      by_cases c1 : j < a
      · rw [if_neg (by omega), if_neg (by omega), if_pos c1]
        exact hR j (by omega)
      · by_cases c2 : j = a
        · rw [if_pos c2, if_neg c1, if_pos c2]
        · rw [if_neg c2, if_pos (by omega), if_neg c1, if_neg c2, ← hR (j - 1) (by omega)]
