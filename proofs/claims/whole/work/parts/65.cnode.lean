/-! the class's grid: nodes -/
def GrC (σ : CSt) (A : GD) : Prop := LnC σ A ∧ GrOk A ∧ (∀ n, n < 324 → (inG A n ∨ n % 18 = 17) → cs_goR σ n = b2 (rtB A n)) ∧ ∀ n, n < 324 → inG A n → cs_goD σ n = b2 (dnB A n)
theorem I_modn (a m : Nat) (h : a < 1000000) (hm : 0 < m) (hm2 : m < 1000000) : I a - I a / I m * I m = I ((a % m : Nat) : Int) := by
  rw [I_div (by omega) (by omega) (by omega) (by omega), I_mul, I_sub]
  refine congrArg I ?_
  have := Nat.div_add_mod a m
  have h2 : ((a / m : Nat) : Int) = (a : Int) / (m : Int) := Int.natCast_ediv a m
  have h3 : ((a / m * m + a % m : Nat) : Int) = (a : Int) := by rw [Nat.mul_comm]; exact congrArg _ this
  rw [← h2]
  simp only [Int.natCast_add, Int.natCast_mul] at h3 ⊢
  omega
theorem I_divn (a m : Nat) (h : a < 1000000) (hm : 0 < m) (hm2 : m < 1000000) : I a / I m = I ((a / m : Nat) : Int) := by
  rw [I_div (by omega) (by omega) (by omega) (by omega)]
  exact congrArg I (Int.natCast_ediv a m).symm
section N1
variable {F : Nat} {σ : CSt} {A : GD}
theorem inG_lt (hg : GrOk A) {n : Nat} (h : inG A n) : n < 324 := by
  have h1 := hg.1
  have h2 := hg.2.1
  obtain ⟨h3, h4⟩ := h
  omega
theorem sc_nbr (h : GrC σ A) {n d : Nat} (hn : inG A n) (hd : d < 4) : fc_X4_neighbour F σ (I n) (I d) = some (if opA A n d = true then I (tgA n d : Nat) else -1) := by
  obtain ⟨hL, hg, hR, hD⟩ := h
  have hlt := inG_lt hg hn
  have hnn : ((n : Nat) : Int).toNat = n := by omega
  rcases (show d = 0 ∨ d = 1 ∨ d = 2 ∨ d = 3 by omega) with rfl | rfl | rfl | rfl
  · have u0 : (I ((0 : Nat) : Int) = 0) = True := by decide
    show _ = some (if (decide (18 ≤ n) && dnB A (n - 18)) = true then I ((n - 18 : Nat) : Int) else -1)
    by_cases c1 : n < 18
    · have e1 : I n < 18 := by rw [show (18 : Int32) = I 18 from rfl, I_lt] <;> omega
      simp only [fc_X4_neighbour, fc_X4_neighbour_L53, fc_X4_neighbour_L54, u0, if_true, e1, decide_eq_false (show ¬ 18 ≤ n by omega), Bool.false_and, Bool.false_eq_true, if_false]
    · have e1 : ¬ I n < 18 := by rw [show (18 : Int32) = I 18 from rfl, I_lt] <;> omega
      have e2 : I n - 18 = I ((n - 18 : Nat) : Int) := by
        rw [show (18 : Int32) = I 18 from rfl, I_sub]
        exact congrArg I (by omega)
      have e3 : ((n - 18 : Nat) : Int).toNat = n - 18 := by omega
      have e4 := hD (n - 18) (by omega) (by have := hn.1; have := hn.2; constructor <;> omega)
      simp (disch := omega) only [fc_X4_neighbour, fc_X4_neighbour_L53, fc_X4_neighbour_L54, u0, if_true, e1, e2, I_ix, gd_T, I_cl, e3, e4, b2_0, decide_eq_true (show 18 ≤ n by omega), Bool.true_and, if_false]
      cases dnB A (n - 18) <;> rfl
  · have u0 : (I ((1 : Nat) : Int) = 0) = False := by decide
    have u1 : (I ((1 : Nat) : Int) = 1) = True := by decide
    show _ = some (if rtB A n = true then I ((n + 1 : Nat) : Int) else -1)
    have e4 := hR n hlt (Or.inl hn)
    simp (disch := omega) only [fc_X4_neighbour, fc_X4_neighbour_L71, u0, u1, if_true, if_false, I_ix, gd_T, I_cl, hnn, e4, b2_0, I_S]
    cases rtB A n <;> rfl
  · have u0 : (I ((2 : Nat) : Int) = 0) = False := by decide
    have u1 : (I ((2 : Nat) : Int) = 1) = False := by decide
    have u2 : (I ((2 : Nat) : Int) = 2) = True := by decide
    show _ = some (if dnB A n = true then I ((n + 18 : Nat) : Int) else -1)
    have e4 := hD n hlt hn
    have e2 : I n + 18 = I ((n + 18 : Nat) : Int) := by rw [show (18 : Int32) = I 18 from rfl, I_add]; rfl
    simp (disch := omega) only [fc_X4_neighbour, fc_X4_neighbour_L89, u0, u1, u2, if_true, if_false, I_ix, gd_T, I_cl, hnn, e4, b2_0, e2]
    cases dnB A n <;> rfl
  · have u0 : (I ((3 : Nat) : Int) = 0) = False := by decide
    have u1 : (I ((3 : Nat) : Int) = 1) = False := by decide
    have u2 : (I ((3 : Nat) : Int) = 2) = False := by decide
    show _ = some (if (decide (1 ≤ n) && rtB A (n - 1)) = true then I ((n - 1 : Nat) : Int) else -1)
    by_cases c1 : n < 1
    · have e1 : I n < 1 := by rw [I_1, I_lt] <;> omega
      simp only [fc_X4_neighbour, fc_X4_neighbour_L112, fc_X4_neighbour_L113, u0, u1, u2, if_true, e1, decide_eq_false (show ¬ 1 ≤ n by omega), Bool.false_and, Bool.false_eq_true, if_false]
    · have e1 : ¬ I n < 1 := by rw [I_1, I_lt] <;> omega
      have e2 : I n - 1 = I ((n - 1 : Nat) : Int) := by
        rw [I_1, I_sub]
        exact congrArg I (by omega)
      have e3 : ((n - 1 : Nat) : Int).toNat = n - 1 := by omega
      have e4 := hR (n - 1) (by omega) (by
        have := hn.1
        have := hn.2
        by_cases c2 : n % 18 = 0
        · exact Or.inr (by omega)
        · exact Or.inl (by constructor <;> omega))
      simp (disch := omega) only [fc_X4_neighbour, fc_X4_neighbour_L112, fc_X4_neighbour_L113, u0, u1, u2, if_true, e1, e2, I_ix, gd_T, I_cl, e3, e4, b2_0, decide_eq_true (show 1 ≤ n by omega), Bool.true_and, if_false]
      cases rtB A (n - 1) <;> rfl
theorem sc_xOf (h : LnC σ A) {n : Nat} (hn : inG A n) : fc_X4_xOf F σ (I n) = some (I (d_X A (n % 18))) ∧ fc_X4_yOf F σ (I n) = some (I (d_Y A (n / 18))) := by
  obtain ⟨h0, hnb, hB, hBB, hgc, hgr, hnx, hny, hX, hY⟩ := h
  obtain ⟨h1, h2⟩ := hn
  have m1 : I n - I n / 18 * 18 = I ((n % 18 : Nat) : Int) := I_modn n 18 (by omega) (by omega) (by omega)
  have m2 : I n / 18 = I ((n / 18 : Nat) : Int) := I_divn n 18 (by omega) (by omega) (by omega)
  have n1 : ((n % 18 : Nat) : Int).toNat = n % 18 := by omega
  have n2 : ((n / 18 : Nat) : Int).toNat = n / 18 := by omega
  constructor
  · rw [fc_X4_xOf, m1, gd_t (of_eq_true (I_ix (by omega) (by omega) (by omega))), I_cl (by omega) (by omega), n1, (hX _ h1).1]
  · rw [fc_X4_yOf, m2, gd_t (of_eq_true (I_ix (by omega) (by omega) (by omega))), I_cl (by omega) (by omega), n2, (hY _ h2).1]
theorem I_abs {a : Int} (h1 : -1000 ≤ a) (h2 : a ≤ 1000) : (if (0 : Int32) ≤ I a then I a else 0 - I a) = I (a.natAbs : Nat) := by
  have e : ((0 : Int32) ≤ I a) = (0 ≤ a) := by rw [I_0, I_le (by omega) (by omega) (by omega) (by omega)]
  by_cases h : 0 ≤ a
  · rw [if_pos (by rw [e]; exact h)]
    exact congrArg I (by omega)
  · rw [if_neg (by rw [e]; exact h), I_0, I_sub]
    exact congrArg I (by omega)
theorem sc_dist (h : LnC σ A) {n m : Nat} (hn : inG A n) (hm : inG A m) : fc_X4_distance F σ (I n) (I m) = some (I (((d_X A (n % 18) - d_X A (m % 18)).natAbs + (d_Y A (n / 18) - d_Y A (m / 18)).natAbs : Nat) : Int)) := by
  obtain ⟨h0, hnb, hB, hBB, hgc, hgr, hnx, hny, hX, hY⟩ := h
  obtain ⟨h1, h2⟩ := hn
  obtain ⟨h3, h4⟩ := hm
  have m1 : I n - I n / 18 * 18 = I ((n % 18 : Nat) : Int) := I_modn n 18 (by omega) (by omega) (by omega)
  have m2 : I n / 18 = I ((n / 18 : Nat) : Int) := I_divn n 18 (by omega) (by omega) (by omega)
  have m3 : I m - I m / 18 * 18 = I ((m % 18 : Nat) : Int) := I_modn m 18 (by omega) (by omega) (by omega)
  have m4 : I m / 18 = I ((m / 18 : Nat) : Int) := I_divn m 18 (by omega) (by omega) (by omega)
  have n1 : ((n % 18 : Nat) : Int).toNat = n % 18 := by omega
  have n2 : ((n / 18 : Nat) : Int).toNat = n / 18 := by omega
  have n3 : ((m % 18 : Nat) : Int).toNat = m % 18 := by omega
  have n4 : ((m / 18 : Nat) : Int).toNat = m / 18 := by omega
  obtain ⟨x1, x2, x3⟩ := hX _ h1
  obtain ⟨x4, x5, x6⟩ := hX _ h3
  obtain ⟨y1, y2, y3⟩ := hY _ h2
  obtain ⟨y4, y5, y6⟩ := hY _ h4
  unfold fc_X4_distance
  rw [m1, m3, m2, m4, gd_t (of_eq_true (I_ix (by omega) (by omega) (by omega))), gd_t (of_eq_true (I_ix (by omega) (by omega) (by omega))), lt_r, gd_t (of_eq_true (I_ix (by omega) (by omega) (by omega))), gd_t (of_eq_true (I_ix (by omega) (by omega) (by omega))), lt_r, I_cl (by omega) (by omega), I_cl (by omega) (by omega), I_cl (by omega) (by omega), I_cl (by omega) (by omega), n1, n2, n3, n4, x1, x4, y1, y4, I_sub, I_sub, I_abs (by omega) (by omega), I_abs (by omega) (by omega), I_add]
  rfl
theorem ln_abs (hg : GrOk A) {n d : Nat} (hd : d < 4) (ho : opA A n d = true) : (d_X A (n % 18) - d_X A (tgA n d % 18)).natAbs + (d_Y A (n / 18) - d_Y A (tgA n d / 18)).natAbs = lnA A n d := by
  obtain ⟨r, c, hc, rfl⟩ := rc_of n
  rcases (show d = 0 ∨ d = 1 ∨ d = 2 ∨ d = 3 by omega) with rfl | rfl | rfl | rfl
  · obtain ⟨r', rfl, h1, h2, -⟩ := (op0_iff hc).mp ho
    rw [tg0, ln0 hc, show (18 * (r' + 1) + c) % 18 = c by omega, show (18 * (r' + 1) + c) / 18 = r' + 1 by omega, show (18 * r' + c) % 18 = c by omega, show (18 * r' + c) / 18 = r' by omega]
    have := gY hg (show r' < r' + 1 by omega) h2
    omega
  · obtain ⟨h1, h2, -⟩ := (op1_iff hc).mp ho
    have h18 := hg.1
    rw [tg1, ln1 hc, show (18 * r + c) % 18 = c by omega, show (18 * r + c) / 18 = r by omega, show (18 * r + (c + 1)) % 18 = c + 1 by omega, show (18 * r + (c + 1)) / 18 = r by omega]
    have := gX hg (show c < c + 1 by omega) h1
    omega
  · obtain ⟨h1, h2, -⟩ := (op2_iff hc).mp ho
    rw [tg2, ln2 hc, show (18 * r + c) % 18 = c by omega, show (18 * r + c) / 18 = r by omega, show (18 * (r + 1) + c) % 18 = c by omega, show (18 * (r + 1) + c) / 18 = r + 1 by omega]
    have := gY hg (show r < r + 1 by omega) h2
    omega
  · obtain ⟨c', rfl, h1, h2, -⟩ := (op3_iff hg hc).mp ho
    rw [tg3, ln3 hc, show (18 * r + (c' + 1)) % 18 = c' + 1 by omega, show (18 * r + (c' + 1)) / 18 = r by omega, show (18 * r + c') % 18 = c' by omega, show (18 * r + c') / 18 = r by omega]
    have := gX hg (show c' < c' + 1 by omega) h1
    omega
theorem sc_step (h : GrC σ A) {n d : Nat} (hn : inG A n) (hd : d < 4) (ho : opA A n d = true) : inG A (tgA n d) ∧ fc_X4_distance F σ (I n) (I (tgA n d : Nat)) = some (I (lnA A n d : Nat)) ∧ fc_X4_distance F σ (I (tgA n d : Nat)) (I n) = some (I (lnA A n d : Nat)) ∧ lnA A n d ≤ 99 := by
  obtain ⟨hL, hg, -⟩ := h
  have h1 := (op_in hg hd ho).2
  have e := ln_abs hg hd ho
  refine ⟨h1, ?_, ?_, ?_⟩
  · rw [sc_dist hL hn h1, e]
  · rw [sc_dist hL h1 hn, ← e]
    exact congrArg (fun q : Nat => some (I (q : Int))) (by omega)
  · obtain ⟨h0, hnb, hB, hBB, hgc, hgr, hnx, hny, hX, hY⟩ := hL
    have a1 := hX _ hn.1
    have a2 := hX _ h1.1
    have a3 := hY _ hn.2
    have a4 := hY _ h1.2
    rw [← e]
    obtain ⟨r, c, hc, rfl⟩ := rc_of n
    rcases (show d = 0 ∨ d = 1 ∨ d = 2 ∨ d = 3 by omega) with rfl | rfl | rfl | rfl
    · obtain ⟨r', rfl, -⟩ := (op0_iff hc).mp ho
      rw [tg0] at *
      rw [show (18 * (r' + 1) + c) % 18 = (18 * r' + c) % 18 by omega] at *
      omega
    · rw [tg1] at *
      have := (op1_iff hc).mp ho
      have h18 := hg.1
      rw [show (18 * r + (c + 1)) / 18 = (18 * r + c) / 18 by omega] at *
      omega
    · rw [tg2] at *
      rw [show (18 * (r + 1) + c) % 18 = (18 * r + c) % 18 by omega] at *
      omega
    · obtain ⟨c', rfl, -⟩ := (op3_iff hg hc).mp ho
      rw [tg3] at *
      rw [show (18 * r + (c' + 1)) / 18 = (18 * r + c') / 18 by omega] at *
      omega
theorem sc_idx28 (hF : 100 ≤ F) {L : LT} (hs : SrtL L) (hn : L.1 ≤ 18) (hb : BdL L) (hR : RwL (cs_gx σ) L) {j : Nat} (hj : j < L.1) : fc_X4_indexOf_28 F σ (I L.1) (I (L.2 j)) = some (I j) := by
  refine lp_r (fun k => (I L.1, I (L.2 j), I k)) _ j rfl (by omega) (fun k rec hk => ?_) (fun rec => ?_)
  · have e1 : ¬ I L.1 - 1 ≤ I k := by
      rw [I_1, I_sub, I_le] <;> omega
    have e6 : ((k : Nat) : Int).toNat = k := by omega
    have e4 := hR k (by omega)
    have e5 : ¬ I (L.2 k) = I (L.2 j) := by
      have := hs k j hk hj
      have := hb k (by omega)
      have := hb j hj
      rw [I_eq] <;> omega
    simp (disch := omega) only [fc_X4_indexOf_28_L2_c, e1, if_false, I_ix, gd_T, I_cl, e6, e4, e5, lt_r, I_S]
  · by_cases c1 : j + 1 < L.1
    · have e1 : ¬ I L.1 - 1 ≤ I j := by
        rw [I_1, I_sub, I_le] <;> omega
      have e6 : ((j : Nat) : Int).toNat = j := by omega
      have e4 := hR j hj
      simp (disch := omega) only [fc_X4_indexOf_28_L2_c, fc_X4_indexOf_28_L22, e1, if_false, I_ix, gd_T, I_cl, e6, e4, if_true]
    · have e1 : I L.1 - 1 ≤ I j := by
        rw [I_1, I_sub, I_le] <;> omega
      simp (disch := omega) only [fc_X4_indexOf_28_L2_c, fc_X4_indexOf_28_L22, e1, if_true]
theorem sc_idx29 (hF : 100 ≤ F) {L : LT} (hs : SrtL L) (hn : L.1 ≤ 18) (hb : BdL L) (hR : RwL (cs_gy σ) L) {j : Nat} (hj : j < L.1) : fc_X4_indexOf_29 F σ (I L.1) (I (L.2 j)) = some (I j) := by
  refine lp_r (fun k => (I L.1, I (L.2 j), I k)) _ j rfl (by omega) (fun k rec hk => ?_) (fun rec => ?_)
  · have e1 : ¬ I L.1 - 1 ≤ I k := by
      rw [I_1, I_sub, I_le] <;> omega
    have e6 : ((k : Nat) : Int).toNat = k := by omega
    have e4 := hR k (by omega)
    have e5 : ¬ I (L.2 k) = I (L.2 j) := by
      have := hs k j hk hj
      have := hb k (by omega)
      have := hb j hj
      rw [I_eq] <;> omega
    simp (disch := omega) only [fc_X4_indexOf_29_L2_c, e1, if_false, I_ix, gd_T, I_cl, e6, e4, e5, lt_r, I_S]
  · by_cases c1 : j + 1 < L.1
    · have e1 : ¬ I L.1 - 1 ≤ I j := by
        rw [I_1, I_sub, I_le] <;> omega
      have e6 : ((j : Nat) : Int).toNat = j := by omega
      have e4 := hR j hj
      simp (disch := omega) only [fc_X4_indexOf_29_L2_c, fc_X4_indexOf_29_L22, e1, if_false, I_ix, gd_T, I_cl, e6, e4, if_true]
    · have e1 : I L.1 - 1 ≤ I j := by
        rw [I_1, I_sub, I_le] <;> omega
      simp (disch := omega) only [fc_X4_indexOf_29_L2_c, fc_X4_indexOf_29_L22, e1, if_true]
end N1
