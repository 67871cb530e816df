/-! the reference's nodes -/
theorem lp_inv2 {α β : Type} {b : (α → Option β) → α → Option β} {P : Nat → α → Prop} {Q : Option β → Prop} (h : ∀ d a, P d a → ∀ rec : α → Option β, Q (b rec a) ∨ ∃ d' a', d' < d ∧ P d' a' ∧ b rec a = rec a') : ∀ n d a, d < n → P d a → Q (lpN b n a) := by
  intro n
  induction n with
  | zero => intro d a hd; omega
  | succ n ih =>
    intro d a hd hp
    rcases h d a hp (lpN b n) with h1 | ⟨d', a', h1, h2, h3⟩
    · exact h1
    · have e : lpN b (n + 1) a = lpN b n a' := h3
      rw [e]
      exact ih d' a' (by omega) h2
def nd (n : Nat) : Nat := 20 * (n % 18) + n / 18
section N2
variable {F : Nat} {τ : MS} {A : GD} {c nb p b0 s0 b1 s1 : Nat} {B : Nat → Int} {o0 o1 : Int}
theorem nd_lt (hL : GrOk A) {n : Nat} (h : inG A n) : nd n < 360 ∧ nd n / 20 = n % 18 ∧ nd n % 20 = n / 18 := by
  have h1 := hL.1
  have h2 := hL.2.1
  obtain ⟨h3, h4⟩ := h
  unfold nd
  omega
theorem nd_inj (hL : GrOk A) {n m : Nat} (h : inG A n) (h' : inG A m) (e : nd n = nd m) : n = m := by
  obtain ⟨-, a1, a2⟩ := nd_lt hL h
  obtain ⟨-, b1, b2⟩ := nd_lt hL h'
  rw [e] at a1 a2
  omega
theorem GrM.at (h : GrM τ A) {n : Nat} (hn : inG A n) : ms_isNode τ (nd n) = b2 (noB A n) ∧ ms_right τ (nd n) = b2 (rtB A n) ∧ ms_down τ (nd n) = b2 (dnB A n) := by
  have := h.2 (n % 18) (n / 18) hn.1 hn.2
  rw [show 18 * (n / 18) + n % 18 = n by omega] at this
  exact this
theorem sm_next (h : GrM τ A) {n d : Nat} (hn : inG A n) (hd : d < 4) : fm_next F τ (I (nd n : Nat)) (I d) = some (if opA A n d = true then I (nd (tgA n d) : Nat) else -1000) := by
  have hg := h.1.2.2.2.2.2.2.2.2
  have h18 := hg.1
  have h18' := hg.2.1
  obtain ⟨hlt, m1, m2⟩ := nd_lt hg hn
  obtain ⟨g1, g2⟩ := id hn
  have d1 : I (nd n : Nat) / 20 = I ((n % 18 : Nat) : Int) := by rw [← m1]; exact I_divn (nd n) 20 (by omega) (by omega) (by omega)
  have d2 : I (nd n : Nat) - I (nd n : Nat) / 20 * 20 = I ((n / 18 : Nat) : Int) := by rw [← m2]; exact I_modn (nd n) 20 (by omega) (by omega) (by omega)
  have hnn : ((nd n : Nat) : Int).toNat = nd n := by omega
  unfold fm_next
  rw [d2, d1, lt_r, lt_r]
  rcases (show d = 0 ∨ d = 1 ∨ d = 2 ∨ d = 3 by omega) with rfl | rfl | rfl | rfl
  · rw [if_pos (by decide)]
    show _ = some (if (decide (18 ≤ n) && dnB A (n - 18)) = true then I (nd (n - 18) : Nat) else -1000)
    by_cases c1 : n / 18 = 0
    · rw [if_pos (by rw [I_0, I_le] <;> omega), decide_eq_false (by omega)]
      rfl
    · have hin : inG A (n - 18) := by constructor <;> omega
      have e2 : I (nd n : Nat) - 1 = I (nd (n - 18) : Nat) := by
        rw [I_1, I_sub]
        refine congrArg I ?_
        unfold nd
        omega
      have w := (h.at hin).2.2
      have hl2 := nd_lt hg hin
      rw [if_neg (by rw [I_0, I_le] <;> omega), e2, gd_t (of_eq_true (I_ix (by omega) (by omega) (by omega))), I_cl (by omega) (by omega), show ((nd (n - 18) : Nat) : Int).toNat = nd (n - 18) by omega, w, decide_eq_true (by omega)]
      simp only [fm_next_L37, fm_next_L40, b2_0, Bool.true_and]
      cases dnB A (n - 18) <;> rfl
  · rw [if_neg (by decide), if_pos (by decide), gd_t (of_eq_true (I_ix (by omega) (by omega) (by omega))), I_cl (by omega) (by omega), hnn, (h.at hn).2.1]
    show _ = some (if rtB A n = true then I (nd (n + 1) : Nat) else -1000)
    simp only [fm_next_L65, b2_0]
    cases hr : rtB A n with
    | false => rfl
    | true =>
      rw [if_neg (by simp), if_pos rfl]
      have ho : opA A n 1 = true := hr
      obtain ⟨r, cc, hc, e⟩ := rc_of n
      subst e
      have hcc := ((op1_iff hc).mp ho).1
      have q1 : (18 * r + cc + 1) % 18 = cc + 1 := by omega
      have q2 : (18 * r + cc + 1) / 18 = r := by omega
      have q3 : (18 * r + cc) % 18 = cc := by omega
      have q4 : (18 * r + cc) / 18 = r := by omega
      have q5 : nd (18 * r + cc + 1) = nd (18 * r + cc) + 20 := by
        unfold nd
        rw [q1, q2, q3, q4]
        omega
      rw [I_20, I_add, q5]
      rfl
  · rw [if_neg (by decide), if_neg (by decide), if_pos (by decide), gd_t (of_eq_true (I_ix (by omega) (by omega) (by omega))), I_cl (by omega) (by omega), hnn, (h.at hn).2.2]
    show _ = some (if dnB A n = true then I (nd (n + 18) : Nat) else -1000)
    simp only [fm_next_L89, b2_0]
    cases dnB A n with
    | false => rfl
    | true =>
      rw [if_neg (by simp), if_pos rfl, I_1, I_add]
      refine congrArg (fun z => some (I z)) ?_
      unfold nd
      omega
  · rw [if_neg (by decide), if_neg (by decide), if_neg (by decide)]
    show _ = some (if (decide (1 ≤ n) && rtB A (n - 1)) = true then I (nd (n - 1) : Nat) else -1000)
    by_cases c1 : n % 18 = 0
    · have z4 : rtB A (n - 1) = false ∨ n = 0 := by
        by_cases z : n = 0
        · exact Or.inr z
        · refine Or.inl ?_
          unfold rtB
          rw [decide_eq_false (show ¬ (n - 1) % 18 + 1 < d_nx A by omega)]
          rfl
      rw [if_pos (by rw [I_0, I_le] <;> omega)]
      rcases z4 with z4 | z4
      · rw [z4, Bool.and_false]
        rfl
      · rw [decide_eq_false (by omega)]
        rfl
    · have hin : inG A (n - 1) := by constructor <;> omega
      have e2 : I (nd n : Nat) - 20 = I (nd (n - 1) : Nat) := by
        rw [I_20, I_sub]
        refine congrArg I ?_
        unfold nd
        omega
      have w := (h.at hin).2.1
      have hl2 := nd_lt hg hin
      rw [if_neg (by rw [I_0, I_le] <;> omega), e2, gd_t (of_eq_true (I_ix (by omega) (by omega) (by omega))), I_cl (by omega) (by omega), show ((nd (n - 1) : Nat) : Int).toNat = nd (n - 1) by omega, w, decide_eq_true (by omega)]
      simp only [fm_next_L113, fm_next_L116, b2_0, Bool.true_and]
      cases rtB A (n - 1) <;> rfl
theorem I_abs2 {a : Int} (h1 : -1000 ≤ a) (h2 : a ≤ 1000) : ((0 : Int32) ≤ I a → I a = I (a.natAbs : Nat)) ∧ (¬ (0 : Int32) ≤ I a → - I a = I (a.natAbs : Nat)) := by
  have e : ((0 : Int32) ≤ I a) = (0 ≤ a) := by rw [I_0, I_le (by omega) (by omega) (by omega) (by omega)]
  rw [e]
  refine ⟨fun h => congrArg I (by omega), fun h => ?_⟩
  rw [I_neg]
  exact congrArg I (by omega)
theorem sm_len (h : LnM τ A) {n m : Nat} (hn : inG A n) (hm : inG A m) : fm_stepLength F τ (I (nd n : Nat)) (I (nd m : Nat)) = some (I (((d_X A (n % 18) - d_X A (m % 18)).natAbs + (d_Y A (n / 18) - d_Y A (m / 18)).natAbs : Nat) : Int)) := by
  obtain ⟨hnx, hny, hxm, hym, hX, hY, hB, hnb, hg⟩ := h
  obtain ⟨l1, m1, m2⟩ := nd_lt hg hn
  obtain ⟨l2, m3, m4⟩ := nd_lt hg hm
  have d1 : I (nd n : Nat) / 20 = I ((n % 18 : Nat) : Int) := by rw [← m1]; exact I_divn (nd n) 20 (by omega) (by omega) (by omega)
  have d2 : I (nd n : Nat) - I (nd n : Nat) / 20 * 20 = I ((n / 18 : Nat) : Int) := by rw [← m2]; exact I_modn (nd n) 20 (by omega) (by omega) (by omega)
  have d3 : I (nd m : Nat) / 20 = I ((m % 18 : Nat) : Int) := by rw [← m3]; exact I_divn (nd m) 20 (by omega) (by omega) (by omega)
  have d4 : I (nd m : Nat) - I (nd m : Nat) / 20 * 20 = I ((m / 18 : Nat) : Int) := by rw [← m4]; exact I_modn (nd m) 20 (by omega) (by omega) (by omega)
  obtain ⟨h1, h2⟩ := hn
  obtain ⟨h3, h4⟩ := hm
  obtain ⟨x1, x2, x3⟩ := hX _ h1
  obtain ⟨x4, x5, x6⟩ := hX _ h3
  obtain ⟨y1, y2, y3⟩ := hY _ h2
  obtain ⟨y4, y5, y6⟩ := hY _ h4
  have n1 : ((n % 18 : Nat) : Int).toNat = n % 18 := by omega
  have n2 : ((n / 18 : Nat) : Int).toNat = n / 18 := by omega
  have n3 : ((m % 18 : Nat) : Int).toNat = m % 18 := by omega
  have n4 : ((m / 18 : Nat) : Int).toNat = m / 18 := by omega
  unfold fm_stepLength
  rw [d2, d4, d1, d3, gd_t (of_eq_true (I_ix (by omega) (by omega) (by omega))), gd_t (of_eq_true (I_ix (by omega) (by omega) (by omega))), lt_r, gd_t (of_eq_true (I_ix (by omega) (by omega) (by omega))), gd_t (of_eq_true (I_ix (by omega) (by omega) (by omega))), lt_r, I_cl (by omega) (by omega), I_cl (by omega) (by omega), I_cl (by omega) (by omega), I_cl (by omega) (by omega), n1, n2, n3, n4, x1, x4, y1, y4, I_sub, I_sub]
  obtain ⟨a1, a2⟩ := I_abs2 (a := d_X A (m % 18) - d_X A (n % 18)) (by omega) (by omega)
  obtain ⟨a3, a4⟩ := I_abs2 (a := d_Y A (m / 18) - d_Y A (n / 18)) (by omega) (by omega)
  have fin : I ((d_X A (m % 18) - d_X A (n % 18)).natAbs : Nat) + I ((d_Y A (m / 18) - d_Y A (n / 18)).natAbs : Nat) = I (((d_X A (n % 18) - d_X A (m % 18)).natAbs + (d_Y A (n / 18) - d_Y A (m / 18)).natAbs : Nat) : Int) := by
    rw [I_add]
    exact congrArg I (by omega)
  unfold fm_stepLength_L51 fm_stepLength_L64
  by_cases c1 : (0 : Int32) ≤ I (d_X A (m % 18) - d_X A (n % 18))
  · by_cases c2 : (0 : Int32) ≤ I (d_Y A (m / 18) - d_Y A (n / 18))
    · rw [if_pos c1, if_pos c2, a1 c1, a3 c2, fin]
    · rw [if_pos c1, if_neg c2, a1 c1, a4 c2, fin]
  · by_cases c2 : (0 : Int32) ≤ I (d_Y A (m / 18) - d_Y A (n / 18))
    · rw [if_neg c1, if_pos c2, a2 c1, a3 c2, fin]
    · rw [if_neg c1, if_neg c2, a2 c1, a4 c2, fin]
theorem sm_idxX (hF : 100 ≤ F) (hg : GrOk A) (hn : d_nx A ≤ 18) (hR : ∀ j, j < d_nx A → ms_xs τ j = I (d_X A j) ∧ 0 ≤ d_X A j ∧ d_X A j ≤ 99) {j : Nat} (hj : j < d_nx A) : fm_indexX F τ (I (d_X A j)) = some (I j) := by
  refine lp_r (fun k => (I (d_X A j), I k)) _ j rfl (by omega) (fun k rec hk => ?_) (fun rec => ?_)
  · have e6 : ((k : Nat) : Int).toNat = k := by omega
    obtain ⟨e4, q1, q2⟩ := hR k (by omega)
    obtain ⟨-, q3, q4⟩ := hR j hj
    have e5 : ¬ I (d_X A k) = I (d_X A j) := by
      have : d_X A k ≠ d_X A j := fun z => by have := gX_inj hg (by omega) hj z; omega
      rw [I_eq] <;> omega
    simp (disch := omega) only [fm_indexX_L2_c, I_ix, gd_T, I_cl, e6, e4, e5, if_false, lt_r, I_S]
  · have e6 : ((j : Nat) : Int).toNat = j := by omega
    obtain ⟨e4, q1, q2⟩ := hR j hj
    simp (disch := omega) only [fm_indexX_L2_c, I_ix, gd_T, I_cl, e6, e4, if_true]
theorem sm_idxY (hF : 100 ≤ F) (hg : GrOk A) (hn : d_ny A ≤ 18) (hR : ∀ j, j < d_ny A → ms_ys τ j = I (d_Y A j) ∧ 0 ≤ d_Y A j ∧ d_Y A j ≤ 99) {j : Nat} (hj : j < d_ny A) : fm_indexY F τ (I (d_Y A j)) = some (I j) := by
  refine lp_r (fun k => (I (d_Y A j), I k)) _ j rfl (by omega) (fun k rec hk => ?_) (fun rec => ?_)
  · have e6 : ((k : Nat) : Int).toNat = k := by omega
    obtain ⟨e4, q1, q2⟩ := hR k (by omega)
    obtain ⟨-, q3, q4⟩ := hR j hj
    have e5 : ¬ I (d_Y A k) = I (d_Y A j) := by
      have : d_Y A k ≠ d_Y A j := fun z => by have := gY_inj hg (by omega) hj z; omega
      rw [I_eq] <;> omega
    simp (disch := omega) only [fm_indexY_L2_c, I_ix, gd_T, I_cl, e6, e4, e5, if_false, lt_r, I_S]
  · have e6 : ((j : Nat) : Int).toNat = j := by omega
    obtain ⟨e4, q1, q2⟩ := hR j hj
    simp (disch := omega) only [fm_indexY_L2_c, I_ix, gd_T, I_cl, e6, e4, if_true]
/-- the state holds a grid and the connector it is for -/
def CgM (τ : MS) (c nb : Nat) (B : Nat → Int) (p : Nat) (b0 s0 : Nat) (o0 : Int) (b1 s1 : Nat) (o1 : Int) : Prop := CnM τ c nb B p b0 s0 o0 b1 s1 o1 ∧ GrM τ (GDn nb B b0 s0 o0 b1 s1 o1)
theorem sm_outer (hF : 100 ≤ F) (h : CgM τ c nb B p b0 s0 o0 b1 s1 o1) {st go : Nat} (hs : NdP (GDn nb B b0 s0 o0 b1 s1 o1) st b0 s0 o0) (hg : NdP (GDn nb B b0 s0 o0 b1 s1 o1) go b1 s1 o1) : fm_outer F τ (I c) 0 = some (I (nd st : Nat)) ∧ fm_outer F τ (I c) 1 = some (I (nd go : Nat)) := by
  obtain ⟨hC, hGM⟩ := h
  obtain ⟨⟨p1, p2⟩, p3, p4⟩ := hC.pt (F := F) τ rfl 1
  obtain ⟨hnx, hny, hxm, hym, hX, hY, hB, hnb, hgk⟩ := hGM.1
  have q1 := sm_idxX (F := F) (τ := τ) hF hgk hnx hX hs.1.1
  have q2 := sm_idxY (F := F) (τ := τ) hF hgk hny hY hs.1.2
  have q3 := sm_idxX (F := F) (τ := τ) hF hgk hnx hX hg.1.1
  have q4 := sm_idxY (F := F) (τ := τ) hF hgk hny hY hg.1.2
  rw [hs.2.1] at q1
  rw [hs.2.2] at q2
  rw [hg.2.1] at q3
  rw [hg.2.2] at q4
  have p1' : fm_portOf F τ (I c) 0 1 1 = some (I (ptX B b0 s0 o0 1)) := p1
  have p2' : fm_portOf F τ (I c) 0 0 1 = some (I (ptY B b0 s0 o0 1)) := p2
  have p3' : fm_portOf F τ (I c) 1 1 1 = some (I (ptX B b1 s1 o1 1)) := p3
  have p4' : fm_portOf F τ (I c) 1 0 1 = some (I (ptY B b1 s1 o1 1)) := p4
  have q1' : fm_indexX F τ (I (ptX B b0 s0 o0 1)) = _ := q1
  have q2' : fm_indexY F τ (I (ptY B b0 s0 o0 1)) = _ := q2
  have q3' : fm_indexX F τ (I (ptX B b1 s1 o1 1)) = _ := q3
  have q4' : fm_indexY F τ (I (ptY B b1 s1 o1 1)) = _ := q4
  unfold fm_outer
  rw [p1', bd_s, q1', bd_s, p2', bd_s, q2', bd_s, p3', bd_s, q3', bd_s, p4', bd_s, q4', bd_s, e20, e20]
  exact ⟨rfl, rfl⟩
theorem I_opp {b : Nat} (hb : b < 4) : I b + 2 - (I b + 2) / 4 * 4 = I (opp b : Nat) := by
  rcases (show b = 0 ∨ b = 1 ∨ b = 2 ∨ b = 3 by omega) with rfl | rfl | rfl | rfl <;> decide
theorem ix28 : (ix 2 8625 = true) = True := ix2_ (by decide)
theorem sm_ending (h : CnM τ c nb B p b0 s0 o0 b1 s1 o1) {A : GD} {go d : Nat} (hd : d < 4) : fm_ending F τ (I c) (I d) = some (if d = s1 then 100000000 else I (enB (GA A p go s1) d : Nat)) := by
  have hs1 := h.1.2.2.2.2.2.1
  obtain ⟨-, -, h2, -, h4⟩ := h.sd (F := F) τ rfl
  have e1 : (I d = I s1) = (d = s1) := by
    rw [I_eq (by omega) (by omega) (by omega) (by omega)]
    exact propext ⟨fun q => by omega, fun q => by omega⟩
  have e2 : (I d = I (opp s1 : Nat)) = (d = opp s1) := by
    have := opp_lt s1
    rw [I_eq (by omega) (by omega) (by omega) (by omega)]
    exact propext ⟨fun q => by omega, fun q => by omega⟩
  simp only [fm_ending, fm_ending_L36, h4, bd_s, I_opp hs1, e1, e2, ix28, gd_T, cN2, h2]
  by_cases c1 : d = s1
  · rw [if_pos c1, if_pos c1]
  · rw [if_neg c1, if_neg c1]
    show _ = some (I ((if d = opp s1 then 0 else p : Nat) : Int))
    by_cases c2 : d = opp s1
    · rw [if_pos c2, if_pos c2]; rfl
    · rw [if_neg c2, if_neg c2]
/-- the cost of going on -/
def gO (A : GD) (p : Nat) (z : Nat → Nat) (n b d : Nat) : Nat := if d = opp b then 100000000 else if opA A n d = true then (if z (4 * nd (tgA n d) + d) < 100000000 then lnA A n d + bnd p b d + z (4 * nd (tgA n d) + d) else 100000000) else 100000000
theorem sm_going (h : CgM τ c nb B p b0 s0 o0 b1 s1 o1) {z : Nat → Nat} (hz : ∀ k, k < 1600 → ms_toEnd τ k = I (z k) ∧ z k ≤ 100000000) {n b d : Nat} (hn : inG (GDn nb B b0 s0 o0 b1 s1 o1) n) (hb : b < 4) (hd : d < 4) : fm_goingOn F τ (I (nd n : Nat)) (I b) (I d) = some (I (gO (GDn nb B b0 s0 o0 b1 s1 o1) p z n b d : Nat)) := by
  obtain ⟨hC, hGM⟩ := h
  obtain ⟨-, -, h2, -, h4⟩ := hC.sd (F := F) τ rfl
  have hp50 := hC.1.2.2.1
  generalize GDn nb B b0 s0 o0 b1 s1 o1 = A at *
  have hgk := hGM.1.2.2.2.2.2.2.2.2
  have hnx := sm_next (F := F) hGM hn hd
  have hol := opp_lt b
  unfold fm_goingOn gO
  rw [I_opp hb]
  by_cases c1 : d = opp b
  · rw [if_pos (by rw [c1]), if_pos c1]
    simp only [fm_goingOn_L21, if_true, fm_goingOn_L47]
    rfl
  · rw [if_neg (by rw [I_eq] <;> omega), if_neg c1, hnx, bd_s]
    by_cases c2 : opA A n d = true
    · rw [if_pos c2, if_pos c2]
      have hin2 := (op_in hgk hd c2).2
      obtain ⟨l2, -, -⟩ := nd_lt hgk hin2
      obtain ⟨l1, -, -⟩ := nd_lt hgk hn
      have e1 : ¬ I (nd (tgA n d) : Nat) = -1000 := I_nm1000 (by omega)
      have e2 : (4 : Int32) * I (nd (tgA n d) : Nat) + I d = I ((4 * nd (tgA n d) + d : Nat) : Int) := by
        rw [I_4, I_mul, I_add]
        exact congrArg I (by omega)
      have e3 : ((4 * nd (tgA n d) + d : Nat) : Int).toNat = 4 * nd (tgA n d) + d := by omega
      obtain ⟨e4, e5⟩ := hz (4 * nd (tgA n d) + d) (by omega)
      have e6 : (I (z (4 * nd (tgA n d) + d)) < 100000000) = (z (4 * nd (tgA n d) + d) < 100000000) := by
        rw [show (100000000 : Int32) = I 100000000 from rfl, I_lt (by omega) (by omega) (by omega) (by omega)]
        exact propext ⟨fun q => by omega, fun q => by omega⟩
      have hln := sm_len (F := F) hGM.1 hn hin2
      rw [ln_abs hgk hd c2] at hln
      simp (disch := omega) only [fm_goingOn_L21, e1, if_false, e2, I_ix, gd_T, I_cl, e3, e4, e6, fm_goingOn_L47, hln, bd_s, fm_goingOn_L72, ix28, cN2, h2, I_add]
      by_cases c3 : z (4 * nd (tgA n d) + d) < 100000000
      · rw [if_pos c3, if_pos c3]
        unfold bnd
        by_cases c4 : d = b
        · rw [if_pos (by rw [c4]), if_pos c4]
          rw [show (0 : Int32) = I 0 from rfl, I_add, I_add]
          rfl
        · rw [if_neg (by rw [I_eq] <;> omega), if_neg c4]
          rfl
      · rw [if_neg c3, if_neg c3]
        rfl
    · rw [if_neg c2, if_neg c2]
      simp only [fm_goingOn_L21, if_true, fm_goingOn_L47]
      rfl
end N2
