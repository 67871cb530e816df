/-! the text: words -/
section T8
variable {F : Nat} {σ : CSt} {τ : MS} {n p q e j : Nat} {T : Nat → Int32}
def spB (T : Nat → Int32) (q e j : Nat) : Bool := decide (e - q = sLn j) && !anyN (fun k => !decide (T (q + k) = sBy j k)) (sLn j)
theorem spB_l (h : ¬ e - q = sLn j) : spB T q e j = false := by
  unfold spB
  rw [decide_eq_false h, Bool.false_and]
theorem spB_f (i : Nat) (hi : i < sLn j) (h : ¬ T (q + i) = sBy j i) : spB T q e j = false := by
  unfold spB
  rw [anyN_ex.mpr ⟨i, hi, by rw [decide_eq_false h]; rfl⟩]
  exact Bool.and_false _
theorem spB_t (h : e - q = sLn j) (hk : ∀ k, k < sLn j → T (q + k) = sBy j k) : spB T q e j = true := by
  unfold spB
  rw [decide_eq_true h, anyN_no fun k z => by rw [decide_eq_true (hk k z)]; rfl]
  rfl
theorem j6 (hj : j < 6) : j = 0 ∨ j = 1 ∨ j = 2 ∨ j = 3 ∨ j = 4 ∨ j = 5 := by omega
theorem j_len (hj : j < 6) : fc_J0_length_8abf5 F σ j = some (I (sLn j)) := by
  rcases j6 hj with rfl | rfl | rfl | rfl | rfl | rfl <;> rfl
theorem j_chr (hj : j < 6) {k : Nat} (hk : k < sLn j) : fc_J0_charAt_5068e F σ j (I k) = some (sBy j k) := by
  rcases j6 hj with rfl | rfl | rfl | rfl | rfl | rfl
  · have hk : k < 3 := hk
    have : k = 0 ∨ k = 1 ∨ k = 2 := by omega
    rcases this with rfl | rfl | rfl <;> rfl
  · have hk : k < 4 := hk
    have : k = 0 ∨ k = 1 ∨ k = 2 ∨ k = 3 := by omega
    rcases this with rfl | rfl | rfl | rfl <;> rfl
  · have hk : k < 5 := hk
    have : k = 0 ∨ k = 1 ∨ k = 2 ∨ k = 3 ∨ k = 4 := by omega
    rcases this with rfl | rfl | rfl | rfl | rfl <;> rfl
  · have hk : k < 4 := hk
    have : k = 0 ∨ k = 1 ∨ k = 2 ∨ k = 3 := by omega
    rcases this with rfl | rfl | rfl | rfl <;> rfl
  · have hk : k < 7 := hk
    have : k = 0 ∨ k = 1 ∨ k = 2 ∨ k = 3 ∨ k = 4 ∨ k = 5 ∨ k = 6 := by omega
    rcases this with rfl | rfl | rfl | rfl | rfl | rfl | rfl <;> rfl
  · have hk : k < 3 := hk
    have : k = 0 ∨ k = 1 ∨ k = 2 := by omega
    rcases this with rfl | rfl | rfl <;> rfl
theorem j_le (hj : j < 6) : sLn j ≤ 7 := by
  rcases j6 hj with rfl | rfl | rfl | rfl | rfl | rfl <;> decide
theorem sc_spells (hF : 1000 ≤ F) (hj : j < 6) (h : TxS σ T n) (hc : cs_tc σ = I e) (hq : q ≤ e) (he : e ≤ n) : fc_X2_spells F σ j (I q) = some (b2 (spB T q e j)) := by
  obtain ⟨h1, h2, h3⟩ := h
  have h7 := j_le hj
  unfold fc_X2_spells
  rw [j_len hj, bd_s, hc]
  have eL : (I e - I q = I (sLn j)) = (e - q = sLn j) := by rw [I_sub, I_eq (by omega) (by omega) (by omega) (by omega)]; exact propext (by omega)
  simp only [eL]
  by_cases y : e - q = sLn j
  · rw [if_pos y]
    have hle := fstN_le (p := fun k => !decide (T (q + k) = sBy j k)) (n := sLn j)
    have key : ∀ (k : Nat) (rec : Int32 → Int32 → Option Int32), k < sLn j → fc_X2_spells_L17_c F σ j rec (I q) (I k) = if (!decide (T (q + k) = sBy j k)) = true then some 0 else rec (I q) (I ((k + 1 : Nat) : Int)) := fun k rec hk => by
      have z1 : ¬ I (sLn j) ≤ I k := by rw [I_le] <;> omega
      have eA : I q + I k = I ((q + k : Nat) : Int) := by rw [I_add]; rfl
      have ixk : ix (I ((q + k : Nat) : Int)) 120 = true := of_eq_true (I_ix (by omega) (by omega) (by omega))
      have nk : (I ((q + k : Nat) : Int)).toNatClampNeg = q + k := by rw [I_cl (by omega) (by omega)]; omega
      unfold fc_X2_spells_L17_c
      rw [j_len hj, bd_s, if_neg z1, eA, gd_t ixk, j_chr hj hk, bd_s, nk, h3 _ (by omega), lt_r, I_S]
      by_cases c : T (q + k) = sBy j k
      · rw [if_pos c, decide_eq_true c, if_neg (by decide)]
      · rw [if_neg c, decide_eq_false c]
        rfl
    refine lp_r (fun k => (I q, I k)) _ (fstN (fun k => !decide (T (q + k) = sBy j k)) (sLn j)) rfl (by omega) (fun k rec hk => ?_) (fun rec => ?_)
    · refine (key k _ (by omega)).trans ?_
      have := fstN_no hk
      rw [this]
      rfl
    · rcases Nat.lt_or_ge (fstN (fun k => !decide (T (q + k) = sBy j k)) (sLn j)) (sLn j) with hm | hm
      · refine (key _ _ hm).trans ?_
        have h5 := fstN_at hm
        rw [if_pos h5]
        simp only [Bool.not_eq_true', decide_eq_false_iff_not] at h5
        rw [spB_f _ hm h5]
        rfl
      · have z1 : I (sLn j) ≤ I (fstN (fun k => !decide (T (q + k) = sBy j k)) (sLn j)) := by rw [I_le] <;> omega
        unfold fc_X2_spells_L17_c
        rw [j_len hj, bd_s, if_pos z1, spB_t y fun k hk => ?_]
        · rfl
        · have := fstN_no (p := fun k => !decide (T (q + k) = sBy j k)) (n := sLn j) (k := k) (by omega)
          simpa using this
  · rw [if_neg y, spB_l y]
    rfl
def wdN (T : Nat → Int32) (q e : Nat) : Int32 := if spB T q e 0 = true then 0 else if spB T q e 1 = true then 1 else if spB T q e 2 = true then 2 else if spB T q e 3 = true then 3 else if spB T q e 4 = true then 4 else if spB T q e 5 = true then 5 else -1
theorem b2_if {α : Type} (b : Bool) (x y : α) : (if b2 b = 0 then x else y) = if b = true then y else x := by
  cases b <;> rfl
theorem sc_wordFrom (hF : 1000 ≤ F) (h : TxS σ T n) (hc : cs_tc σ = I e) (hq : q ≤ e) (he : e ≤ n) : fc_X2_wordFrom F σ (I q) = some (wdN T q e) := by
  unfold fc_X2_wordFrom fc_X2_wordFrom_L75 wdN
  simp only [sc_spells hF (show 0 < 6 by omega) h hc hq he, sc_spells hF (show 1 < 6 by omega) h hc hq he, sc_spells hF (show 2 < 6 by omega) h hc hq he, sc_spells hF (show 3 < 6 by omega) h hc hq he, sc_spells hF (show 4 < 6 by omega) h hc hq he, sc_spells hF (show 5 < 6 by omega) h hc hq he, bd_s, b2_if]
  cases spB T q e 0 with
  | true => rfl
  | false =>
    cases spB T q e 1 with
    | true => rfl
    | false =>
      cases spB T q e 2 with
      | true => rfl
      | false =>
        cases spB T q e 3 with
        | true => rfl
        | false =>
          cases spB T q e 4 with
          | true => rfl
          | false => cases spB T q e 5 <;> rfl
def wdE (T : Nat → Int32) (n p : Nat) : Nat := stN isL T n (nmQ T n p)
theorem wdE_le (hp : p ≤ n) : wdE T n p ≤ n := stN_le (nmQ_le hp)
theorem wdE_ge : nmQ T n p ≤ wdE T n p := stN_ge
def wdW (T : Nat → Int32) (n p : Nat) : Int32 := wdN T (nmQ T n p) (wdE T n p)
theorem isL_y {c : Int32} (h : isL c = true) : ¬ c < 97 ∧ ¬ 122 < c := by
  unfold isL at h
  simp only [Bool.and_eq_true, decide_eq_true_eq] at h
  rw [i_lt, i_lt]
  exact ⟨fun z => z h.1, fun z => z h.2⟩
theorem isL_n {c : Int32} (h : isL c = false) : c < 97 ∨ 122 < c := by
  unfold isL at h
  rw [i_lt, i_lt]
  by_cases h1 : 97 ≤ c
  · right
    intro h2
    rw [decide_eq_true h1, decide_eq_true h2] at h
    cases h
  · exact Or.inl h1
theorem sc_readWord (hF : 1000 ≤ F) (h : TxS σ T n) (hc : cs_tc σ = I p) (hp : p ≤ n) : fc_X2_readWord F σ = if wdW T n p = -1 then some (-1, cs_tf_s (cs_tc_s σ (I (wdE T n p))) (I (nmQ T n p))) else some (wdW T n p, cs_tc_s σ (I (wdE T n p))) := by
  unfold fc_X2_readWord
  rw [sc_skip hF h hc hp, bd_s]
  have hq : nmQ T n p ≤ n := nmQ_le hp
  have h := id h
  obtain ⟨h1, h2, h3⟩ := id h
  refine (lp_st (q := isL) (T := T) (n := n) (p := nmQ T n p) (fun k => (cs_tc_s σ (I k), I (nmQ T n p))) (fun k => if wdN T (nmQ T n p) k = -1 then some (-1, cs_tf_s (cs_tc_s σ (I k)) (I (nmQ T n p))) else some (wdN T (nmQ T n p) k, cs_tc_s σ (I k))) rfl hq (by omega) (fun k rec k1 k2 k3 => ?_) (fun k rec k1 k2 k3 => ?_)).trans rfl
  · have z1 : ¬ I n ≤ I k := by rw [I_le] <;> omega
    have ixk : ix (I k) 120 = true := of_eq_true (I_ix (by omega) (by omega) (by omega))
    have nk : (I k).toNatClampNeg = k := by rw [I_cl (by omega) (by omega)]; omega
    obtain ⟨d1, d2⟩ := isL_y k3
    unfold fc_X2_readWord_L9_c
    show (if cs_tl σ ≤ I k then _ else gd (ix (I k) 120 = true) (if cs_tb σ (I k).toNatClampNeg < 97 then _ else gd (ix (I k) 120 = true) (if 122 < cs_tb σ (I k).toNatClampNeg then _ else rec (cs_tc_s (cs_tc_s σ (I k)) (I k + 1), I (nmQ T n p))))) = _
    rw [h1, if_neg z1, gd_t ixk, nk, h3 k k2, if_neg d1, gd_t ixk, if_neg d2, I_S]
    rfl
  · have l61 : fc_X2_readWord_L61 F (cs_tc_s σ (I k)) (I (nmQ T n p)) = if wdN T (nmQ T n p) k = -1 then some (-1, cs_tf_s (cs_tc_s σ (I k)) (I (nmQ T n p))) else some (wdN T (nmQ T n p) k, cs_tc_s σ (I k)) := by
      unfold fc_X2_readWord_L61 fc_X2_readWord_L77
      rw [sc_wordFrom (σ := cs_tc_s σ (I k)) (T := T) (n := n) (e := k) hF ⟨h1, h2, h3⟩ rfl k1 k2, bd_s]
      by_cases y : wdN T (nmQ T n p) k = -1
      · rw [if_pos y, if_pos y, y, lt_r]
      · rw [if_neg y, if_neg y]
    unfold fc_X2_readWord_L9_c
    show (if cs_tl σ ≤ I k then fc_X2_readWord_L61 F (cs_tc_s σ (I k)) (I (nmQ T n p)) else gd (ix (I k) 120 = true) (if cs_tb σ (I k).toNatClampNeg < 97 then fc_X2_readWord_L61 F (cs_tc_s σ (I k)) (I (nmQ T n p)) else gd (ix (I k) 120 = true) (if 122 < cs_tb σ (I k).toNatClampNeg then fc_X2_readWord_L61 F (cs_tc_s σ (I k)) (I (nmQ T n p)) else _))) = _
    rw [h1, l61]
    rcases Nat.lt_or_ge k n with y | y
    · have z1 : ¬ I n ≤ I k := by rw [I_le] <;> omega
      have ixk : ix (I k) 120 = true := of_eq_true (I_ix (by omega) (by omega) (by omega))
      have nk : (I k).toNatClampNeg = k := by rw [I_cl (by omega) (by omega)]; omega
      rw [if_neg z1, gd_t ixk, nk, h3 k y]
      by_cases y3 : T k < 97
      · rw [if_pos y3]
      · rw [if_neg y3, gd_t ixk, if_pos ((isL_n (k3 y)).resolve_left y3)]
    · have z1 : I n ≤ I k := by rw [I_le] <;> omega
      rw [if_pos z1]
theorem sm_tx (h : TxM τ T n) (ha : ms_at τ = I q) (i : Nat) (hi : q + i < n) : ix (ms_at τ + I i) 120 = true ∧ ms_text τ (ms_at τ + I i).toNatClampNeg = T (q + i) := by
  obtain ⟨h1, h2, h3⟩ := h
  have eA : ms_at τ + I i = I ((q + i : Nat) : Int) := by rw [ha, I_add]; rfl
  rw [eA]
  refine ⟨of_eq_true (I_ix (by omega) (by omega) (by omega)), ?_⟩
  have nk : (I ((q + i : Nat) : Int)).toNatClampNeg = q + i := by rw [I_cl (by omega) (by omega)]; omega
  rw [nk]
  exact h3 _ hi
theorem sm_tx0 (h : TxM τ T n) (ha : ms_at τ = I q) (hi : q < n) : ix (ms_at τ) 120 = true ∧ ms_text τ (ms_at τ).toNatClampNeg = T (q + 0) := by
  have h0 := sm_tx h ha 0 hi
  have eA : ms_at τ + I ((0 : Nat) : Int) = ms_at τ := by rw [ha, I_add]; exact congrArg I (by omega)
  rwa [eA] at h0
theorem sm_is0 (h : TxM τ T n) (ha : ms_at τ = I q) (hq : q ≤ e) (he : e ≤ n) : fm_is F τ (I ((e - q : Nat) : Int)) 98 111 120 0 0 0 0 = some (b2 (spB T q e 0)) := by
  have hn := h.2.1
  unfold fm_is
  rw [if_pos (show (0 : Int32) = 0 from rfl)]
  unfold fm_is_L29
  have eL : (I ((e - q : Nat) : Int) = 3) = (e - q = 3) := by rw [show (3 : Int32) = I 3 from rfl, I_eq (by omega) (by omega) (by omega) (by omega)]; exact propext (by omega)
  by_cases y : e - q = 3
  · rw [if_pos (eL.mpr y)]
    obtain ⟨i0, t0⟩ := sm_tx0 h ha (by omega)
    rw [gd_t i0, t0]
    by_cases c0 : T (q + 0) = 98
    case neg =>
      rw [if_neg c0, spB_f 0 (by decide) c0]
      rfl
    rw [if_pos c0]
    obtain ⟨i1, t1⟩ : ix (ms_at τ + 1) 120 = true ∧ ms_text τ (ms_at τ + 1).toNatClampNeg = T (q + 1) := sm_tx h ha 1 (by omega)
    rw [gd_t i1, t1]
    by_cases c1 : T (q + 1) = 111
    case neg =>
      rw [if_neg c1, spB_f 1 (by decide) c1]
      rfl
    rw [if_pos c1]
    obtain ⟨i2, t2⟩ : ix (ms_at τ + 2) 120 = true ∧ ms_text τ (ms_at τ + 2).toNatClampNeg = T (q + 2) := sm_tx h ha 2 (by omega)
    rw [gd_t i2, t2]
    by_cases c2 : T (q + 2) = 120
    case neg =>
      rw [if_neg c2, spB_f 2 (by decide) c2]
      rfl
    rw [if_pos c2]
    rw [if_pos (show (3 : Int32) < 4 by decide)]
    unfold fm_is_L103
    rw [if_pos (show (3 : Int32) < 5 by decide)]
    unfold fm_is_L125
    rw [if_pos (show (3 : Int32) < 7 by decide)]
    rw [spB_t (j := 0) y fun k hk => ?_]
    · rfl
    · have hk : k < 3 := hk
      have : k = 0 ∨ k = 1 ∨ k = 2 := by omega
      rcases this with rfl | rfl | rfl
      · exact c0
      · exact c1
      · exact c2
  · rw [if_neg (fun z => y (eL.mp z)), spB_l (j := 0) y]
    rfl
theorem sm_is1 (h : TxM τ T n) (ha : ms_at τ = I q) (hq : q ≤ e) (he : e ≤ n) : fm_is F τ (I ((e - q : Nat) : Int)) 108 105 110 107 0 0 0 = some (b2 (spB T q e 1)) := by
  have hn := h.2.1
  unfold fm_is
  rw [if_neg (show ¬ (107 : Int32) = 0 by decide)]
  rw [if_pos (show (0 : Int32) = 0 from rfl)]
  unfold fm_is_L29
  have eL : (I ((e - q : Nat) : Int) = 4) = (e - q = 4) := by rw [show (4 : Int32) = I 4 from rfl, I_eq (by omega) (by omega) (by omega) (by omega)]; exact propext (by omega)
  by_cases y : e - q = 4
  · rw [if_pos (eL.mpr y)]
    obtain ⟨i0, t0⟩ := sm_tx0 h ha (by omega)
    rw [gd_t i0, t0]
    by_cases c0 : T (q + 0) = 108
    case neg =>
      rw [if_neg c0, spB_f 0 (by decide) c0]
      rfl
    rw [if_pos c0]
    obtain ⟨i1, t1⟩ : ix (ms_at τ + 1) 120 = true ∧ ms_text τ (ms_at τ + 1).toNatClampNeg = T (q + 1) := sm_tx h ha 1 (by omega)
    rw [gd_t i1, t1]
    by_cases c1 : T (q + 1) = 105
    case neg =>
      rw [if_neg c1, spB_f 1 (by decide) c1]
      rfl
    rw [if_pos c1]
    obtain ⟨i2, t2⟩ : ix (ms_at τ + 2) 120 = true ∧ ms_text τ (ms_at τ + 2).toNatClampNeg = T (q + 2) := sm_tx h ha 2 (by omega)
    rw [gd_t i2, t2]
    by_cases c2 : T (q + 2) = 110
    case neg =>
      rw [if_neg c2, spB_f 2 (by decide) c2]
      rfl
    rw [if_pos c2]
    rw [if_neg (show ¬ (4 : Int32) < 4 by decide)]
    obtain ⟨i3, t3⟩ : ix (ms_at τ + 3) 120 = true ∧ ms_text τ (ms_at τ + 3).toNatClampNeg = T (q + 3) := sm_tx h ha 3 (by omega)
    rw [gd_t i3, t3]
    by_cases c3 : T (q + 3) = 107
    case neg =>
      rw [if_neg c3, spB_f 3 (by decide) c3]
      rfl
    rw [if_pos c3]
    unfold fm_is_L103
    rw [if_pos (show (4 : Int32) < 5 by decide)]
    unfold fm_is_L125
    rw [if_pos (show (4 : Int32) < 7 by decide)]
    rw [spB_t (j := 1) y fun k hk => ?_]
    · rfl
    · have hk : k < 4 := hk
      have : k = 0 ∨ k = 1 ∨ k = 2 ∨ k = 3 := by omega
      rcases this with rfl | rfl | rfl | rfl
      · exact c0
      · exact c1
      · exact c2
      · exact c3
  · rw [if_neg (fun z => y (eL.mp z)), spB_l (j := 1) y]
    rfl
theorem sm_is2 (h : TxM τ T n) (ha : ms_at τ = I q) (hq : q ≤ e) (he : e ≤ n) : fm_is F τ (I ((e - q : Nat) : Int)) 114 111 117 116 101 0 0 = some (b2 (spB T q e 2)) := by
  have hn := h.2.1
  unfold fm_is
  rw [if_neg (show ¬ (116 : Int32) = 0 by decide)]
  rw [if_neg (show ¬ (101 : Int32) = 0 by decide)]
  rw [if_pos (show (0 : Int32) = 0 from rfl)]
  unfold fm_is_L29
  have eL : (I ((e - q : Nat) : Int) = 5) = (e - q = 5) := by rw [show (5 : Int32) = I 5 from rfl, I_eq (by omega) (by omega) (by omega) (by omega)]; exact propext (by omega)
  by_cases y : e - q = 5
  · rw [if_pos (eL.mpr y)]
    obtain ⟨i0, t0⟩ := sm_tx0 h ha (by omega)
    rw [gd_t i0, t0]
    by_cases c0 : T (q + 0) = 114
    case neg =>
      rw [if_neg c0, spB_f 0 (by decide) c0]
      rfl
    rw [if_pos c0]
    obtain ⟨i1, t1⟩ : ix (ms_at τ + 1) 120 = true ∧ ms_text τ (ms_at τ + 1).toNatClampNeg = T (q + 1) := sm_tx h ha 1 (by omega)
    rw [gd_t i1, t1]
    by_cases c1 : T (q + 1) = 111
    case neg =>
      rw [if_neg c1, spB_f 1 (by decide) c1]
      rfl
    rw [if_pos c1]
    obtain ⟨i2, t2⟩ : ix (ms_at τ + 2) 120 = true ∧ ms_text τ (ms_at τ + 2).toNatClampNeg = T (q + 2) := sm_tx h ha 2 (by omega)
    rw [gd_t i2, t2]
    by_cases c2 : T (q + 2) = 117
    case neg =>
      rw [if_neg c2, spB_f 2 (by decide) c2]
      rfl
    rw [if_pos c2]
    rw [if_neg (show ¬ (5 : Int32) < 4 by decide)]
    obtain ⟨i3, t3⟩ : ix (ms_at τ + 3) 120 = true ∧ ms_text τ (ms_at τ + 3).toNatClampNeg = T (q + 3) := sm_tx h ha 3 (by omega)
    rw [gd_t i3, t3]
    by_cases c3 : T (q + 3) = 116
    case neg =>
      rw [if_neg c3, spB_f 3 (by decide) c3]
      rfl
    rw [if_pos c3]
    unfold fm_is_L103
    rw [if_neg (show ¬ (5 : Int32) < 5 by decide)]
    obtain ⟨i4, t4⟩ : ix (ms_at τ + 4) 120 = true ∧ ms_text τ (ms_at τ + 4).toNatClampNeg = T (q + 4) := sm_tx h ha 4 (by omega)
    rw [gd_t i4, t4]
    by_cases c4 : T (q + 4) = 101
    case neg =>
      rw [if_neg c4, spB_f 4 (by decide) c4]
      rfl
    rw [if_pos c4]
    unfold fm_is_L125
    rw [if_pos (show (5 : Int32) < 7 by decide)]
    rw [spB_t (j := 2) y fun k hk => ?_]
    · rfl
    · have hk : k < 5 := hk
      have : k = 0 ∨ k = 1 ∨ k = 2 ∨ k = 3 ∨ k = 4 := by omega
      rcases this with rfl | rfl | rfl | rfl | rfl
      · exact c0
      · exact c1
      · exact c2
      · exact c3
      · exact c4
  · rw [if_neg (fun z => y (eL.mp z)), spB_l (j := 2) y]
    rfl
theorem sm_is3 (h : TxM τ T n) (ha : ms_at τ = I q) (hq : q ≤ e) (he : e ≤ n) : fm_is F τ (I ((e - q : Nat) : Int)) 100 114 111 112 0 0 0 = some (b2 (spB T q e 3)) := by
  have hn := h.2.1
  unfold fm_is
  rw [if_neg (show ¬ (112 : Int32) = 0 by decide)]
  rw [if_pos (show (0 : Int32) = 0 from rfl)]
  unfold fm_is_L29
  have eL : (I ((e - q : Nat) : Int) = 4) = (e - q = 4) := by rw [show (4 : Int32) = I 4 from rfl, I_eq (by omega) (by omega) (by omega) (by omega)]; exact propext (by omega)
  by_cases y : e - q = 4
  · rw [if_pos (eL.mpr y)]
    obtain ⟨i0, t0⟩ := sm_tx0 h ha (by omega)
    rw [gd_t i0, t0]
    by_cases c0 : T (q + 0) = 100
    case neg =>
      rw [if_neg c0, spB_f 0 (by decide) c0]
      rfl
    rw [if_pos c0]
    obtain ⟨i1, t1⟩ : ix (ms_at τ + 1) 120 = true ∧ ms_text τ (ms_at τ + 1).toNatClampNeg = T (q + 1) := sm_tx h ha 1 (by omega)
    rw [gd_t i1, t1]
    by_cases c1 : T (q + 1) = 114
    case neg =>
      rw [if_neg c1, spB_f 1 (by decide) c1]
      rfl
    rw [if_pos c1]
    obtain ⟨i2, t2⟩ : ix (ms_at τ + 2) 120 = true ∧ ms_text τ (ms_at τ + 2).toNatClampNeg = T (q + 2) := sm_tx h ha 2 (by omega)
    rw [gd_t i2, t2]
    by_cases c2 : T (q + 2) = 111
    case neg =>
      rw [if_neg c2, spB_f 2 (by decide) c2]
      rfl
    rw [if_pos c2]
    rw [if_neg (show ¬ (4 : Int32) < 4 by decide)]
    obtain ⟨i3, t3⟩ : ix (ms_at τ + 3) 120 = true ∧ ms_text τ (ms_at τ + 3).toNatClampNeg = T (q + 3) := sm_tx h ha 3 (by omega)
    rw [gd_t i3, t3]
    by_cases c3 : T (q + 3) = 112
    case neg =>
      rw [if_neg c3, spB_f 3 (by decide) c3]
      rfl
    rw [if_pos c3]
    unfold fm_is_L103
    rw [if_pos (show (4 : Int32) < 5 by decide)]
    unfold fm_is_L125
    rw [if_pos (show (4 : Int32) < 7 by decide)]
    rw [spB_t (j := 3) y fun k hk => ?_]
    · rfl
    · have hk : k < 4 := hk
      have : k = 0 ∨ k = 1 ∨ k = 2 ∨ k = 3 := by omega
      rcases this with rfl | rfl | rfl | rfl
      · exact c0
      · exact c1
      · exact c2
      · exact c3
  · rw [if_neg (fun z => y (eL.mp z)), spB_l (j := 3) y]
    rfl
theorem sm_is4 (h : TxM τ T n) (ha : ms_at τ = I q) (hq : q ≤ e) (he : e ≤ n) : fm_is F τ (I ((e - q : Nat) : Int)) 112 101 110 97 108 116 121 = some (b2 (spB T q e 4)) := by
  have hn := h.2.1
  unfold fm_is
  rw [if_neg (show ¬ (97 : Int32) = 0 by decide)]
  rw [if_neg (show ¬ (108 : Int32) = 0 by decide)]
  rw [if_neg (show ¬ (116 : Int32) = 0 by decide)]
  unfold fm_is_L29
  have eL : (I ((e - q : Nat) : Int) = 7) = (e - q = 7) := by rw [show (7 : Int32) = I 7 from rfl, I_eq (by omega) (by omega) (by omega) (by omega)]; exact propext (by omega)
  by_cases y : e - q = 7
  · rw [if_pos (eL.mpr y)]
    obtain ⟨i0, t0⟩ := sm_tx0 h ha (by omega)
    rw [gd_t i0, t0]
    by_cases c0 : T (q + 0) = 112
    case neg =>
      rw [if_neg c0, spB_f 0 (by decide) c0]
      rfl
    rw [if_pos c0]
    obtain ⟨i1, t1⟩ : ix (ms_at τ + 1) 120 = true ∧ ms_text τ (ms_at τ + 1).toNatClampNeg = T (q + 1) := sm_tx h ha 1 (by omega)
    rw [gd_t i1, t1]
    by_cases c1 : T (q + 1) = 101
    case neg =>
      rw [if_neg c1, spB_f 1 (by decide) c1]
      rfl
    rw [if_pos c1]
    obtain ⟨i2, t2⟩ : ix (ms_at τ + 2) 120 = true ∧ ms_text τ (ms_at τ + 2).toNatClampNeg = T (q + 2) := sm_tx h ha 2 (by omega)
    rw [gd_t i2, t2]
    by_cases c2 : T (q + 2) = 110
    case neg =>
      rw [if_neg c2, spB_f 2 (by decide) c2]
      rfl
    rw [if_pos c2]
    rw [if_neg (show ¬ (7 : Int32) < 4 by decide)]
    obtain ⟨i3, t3⟩ : ix (ms_at τ + 3) 120 = true ∧ ms_text τ (ms_at τ + 3).toNatClampNeg = T (q + 3) := sm_tx h ha 3 (by omega)
    rw [gd_t i3, t3]
    by_cases c3 : T (q + 3) = 97
    case neg =>
      rw [if_neg c3, spB_f 3 (by decide) c3]
      rfl
    rw [if_pos c3]
    unfold fm_is_L103
    rw [if_neg (show ¬ (7 : Int32) < 5 by decide)]
    obtain ⟨i4, t4⟩ : ix (ms_at τ + 4) 120 = true ∧ ms_text τ (ms_at τ + 4).toNatClampNeg = T (q + 4) := sm_tx h ha 4 (by omega)
    rw [gd_t i4, t4]
    by_cases c4 : T (q + 4) = 108
    case neg =>
      rw [if_neg c4, spB_f 4 (by decide) c4]
      rfl
    rw [if_pos c4]
    unfold fm_is_L125
    rw [if_neg (show ¬ (7 : Int32) < 7 by decide)]
    obtain ⟨i5, t5⟩ : ix (ms_at τ + 5) 120 = true ∧ ms_text τ (ms_at τ + 5).toNatClampNeg = T (q + 5) := sm_tx h ha 5 (by omega)
    rw [gd_t i5, t5]
    by_cases c5 : T (q + 5) = 116
    case neg =>
      rw [if_neg c5, spB_f 5 (by decide) c5]
      rfl
    rw [if_pos c5]
    obtain ⟨i6, t6⟩ : ix (ms_at τ + 6) 120 = true ∧ ms_text τ (ms_at τ + 6).toNatClampNeg = T (q + 6) := sm_tx h ha 6 (by omega)
    rw [gd_t i6, t6]
    by_cases c6 : T (q + 6) = 121
    case neg =>
      rw [if_neg c6, spB_f 6 (by decide) c6]
      rfl
    rw [if_pos c6]
    rw [spB_t (j := 4) y fun k hk => ?_]
    · rfl
    · have hk : k < 7 := hk
      have : k = 0 ∨ k = 1 ∨ k = 2 ∨ k = 3 ∨ k = 4 ∨ k = 5 ∨ k = 6 := by omega
      rcases this with rfl | rfl | rfl | rfl | rfl | rfl | rfl
      · exact c0
      · exact c1
      · exact c2
      · exact c3
      · exact c4
      · exact c5
      · exact c6
  · rw [if_neg (fun z => y (eL.mp z)), spB_l (j := 4) y]
    rfl
theorem sm_is5 (h : TxM τ T n) (ha : ms_at τ = I q) (hq : q ≤ e) (he : e ≤ n) : fm_is F τ (I ((e - q : Nat) : Int)) 97 108 108 0 0 0 0 = some (b2 (spB T q e 5)) := by
  have hn := h.2.1
  unfold fm_is
  rw [if_pos (show (0 : Int32) = 0 from rfl)]
  unfold fm_is_L29
  have eL : (I ((e - q : Nat) : Int) = 3) = (e - q = 3) := by rw [show (3 : Int32) = I 3 from rfl, I_eq (by omega) (by omega) (by omega) (by omega)]; exact propext (by omega)
  by_cases y : e - q = 3
  · rw [if_pos (eL.mpr y)]
    obtain ⟨i0, t0⟩ := sm_tx0 h ha (by omega)
    rw [gd_t i0, t0]
    by_cases c0 : T (q + 0) = 97
    case neg =>
      rw [if_neg c0, spB_f 0 (by decide) c0]
      rfl
    rw [if_pos c0]
    obtain ⟨i1, t1⟩ : ix (ms_at τ + 1) 120 = true ∧ ms_text τ (ms_at τ + 1).toNatClampNeg = T (q + 1) := sm_tx h ha 1 (by omega)
    rw [gd_t i1, t1]
    by_cases c1 : T (q + 1) = 108
    case neg =>
      rw [if_neg c1, spB_f 1 (by decide) c1]
      rfl
    rw [if_pos c1]
    obtain ⟨i2, t2⟩ : ix (ms_at τ + 2) 120 = true ∧ ms_text τ (ms_at τ + 2).toNatClampNeg = T (q + 2) := sm_tx h ha 2 (by omega)
    rw [gd_t i2, t2]
    by_cases c2 : T (q + 2) = 108
    case neg =>
      rw [if_neg c2, spB_f 2 (by decide) c2]
      rfl
    rw [if_pos c2]
    rw [if_pos (show (3 : Int32) < 4 by decide)]
    unfold fm_is_L103
    rw [if_pos (show (3 : Int32) < 5 by decide)]
    unfold fm_is_L125
    rw [if_pos (show (3 : Int32) < 7 by decide)]
    rw [spB_t (j := 5) y fun k hk => ?_]
    · rfl
    · have hk : k < 3 := hk
      have : k = 0 ∨ k = 1 ∨ k = 2 := by omega
      rcases this with rfl | rfl | rfl
      · exact c0
      · exact c1
      · exact c2
  · rw [if_neg (fun z => y (eL.mp z)), spB_l (j := 5) y]
    rfl
theorem sm_word (hF : 1000 ≤ F) (h : TxM τ T n) (hc : ms_at τ = I p) (hp : p ≤ n) : fm_word F τ = if wdW T n p = -1 then some (0, ms_at_s τ (I (nmQ T n p))) else some (wdW T n p + 1, ms_at_s τ (I (wdE T n p))) := by
  unfold fm_word
  rw [sm_here hF h hc hp, bd2_s]
  have hq : nmQ T n p ≤ n := nmQ_le hp
  obtain ⟨h1, h2, h3⟩ := id h
  refine (lp_st (q := isL) (T := T) (n := n) (p := nmQ T n p) (fun k => (ms_at_s τ (I (nmQ T n p)), I k)) (fun k => if wdN T (nmQ T n p) k = -1 then some (0, ms_at_s τ (I (nmQ T n p))) else some (wdN T (nmQ T n p) k + 1, ms_at_s τ (I k))) rfl hq (by omega) (fun k rec k1 k2 k3 => ?_) (fun k rec k1 k2 k3 => ?_)).trans rfl
  · have z1 : ¬ I n ≤ I k := by rw [I_le] <;> omega
    have ixk : ix (I k) 120 = true := of_eq_true (I_ix (by omega) (by omega) (by omega))
    have nk : (I k).toNatClampNeg = k := by rw [I_cl (by omega) (by omega)]; omega
    unfold fm_word_L10_c
    show (if ms_length τ ≤ I k then _ else gd (ix (I k) 120 = true) (bd (fm_in F (ms_text τ (I k).toNatClampNeg) 97 122) (fun r28 => if r28 = 0 then _ else rec (ms_at_s τ (I (nmQ T n p)), I k + 1)))) = _
    have e3 : (decide ((97 : Int32) ≤ T k) && decide (T k ≤ 122)) = true := k3
    rw [h1, if_neg z1, gd_t ixk, nk, h3 k k2, sm_in, bd_s, e3, if_neg (show ¬ b2 true = 0 by decide), I_S]
  · have l40 : fm_word_L40 F (ms_at_s τ (I (nmQ T n p))) (I k) = if wdN T (nmQ T n p) k = -1 then some (0, ms_at_s τ (I (nmQ T n p))) else some (wdN T (nmQ T n p) k + 1, ms_at_s τ (I k)) := by
      have hT : TxM (ms_at_s τ (I (nmQ T n p))) T n := ⟨h1, h2, h3⟩
      have ha : ms_at (ms_at_s τ (I (nmQ T n p))) = I (nmQ T n p) := rfl
      have l189 : ∀ s0 : Int32, fm_word_L189 F (ms_at_s τ (I (nmQ T n p))) (I k) s0 = if s0 ≤ 0 then some (s0, ms_at_s τ (I (nmQ T n p))) else some (s0, ms_at_s τ (I k)) := fun s0 => by
        unfold fm_word_L189 fm_word_L205
        rw [ha]
        rfl
      generalize hτ : ms_at_s τ (I (nmQ T n p)) = τ1 at *
      unfold fm_word_L40
      have eS : I k - ms_at τ1 = I ((k - nmQ T n p : Nat) : Int) := by
        rw [ha, I_sub]
        exact congrArg I (by omega)
      rw [lt_r, eS]
      rw [sm_is0 hT ha k1 k2, bd_s, b2_if]
      cases s0 : spB T (nmQ T n p) k 0 with
      | true =>
        have w : wdN T (nmQ T n p) k = 0 := by
          unfold wdN
          rw [if_pos s0]
        rw [if_pos (show true = true from rfl), l189, w, if_neg (show ¬ (1 : Int32) ≤ 0 by decide), if_neg (show ¬ (0 : Int32) = -1 by decide)]
        rfl
      | false =>
        rw [if_neg (show ¬ false = true by decide)]
        rw [sm_is1 hT ha k1 k2, bd_s, b2_if]
        cases s1 : spB T (nmQ T n p) k 1 with
        | true =>
          have w : wdN T (nmQ T n p) k = 1 := by
            unfold wdN
            rw [if_neg (by rw [s0]; decide), if_pos s1]
          rw [if_pos (show true = true from rfl), l189, w, if_neg (show ¬ (2 : Int32) ≤ 0 by decide), if_neg (show ¬ (1 : Int32) = -1 by decide)]
          rfl
        | false =>
          rw [if_neg (show ¬ false = true by decide)]
          rw [sm_is2 hT ha k1 k2, bd_s, b2_if]
          cases s2 : spB T (nmQ T n p) k 2 with
          | true =>
            have w : wdN T (nmQ T n p) k = 2 := by
              unfold wdN
              rw [if_neg (by rw [s0]; decide), if_neg (by rw [s1]; decide), if_pos s2]
            rw [if_pos (show true = true from rfl), l189, w, if_neg (show ¬ (3 : Int32) ≤ 0 by decide), if_neg (show ¬ (2 : Int32) = -1 by decide)]
            rfl
          | false =>
            rw [if_neg (show ¬ false = true by decide)]
            rw [sm_is3 hT ha k1 k2, bd_s, b2_if]
            cases s3 : spB T (nmQ T n p) k 3 with
            | true =>
              have w : wdN T (nmQ T n p) k = 3 := by
                unfold wdN
                rw [if_neg (by rw [s0]; decide), if_neg (by rw [s1]; decide), if_neg (by rw [s2]; decide), if_pos s3]
              rw [if_pos (show true = true from rfl), l189, w, if_neg (show ¬ (4 : Int32) ≤ 0 by decide), if_neg (show ¬ (3 : Int32) = -1 by decide)]
              rfl
            | false =>
              rw [if_neg (show ¬ false = true by decide)]
              rw [sm_is4 hT ha k1 k2, bd_s, b2_if]
              cases s4 : spB T (nmQ T n p) k 4 with
              | true =>
                have w : wdN T (nmQ T n p) k = 4 := by
                  unfold wdN
                  rw [if_neg (by rw [s0]; decide), if_neg (by rw [s1]; decide), if_neg (by rw [s2]; decide), if_neg (by rw [s3]; decide), if_pos s4]
                rw [if_pos (show true = true from rfl), l189, w, if_neg (show ¬ (5 : Int32) ≤ 0 by decide), if_neg (show ¬ (4 : Int32) = -1 by decide)]
                rfl
              | false =>
                rw [if_neg (show ¬ false = true by decide)]
                rw [sm_is5 hT ha k1 k2, bd_s, b2_if]
                cases s5 : spB T (nmQ T n p) k 5 with
                | true =>
                  have w : wdN T (nmQ T n p) k = 5 := by
                    unfold wdN
                    rw [if_neg (by rw [s0]; decide), if_neg (by rw [s1]; decide), if_neg (by rw [s2]; decide), if_neg (by rw [s3]; decide), if_neg (by rw [s4]; decide), if_pos s5]
                  rw [if_pos (show true = true from rfl), l189, w, if_neg (show ¬ (6 : Int32) ≤ 0 by decide), if_neg (show ¬ (5 : Int32) = -1 by decide)]
                  rfl
                | false =>
                  rw [if_neg (show ¬ false = true by decide)]
                  have w : wdN T (nmQ T n p) k = -1 := by
                    unfold wdN
                    rw [if_neg (by rw [s0]; decide), if_neg (by rw [s1]; decide), if_neg (by rw [s2]; decide), if_neg (by rw [s3]; decide), if_neg (by rw [s4]; decide), if_neg (by rw [s5]; decide)]
                  rw [l189, w, if_pos (show (0 : Int32) ≤ 0 by decide), if_pos rfl]
    unfold fm_word_L10_c
    show (if ms_length τ ≤ I k then fm_word_L40 F (ms_at_s τ (I (nmQ T n p))) (I k) else gd (ix (I k) 120 = true) (bd (fm_in F (ms_text τ (I k).toNatClampNeg) 97 122) (fun r28 => if r28 = 0 then fm_word_L40 F (ms_at_s τ (I (nmQ T n p))) (I k) else _))) = _
    rw [h1, l40]
    rcases Nat.lt_or_ge k n with y | y
    · have z1 : ¬ I n ≤ I k := by rw [I_le] <;> omega
      have ixk : ix (I k) 120 = true := of_eq_true (I_ix (by omega) (by omega) (by omega))
      have nk : (I k).toNatClampNeg = k := by rw [I_cl (by omega) (by omega)]; omega
      have e3 : (decide ((97 : Int32) ≤ T k) && decide (T k ≤ 122)) = false := k3 y
      rw [if_neg z1, gd_t ixk, nk, h3 k y, sm_in, bd_s, e3, if_pos (show b2 false = 0 by decide)]
    · have z1 : I n ≤ I k := by rw [I_le] <;> omega
      rw [if_pos z1]
end T8
