/-! the text: numbers -/
section T7
variable {F : Nat} {σ : CSt} {τ : MS} {n p q : Nat} {T : Nat → Int32}
theorem i_as (a b c : Int32) : a + (b - c) = a + b - c := by
  have h : I a.toInt + (I b.toInt - I c.toInt) = I a.toInt + I b.toInt - I c.toInt := by
    rw [I_sub, I_add, I_add, I_sub]
    exact congrArg I (by omega)
  rwa [I_of, I_of, I_of] at h
def nmQ (T : Nat → Int32) (n p : Nat) : Nat := stN isB T n p
def nmE (T : Nat → Int32) (n p : Nat) : Nat := stN isD T n (nmQ T n p)
def nmV (T : Nat → Int32) (q : Nat) : Nat → Int32
  | 0 => 0
  | m + 1 => 10 * nmV T q m + (T (q + m) - 48)
def nmK (T : Nat → Int32) (n p : Nat) : Bool := decide (nmQ T n p < nmE T n p) && decide (nmE T n p - nmQ T n p ≤ 3)
def nmA (T : Nat → Int32) (n p : Nat) : Int32 := nmV T (nmQ T n p) (nmE T n p - nmQ T n p)
theorem nmQ_le (hp : p ≤ n) : nmQ T n p ≤ n := stN_le hp
theorem nmE_le (hp : p ≤ n) : nmE T n p ≤ n := stN_le (nmQ_le hp)
theorem nmE_ge : nmQ T n p ≤ nmE T n p := stN_ge
theorem isD_y {c : Int32} (h : isD c = true) : ¬ c < 48 ∧ ¬ 57 < c := by
  unfold isD at h
  simp only [Bool.and_eq_true, decide_eq_true_eq] at h
  rw [i_lt, i_lt]
  exact ⟨fun z => z h.1, fun z => z h.2⟩
theorem isD_n {c : Int32} (h : isD c = false) : c < 48 ∨ 57 < c := by
  unfold isD at h
  rw [i_lt, i_lt]
  by_cases h1 : 48 ≤ c
  · right
    intro h2
    rw [decide_eq_true h1, decide_eq_true h2] at h
    cases h
  · exact Or.inl h1
theorem nmV_ok : ∀ m, m ≤ 3 → (∀ j, j < m → isD (T (q + j)) = true) → ∃ v : Nat, nmV T q m = I v ∧ v < 10 ^ m
  | 0, _, _ => ⟨0, rfl, by omega⟩
  | m + 1, hm, h => by
    obtain ⟨v, e, hv⟩ := nmV_ok m (by omega) fun j hj => h j (by omega)
    have hd := h m (by omega)
    unfold isD at hd
    simp only [Bool.and_eq_true, decide_eq_true_eq, Int32.le_iff_toInt_le] at hd
    have h48 : (48 : Int32).toInt = 48 := rfl
    have h57 : (57 : Int32).toInt = 57 := rfl
    rw [h48, h57] at hd
    refine ⟨10 * v + ((T (q + m)).toInt - 48).toNat, ?_, ?_⟩
    · show 10 * nmV T q m + (T (q + m) - 48) = _
      rw [e, ← I_of (T (q + m)), I_of, show (10 : Int32) = I 10 from rfl, show (48 : Int32) = I 48 from rfl]
      have := I_of (T (q + m))
      rw [← this, I_sub, I_mul, I_add, this]
      exact congrArg I (by omega)
    · have : 10 ^ (m + 1) = 10 ^ m * 10 := Nat.pow_succ 10 m
      omega
theorem nmA_ok (hK : nmK T n p = true) : ∃ v : Nat, nmA T n p = I v ∧ v < 1000 := by
  unfold nmK at hK
  simp only [Bool.and_eq_true, decide_eq_true_eq] at hK
  obtain ⟨v, h1, h2⟩ := nmV_ok (T := T) (q := nmQ T n p) (nmE T n p - nmQ T n p) hK.2 fun j hj => stN_in (n := n) (p := nmQ T n p) (by omega) (by unfold nmE at hj; omega)
  refine ⟨v, h1, ?_⟩
  have : 10 ^ (nmE T n p - nmQ T n p) ≤ 10 ^ 3 := Nat.pow_le_pow_right (by omega) hK.2
  omega
theorem nmA_m1 (hK : nmK T n p = true) : ¬ nmA T n p = -1 := by
  obtain ⟨v, h1, h2⟩ := nmA_ok hK
  rw [h1, show (-1 : Int32) = I (-1) from rfl, I_eq (by omega) (by omega) (by omega) (by omega)]
  omega
theorem sc_number (hF : 1000 ≤ F) (h : TxS σ T n) (hc : cs_tc σ = I p) (hp : p ≤ n) : fc_X2_readNumber F σ = if nmK T n p = true then some (nmA T n p, cs_tc_s σ (I (nmE T n p))) else some (-1, cs_tf_s (cs_tc_s σ (I (nmE T n p))) (I (nmQ T n p))) := by
  unfold fc_X2_readNumber
  rw [sc_skip hF h hc hp, bd_s]
  have hq : nmQ T n p ≤ n := nmQ_le hp
  obtain ⟨h1, h2, h3⟩ := h
  refine (lp_st (q := isD) (T := T) (n := n) (p := nmQ T n p) (fun k => (cs_tc_s σ (I k), I (nmQ T n p), nmV T (nmQ T n p) (k - nmQ T n p))) (fun k => if (decide (nmQ T n p < k) && decide (k - nmQ T n p ≤ 3)) = true then some (nmV T (nmQ T n p) (k - nmQ T n p), cs_tc_s σ (I k)) else some (-1, cs_tf_s (cs_tc_s σ (I k)) (I (nmQ T n p)))) (by rw [Nat.sub_self]; rfl) hq (by omega) (fun k rec k1 k2 k3 => ?_) (fun k rec k1 k2 k3 => ?_)).trans rfl
  · have z1 : ¬ I n ≤ I k := by rw [I_le] <;> omega
    have ixk : ix (I k) 120 = true := of_eq_true (I_ix (by omega) (by omega) (by omega))
    have nk : (I k).toNatClampNeg = k := by rw [I_cl (by omega) (by omega)]; omega
    obtain ⟨d1, d2⟩ := isD_y k3
    unfold fc_X2_readNumber_L11_c
    show (if cs_tl σ ≤ I k then _ else gd (ix (I k) 120 = true) (if cs_tb σ (I k).toNatClampNeg < 48 then _ else gd (ix (I k) 120 = true) (if 57 < cs_tb σ (I k).toNatClampNeg then _ else gd (ix (I k) 120 = true) (rec (cs_tc_s (cs_tc_s σ (I k)) (I k + 1), I (nmQ T n p), 10 * nmV T (nmQ T n p) (k - nmQ T n p) + (cs_tb σ (I k).toNatClampNeg - 48)))))) = _
    rw [h1, if_neg z1, gd_t ixk, nk, h3 k k2, if_neg d1, gd_t ixk, if_neg d2, gd_t ixk, I_S, show k + 1 - nmQ T n p = (k - nmQ T n p) + 1 by omega]
    show _ = rec (cs_tc_s σ (I ((k + 1 : Nat) : Int)), I (nmQ T n p), 10 * nmV T (nmQ T n p) (k - nmQ T n p) + (T (nmQ T n p + (k - nmQ T n p)) - 48))
    rw [show nmQ T n p + (k - nmQ T n p) = k by omega]
    rfl
  · have l81 : fc_X2_readNumber_L81 F (cs_tc_s σ (I k)) (I (nmQ T n p)) (nmV T (nmQ T n p) (k - nmQ T n p)) = if (decide (nmQ T n p < k) && decide (k - nmQ T n p ≤ 3)) = true then some (nmV T (nmQ T n p) (k - nmQ T n p), cs_tc_s σ (I k)) else some (-1, cs_tf_s (cs_tc_s σ (I k)) (I (nmQ T n p))) := by
      unfold fc_X2_readNumber_L81 fc_X2_readNumber_L99
      show (if I k = I (nmQ T n p) then _ else if I k - I (nmQ T n p) ≤ 3 then _ else _) = _
      have e1 : (I k = I (nmQ T n p)) = (k = nmQ T n p) := by rw [I_eq (by omega) (by omega) (by omega) (by omega)]; exact propext (by omega)
      have e2 : (I k - I (nmQ T n p) ≤ 3) = (k - nmQ T n p ≤ 3) := by rw [I_sub, I_3, I_le (by omega) (by omega) (by omega) (by omega)]; exact propext (by omega)
      simp only [e1, e2]
      by_cases y1 : k = nmQ T n p
      · rw [if_pos y1, decide_eq_false (by omega), Bool.false_and, if_neg (by decide)]
        rfl
      · rw [if_neg y1, decide_eq_true (by omega), Bool.true_and]
        by_cases y2 : k - nmQ T n p ≤ 3
        · rw [if_pos y2, decide_eq_true y2, if_pos rfl]
        · rw [if_neg y2, decide_eq_false y2, if_neg (by decide)]
          rfl
    unfold fc_X2_readNumber_L11_c
    show (if cs_tl σ ≤ I k then fc_X2_readNumber_L81 F (cs_tc_s σ (I k)) (I (nmQ T n p)) (nmV T (nmQ T n p) (k - nmQ T n p)) else gd (ix (I k) 120 = true) (if cs_tb σ (I k).toNatClampNeg < 48 then fc_X2_readNumber_L81 F (cs_tc_s σ (I k)) (I (nmQ T n p)) (nmV T (nmQ T n p) (k - nmQ T n p)) else gd (ix (I k) 120 = true) (if 57 < cs_tb σ (I k).toNatClampNeg then fc_X2_readNumber_L81 F (cs_tc_s σ (I k)) (I (nmQ T n p)) (nmV T (nmQ T n p) (k - nmQ T n p)) else _))) = _
    rw [h1, l81]
    rcases Nat.lt_or_ge k n with y | y
    · have z1 : ¬ I n ≤ I k := by rw [I_le] <;> omega
      have ixk : ix (I k) 120 = true := of_eq_true (I_ix (by omega) (by omega) (by omega))
      have nk : (I k).toNatClampNeg = k := by rw [I_cl (by omega) (by omega)]; omega
      rw [if_neg z1, gd_t ixk, nk, h3 k y]
      by_cases y3 : T k < 48
      · rw [if_pos y3]
      · rw [if_neg y3, gd_t ixk, if_pos ((isD_n (k3 y)).resolve_left y3)]
    · have z1 : I n ≤ I k := by rw [I_le] <;> omega
      rw [if_pos z1]
theorem sm_rnum0 (hF : 1000 ≤ F) (h : ms_fine τ = 0) : fm_readsNumber F τ = some (0, τ) := by
  unfold fm_readsNumber fm_readsNumber_L26 fm_readsNumber_L27
  rw [if_pos h, gd_t (Or.inl rfl)]
  refine (lp_r (fun _ => (ms_fine_s τ 0, ms_at (ms_fine_s τ 0), 0)) (some (0, τ)) 0 rfl (by omega) (fun k rec hk => absurd hk (Nat.not_lt_zero _)) (fun rec => ?_))
  unfold fm_readsNumber_L37_c fm_readsNumber_L103 fm_readsNumber_L125 fm_readsNumber_L126 fm_readsNumber_L145
  refine (if_pos rfl).trans ?_
  refine (if_pos rfl).trans ?_
  refine (gd_t (Or.inl rfl)).trans ?_
  rw [lt_r]
  refine (if_pos rfl).trans ?_
  show some ((0 : Int32), ms_at_s (ms_fine_s (ms_fine_s τ 0) 0) (ms_at τ)) = _
  have : ms_at_s (ms_fine_s (ms_fine_s τ 0) 0) (ms_at τ) = ms_fine_s τ 0 := rfl
  rw [this, ← h]
  rfl
theorem chA_D {k : Nat} : isD (chA T n k) = true → k < n ∧ isD (T k) = true := by
  unfold chA
  by_cases y : k < n
  · rw [if_pos y]
    exact fun z => ⟨y, z⟩
  · rw [if_neg y]
    intro z
    exact absurd z (by decide)
theorem sm_rnum (hF : 1000 ≤ F) (h : TxM τ T n) (hf : ms_fine τ = 1) (hc : ms_at τ = I p) (hp : p ≤ n) : (nmK T n p = true → fm_readsNumber F τ = some (nmA T n p, ms_at_s τ (I (nmE T n p)))) ∧ (nmK T n p = false → ∃ r, fm_readsNumber F τ = some (r, ms_fine_s (ms_at_s τ (I (nmQ T n p))) 0)) := by
  have hq : nmQ T n p ≤ n := nmQ_le hp
  have hge := nmE_ge (T := T) (n := n) (p := p)
  have hle := nmE_le (T := T) hp
  have hn120 := h.2.1
  have hnum : fm_readsNumber F τ = if isD (chA T n (nmQ T n p)) = false then fm_readsNumber_L26 F (ms_at_s τ (I (nmQ T n p))) else fm_readsNumber_L27 F (ms_at_s τ (I (nmQ T n p))) 1 := by
    unfold fm_readsNumber
    rw [if_neg (by rw [hf]; decide), sm_here hF h hc hp, bd2_s, sm_in, bd_s]
    simp only [b2_0]
    rfl
  cases hd : isD (chA T n (nmQ T n p)) with
  | false =>
    have he : nmE T n p = nmQ T n p := by
      rcases Nat.lt_or_ge (nmQ T n p) (nmE T n p) with y | y
      · have h5 := stN_in (q := isD) (T := T) (n := n) (p := nmQ T n p) (j := nmQ T n p) (Nat.le_refl _) y
        have h6 : chA T n (nmQ T n p) = T (nmQ T n p) := if_pos (by omega)
        rw [h6, h5] at hd
        cases hd
      · omega
    have hk : nmK T n p = false := by
      unfold nmK
      rw [decide_eq_false (by omega), Bool.false_and]
    refine ⟨fun z => absurd (hk.symm.trans z) (by decide), fun _ => ⟨0, ?_⟩⟩
    rw [hnum, hd, if_pos rfl]
    unfold fm_readsNumber_L26 fm_readsNumber_L27
    rw [gd_t (Or.inl rfl)]
    refine (lp_r (fun _ => (ms_fine_s (ms_at_s τ (I (nmQ T n p))) 0, I (nmQ T n p), 0)) _ 0 rfl (by omega) (fun k rec hk => absurd hk (Nat.not_lt_zero _)) (fun rec => ?_))
    unfold fm_readsNumber_L37_c fm_readsNumber_L103 fm_readsNumber_L125 fm_readsNumber_L126 fm_readsNumber_L145
    refine (if_pos rfl).trans ?_
    refine (if_pos rfl).trans ?_
    refine (gd_t (Or.inl rfl)).trans ?_
    rw [lt_r]
    refine (if_pos rfl).trans ?_
    rfl
  | true =>
    obtain ⟨hqn, hdq⟩ := chA_D hd
    have hgt : nmQ T n p < nmE T n p := by
      rcases Nat.lt_or_ge (nmQ T n p) (nmE T n p) with y | y
      · exact y
      · have h5 : stN isD T n (nmQ T n p) = nmQ T n p := Nat.le_antisymm y stN_ge
        have h6 := stN_at (q := isD) (T := T) (n := n) (p := nmQ T n p) (by omega)
        rw [h5, hdq] at h6
        cases h6
    obtain ⟨h1, h2, h3⟩ := h
    have hmain : fm_readsNumber F τ = if nmE T n p - nmQ T n p ≤ 3 then some (nmV T (nmQ T n p) (min (nmE T n p - nmQ T n p) 3), ms_at_s τ (I (nmE T n p))) else some (nmV T (nmQ T n p) (min (nmE T n p - nmQ T n p) 3), ms_fine_s (ms_at_s τ (I (nmQ T n p))) 0) := by
      rw [hnum, hd, if_neg (by decide)]
      unfold fm_readsNumber_L27
      rw [gd_t (Or.inr rfl)]
      have e1 : ms_fine_s (ms_at_s τ (I (nmQ T n p))) 1 = ms_at_s τ (I (nmQ T n p)) := by
        rw [← hf]
        rfl
      rw [e1]
      refine (lp_st (q := isD) (T := T) (n := n) (p := nmQ T n p) (fun k => (ms_at_s τ (I (nmQ T n p)), I k, nmV T (nmQ T n p) (min (k - nmQ T n p) 3))) (fun k => if k - nmQ T n p ≤ 3 then some (nmV T (nmQ T n p) (min (k - nmQ T n p) 3), ms_at_s τ (I k)) else some (nmV T (nmQ T n p) (min (k - nmQ T n p) 3), ms_fine_s (ms_at_s τ (I (nmQ T n p))) 0)) (by rw [Nat.sub_self]; rfl) hq (by omega) (fun k rec k1 k2 k3 => ?_) (fun k rec k1 k2 k3 => ?_)).trans rfl
      · have z1 : ¬ I n ≤ I k := by rw [I_le] <;> omega
        have ixk : ix (I k) 120 = true := of_eq_true (I_ix (by omega) (by omega) (by omega))
        have nk : (I k).toNatClampNeg = k := by rw [I_cl (by omega) (by omega)]; omega
        unfold fm_readsNumber_L37_c fm_readsNumber_L96
        show (if ms_fine τ = 0 then _ else if ms_length τ ≤ I k then _ else gd (ix (I k) 120 = true) (bd (fm_in F (ms_text τ (I k).toNatClampNeg) 48 57) (fun r62 => if r62 = 0 then _ else if 3 ≤ I k - I (nmQ T n p) then rec (ms_at_s τ (I (nmQ T n p)), I k + 1, nmV T (nmQ T n p) (min (k - nmQ T n p) 3)) else gd (ix (I k) 120 = true) (rec (ms_at_s τ (I (nmQ T n p)), I k + 1, 10 * nmV T (nmQ T n p) (min (k - nmQ T n p) 3) + ms_text τ (I k).toNatClampNeg - 48))))) = _
        have e2 : (3 ≤ I k - I (nmQ T n p)) = (3 ≤ k - nmQ T n p) := by rw [I_sub, I_3, I_le (by omega) (by omega) (by omega) (by omega)]; exact propext (by omega)
        have e3 : (decide ((48 : Int32) ≤ T k) && decide (T k ≤ 57)) = true := k3
        rw [hf, if_neg (by decide), h1, if_neg z1, gd_t ixk, nk, h3 k k2, sm_in, bd_s, e3, if_neg (by decide), I_S]
        simp only [e2]
        by_cases y : 3 ≤ k - nmQ T n p
        · rw [if_pos y, show min (k - nmQ T n p) 3 = 3 by omega, show min (k + 1 - nmQ T n p) 3 = 3 by omega]
        · rw [if_neg y, gd_t ixk, show min (k - nmQ T n p) 3 = k - nmQ T n p by omega, show min (k + 1 - nmQ T n p) 3 = (k - nmQ T n p) + 1 by omega]
          show _ = rec (ms_at_s τ (I (nmQ T n p)), I ((k + 1 : Nat) : Int), 10 * nmV T (nmQ T n p) (k - nmQ T n p) + (T (nmQ T n p + (k - nmQ T n p)) - 48))
          rw [show nmQ T n p + (k - nmQ T n p) = k by omega, i_as]
      · have l103 : fm_readsNumber_L103 F (ms_at_s τ (I (nmQ T n p))) (I k) (nmV T (nmQ T n p) (min (k - nmQ T n p) 3)) = if k - nmQ T n p ≤ 3 then some (nmV T (nmQ T n p) (min (k - nmQ T n p) 3), ms_at_s τ (I k)) else some (nmV T (nmQ T n p) (min (k - nmQ T n p) 3), ms_fine_s (ms_at_s τ (I (nmQ T n p))) 0) := by
          have hf1 : ¬ ms_fine (ms_at_s τ (I (nmQ T n p))) = 0 := by
            show ¬ ms_fine τ = 0
            rw [hf]
            decide
          unfold fm_readsNumber_L103
          have e2 : (3 < I k - ms_at (ms_at_s τ (I (nmQ T n p)))) = ¬ (k - nmQ T n p ≤ 3) := by
            show (3 < I k - I (nmQ T n p)) = _
            rw [I_sub, I_3, I_lt (by omega) (by omega) (by omega) (by omega)]
            exact propext (by omega)
          rw [if_neg hf1]
          simp only [e2]
          by_cases y : k - nmQ T n p ≤ 3
          · rw [if_neg (fun z => z y), if_pos y]
            unfold fm_readsNumber_L126 fm_readsNumber_L145
            refine (gd_t (Or.inr rfl)).trans ?_
            rw [lt_r, e1]
            refine (if_neg hf1).trans ?_
            rfl
          · rw [if_pos y, if_neg y]
            unfold fm_readsNumber_L125 fm_readsNumber_L126 fm_readsNumber_L145
            refine (gd_t (Or.inl rfl)).trans ?_
            rw [lt_r]
            refine (if_pos rfl).trans ?_
            rfl
        unfold fm_readsNumber_L37_c
        show (if ms_fine τ = 0 then _ else if ms_length τ ≤ I k then fm_readsNumber_L103 F (ms_at_s τ (I (nmQ T n p))) (I k) (nmV T (nmQ T n p) (min (k - nmQ T n p) 3)) else gd (ix (I k) 120 = true) (bd (fm_in F (ms_text τ (I k).toNatClampNeg) 48 57) (fun r62 => if r62 = 0 then fm_readsNumber_L103 F (ms_at_s τ (I (nmQ T n p))) (I k) (nmV T (nmQ T n p) (min (k - nmQ T n p) 3)) else _))) = _
        rw [if_neg (by rw [hf]; decide), h1, l103]
        rcases Nat.lt_or_ge k n with y | y
        · have z1 : ¬ I n ≤ I k := by rw [I_le] <;> omega
          have ixk : ix (I k) 120 = true := of_eq_true (I_ix (by omega) (by omega) (by omega))
          have nk : (I k).toNatClampNeg = k := by rw [I_cl (by omega) (by omega)]; omega
          have e3 : (decide ((48 : Int32) ≤ T k) && decide (T k ≤ 57)) = false := k3 y
          rw [if_neg z1, gd_t ixk, nk, h3 k y, sm_in, bd_s, e3, if_pos (show b2 false = 0 by decide)]
        · have z1 : I n ≤ I k := by rw [I_le] <;> omega
          rw [if_pos z1]
    rw [hmain]
    by_cases y : nmE T n p - nmQ T n p ≤ 3
    · have hk : nmK T n p = true := by
        unfold nmK
        rw [decide_eq_true hgt, decide_eq_true y]
        rfl
      refine ⟨fun _ => ?_, fun z => absurd (hk.symm.trans z) (by decide)⟩
      rw [if_pos y, show min (nmE T n p - nmQ T n p) 3 = nmE T n p - nmQ T n p by omega]
      rfl
    · have hk : nmK T n p = false := by
        unfold nmK
        rw [decide_eq_false y, Bool.and_false]
      refine ⟨fun z => absurd (hk.symm.trans z) (by decide), fun _ => ⟨_, if_neg y⟩⟩
end T7
