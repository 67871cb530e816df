/-! the text: what follows a command; the text read through -/
section U2
variable {F : Nat} {τ : MS} {n p w q f : Nat} {T : Nat → Int32} {x1 x2 x5 c : Int32}
abbrev KM : Type := MS → Int32 → Int32 → Int32 → Option (Int32 × MS)
theorem cT_0 (hf : ms_fine τ = 0) : ∃ τ', Kr τ τ' ∧ ms_fine τ' = 0 ∧ ms_at τ' = ms_at τ ∧ ∀ k : KM, fm_commands_L45 F k τ x1 x2 0 = k τ' x1 (x2 + 0) 0 := by
  refine ⟨ms_at_s (ms_fine_s τ 0) (ms_at τ + 0), (Kr_fine _).tr (Kr_at _), rfl, Int32.add_zero _, fun k => ?_⟩
  unfold fm_commands_L45 fm_commands_L58
  rw [if_pos (show (0 : Int32) = 0 from rfl), lt_r, if_pos hf]
  unfold fm_commands_L77 fm_commands_L106 fm_commands_L107
  rw [if_pos hf, gd_t (Or.inl rfl), lt_r]
  refine (if_pos rfl).trans ?_
  unfold fm_commands_L133 fm_commands_L134
  rw [lt_r, if_pos (show (0 : Int32) = 0 from rfl)]
  rfl
theorem l77_a (hf : ms_fine τ = 1) (k : KM) : fm_commands_L77 F k τ x1 x2 x5 59 = k (ms_at_s (ms_fine_s τ 1) (ms_at τ + 1)) x1 x2 (if x5 = 0 then 0 else 1) := by
  unfold fm_commands_L77 fm_commands_L102 fm_commands_L107
  rw [if_neg (by rw [hf]; decide), if_pos (show (59 : Int32) = 59 from rfl), gd_t (Or.inr rfl), lt_r]
  have h1 : ¬ ms_fine (ms_fine_s τ 1) = 0 := show ¬ (1 : Int32) = 0 by decide
  have h2 : ¬ ms_fine (ms_at_s (ms_fine_s τ 1) (ms_at (ms_fine_s τ 1) + 1)) = 0 := show ¬ (1 : Int32) = 0 by decide
  rw [if_neg h1, if_pos (show (59 : Int32) = 59 from rfl)]
  unfold fm_commands_L134 fm_commands_L161 fm_commands_L162
  rw [lt_r, if_neg h2, if_pos (show (59 : Int32) = 59 from rfl)]
  by_cases y : x5 = 0
  · rw [if_pos y, if_pos y]; rfl
  · rw [if_neg y, if_neg y]; rfl
theorem l77_b (hf : ms_fine τ = 1) (k : KM) : fm_commands_L77 F k τ x1 x2 x5 (-1000) = k (ms_at_s (ms_fine_s τ 1) (ms_at τ + 0)) x1 x2 0 := by
  unfold fm_commands_L77 fm_commands_L102 fm_commands_L107
  rw [if_neg (by rw [hf]; decide), if_neg (show ¬ (-1000 : Int32) = 59 by decide), if_pos (show (-1000 : Int32) = -1000 from rfl), gd_t (Or.inr rfl), lt_r]
  have h1 : ¬ ms_fine (ms_fine_s τ 1) = 0 := show ¬ (1 : Int32) = 0 by decide
  have h2 : ¬ ms_fine (ms_at_s (ms_fine_s τ 1) (ms_at (ms_fine_s τ 1) + 0)) = 0 := show ¬ (1 : Int32) = 0 by decide
  rw [if_neg h1, if_neg (show ¬ (-1000 : Int32) = 59 by decide)]
  unfold fm_commands_L133 fm_commands_L134 fm_commands_L161 fm_commands_L162
  rw [lt_r, if_neg h2, if_neg (show ¬ (-1000 : Int32) = 59 by decide)]
  by_cases y : x5 = 0
  · rw [if_pos y]; rfl
  · rw [if_neg y]; rfl
theorem l77_c (hf : ms_fine τ = 1) (c1 : ¬ c = 59) (c2 : ¬ c = -1000) (k : KM) : fm_commands_L77 F k τ x1 x2 x5 c = k (ms_at_s (ms_fine_s τ 0) (ms_at τ + 0)) x1 x2 0 := by
  unfold fm_commands_L77 fm_commands_L106 fm_commands_L107
  rw [if_neg (by rw [hf]; decide), if_neg c1, if_neg c2, gd_t (Or.inl rfl), lt_r]
  have h1 : ms_fine (ms_fine_s τ 0) = 0 := rfl
  have h2 : ms_fine (ms_at_s (ms_fine_s τ 0) (ms_at (ms_fine_s τ 0) + 0)) = 0 := rfl
  rw [if_pos h1]
  unfold fm_commands_L133 fm_commands_L134 fm_commands_L161 fm_commands_L162
  rw [lt_r, if_pos h2]
  by_cases y : x5 = 0
  · rw [if_pos y]; rfl
  · rw [if_neg y]; rfl
theorem cT_1 (hF : 1000 ≤ F) (hT : TxM τ T n) (hB : ∀ j, j < n → ¬ T j = -1000) (hf : ms_fine τ = 1) (hc : ms_at τ = I p) (hp : p ≤ n) (h5 : x5 = 0 ∨ x5 = 1) : ∃ τ', Kr τ τ' ∧ ((nmQ T n p < n ∧ T (nmQ T n p) = 59 ∧ ms_fine τ' = 1 ∧ ms_at τ' = I ((nmQ T n p + 1 : Nat) : Int) ∧ ∀ k : KM, fm_commands_L45 F k τ x1 x2 x5 = k τ' x1 (x2 + x5) x5) ∨ (nmQ T n p < n ∧ ¬ T (nmQ T n p) = 59 ∧ ms_fine τ' = 0 ∧ ms_at τ' = I (nmQ T n p) ∧ ∀ k : KM, fm_commands_L45 F k τ x1 x2 x5 = k τ' x1 (x2 + x5) 0) ∨ (n ≤ nmQ T n p ∧ ms_fine τ' = 1 ∧ ∀ k : KM, fm_commands_L45 F k τ x1 x2 x5 = k τ' x1 (x2 + x5) 0)) := by
  have hf1 : ms_fine (ms_at_s τ (I (nmQ T n p))) = 1 := hf
  have e0 : ∀ k : KM, fm_commands_L45 F k τ x1 x2 x5 = fm_commands_L77 F k (ms_at_s τ (I (nmQ T n p))) x1 (x2 + x5) x5 (chA T n (nmQ T n p)) := fun k => by
    unfold fm_commands_L45 fm_commands_L58
    have hf0 : ¬ ms_fine τ = 0 := by rw [hf]; decide
    rcases h5 with rfl | rfl
    · rw [if_pos (show (0 : Int32) = 0 from rfl), lt_r, if_neg hf0, sm_here hF hT hc hp, bd2_s]; rfl
    · rw [if_neg (show ¬ (1 : Int32) = 0 by decide), lt_r, if_neg hf0, sm_here hF hT hc hp, bd2_s]; rfl
  by_cases y : nmQ T n p < n
  · have e1 : chA T n (nmQ T n p) = T (nmQ T n p) := if_pos y
    by_cases y2 : T (nmQ T n p) = 59
    · refine ⟨ms_at_s (ms_fine_s (ms_at_s τ (I (nmQ T n p))) 1) (I (nmQ T n p) + 1), ((Kr_at _).tr (Kr_fine _)).tr (Kr_at _), Or.inl ⟨y, y2, rfl, I_S _, fun k => ?_⟩⟩
      rw [e0 k, e1, y2, l77_a hf1]
      rcases h5 with rfl | rfl <;> rfl
    · refine ⟨ms_at_s (ms_fine_s (ms_at_s τ (I (nmQ T n p))) 0) (I (nmQ T n p) + 0), ((Kr_at _).tr (Kr_fine _)).tr (Kr_at _), Or.inr (Or.inl ⟨y, y2, rfl, Int32.add_zero _, fun k => ?_⟩)⟩
      rw [e0 k, e1, l77_c hf1 y2 (hB _ y)]
      rfl
  · have e1 : chA T n (nmQ T n p) = -1000 := if_neg y
    refine ⟨ms_at_s (ms_fine_s (ms_at_s τ (I (nmQ T n p))) 1) (I (nmQ T n p) + 0), ((Kr_at _).tr (Kr_fine _)).tr (Kr_at _), Or.inr (Or.inr ⟨by omega, rfl, fun k => ?_⟩)⟩
    rw [e0 k, e1, l77_b hf1]
    rfl
theorem I6_inj {a b : Nat} (ha : a < 6) (hb : b < 6) (h : I a = I b) : a = b := by
  rw [I_eq (by omega) (by omega) (by omega) (by omega)] at h
  omega
theorem I6_m1 {a : Nat} (ha : a < 6) (h : I a = -1) : False := by
  rw [show (-1 : Int32) = I (-1) from rfl, I_eq (by omega) (by omega) (by omega) (by omega)] at h
  omega
theorem spB_len {q e j : Nat} (h : spB T q e j = true) : e - q = sLn j := by
  by_cases y : e - q = sLn j
  · exact y
  · rw [spB_l y] at h
    cases h
theorem wdN_len {q e : Nat} (hw : w < 6) (h : wdN T q e = I w) : e - q = sLn w := by
  unfold wdN at h
  by_cases s0 : spB T q e 0 = true
  · rw [if_pos s0] at h
    have := I6_inj (a := 0) (by omega) hw h
    subst this
    exact spB_len s0
  rw [if_neg s0] at h
  by_cases s1 : spB T q e 1 = true
  · rw [if_pos s1] at h
    have := I6_inj (a := 1) (by omega) hw h
    subst this
    exact spB_len s1
  rw [if_neg s1] at h
  by_cases s2 : spB T q e 2 = true
  · rw [if_pos s2] at h
    have := I6_inj (a := 2) (by omega) hw h
    subst this
    exact spB_len s2
  rw [if_neg s2] at h
  by_cases s3 : spB T q e 3 = true
  · rw [if_pos s3] at h
    have := I6_inj (a := 3) (by omega) hw h
    subst this
    exact spB_len s3
  rw [if_neg s3] at h
  by_cases s4 : spB T q e 4 = true
  · rw [if_pos s4] at h
    have := I6_inj (a := 4) (by omega) hw h
    subst this
    exact spB_len s4
  rw [if_neg s4] at h
  by_cases s5 : spB T q e 5 = true
  · rw [if_pos s5] at h
    have := I6_inj (a := 5) (by omega) hw h
    subst this
    exact spB_len s5
  rw [if_neg s5] at h
  exact absurd h.symm (fun z => I6_m1 hw z)
theorem ag_ge : ∀ k, p ≤ ag T n p k
  | 0 => Nat.le_refl _
  | k + 1 => Nat.le_trans (ag_ge k) (Nat.le_trans stN_ge nmE_ge)
theorem PO_adv (h : PO T n p w q) (hp : p ≤ n) : p + 3 ≤ q ∧ q ≤ n := by
  obtain ⟨h1, h2, -, h4, -⟩ := h
  have l := wdN_len h1 h2
  have l3 : 3 ≤ sLn w := by rcases j6 h1 with rfl | rfl | rfl | rfl | rfl | rfl <;> decide
  have a1 : p ≤ nmQ T n p := stN_ge
  have a2 := ag_ge (T := T) (n := n) (p := wdE T n p) (aW w)
  have a3 : ag T n (wdE T n p) (aW w) ≤ nmQ T n (ag T n (wdE T n p) (aW w)) := stN_ge
  have a4 := nmQ_le (T := T) (ag_le (T := T) (wdE_le (T := T) hp) (aW w))
  omega
theorem PF_le (h : PF T n p f) (hp : p ≤ n) : f ≤ n := by
  rcases h with ⟨-, rfl⟩ | ⟨w, -, -, ⟨i, -, -, -, rfl⟩ | ⟨-, -, h, -⟩⟩
  · exact nmQ_le hp
  · exact nmQ_le (ag_le (wdE_le hp) _)
  · omega
theorem sm_dryF (hF : 1000 ≤ F) (hT : TxM τ T n) (hB : ∀ j, j < n → ¬ T j = -1000) (hc : ms_at τ = I p) (hp : p ≤ n) (h : PF T n p f) : ∃ (τ' : MS) (x : Int32), Kr τ τ' ∧ ms_fine τ' = 0 ∧ ms_at τ' = I f ∧ ∀ k : KM, fm_commands_L14_c F k τ 0 x2 1 = k τ' 0 x 0 := by
  obtain ⟨τ1, K1, hcase⟩ := sm_cmd (x1 := 0) hF hT hc hp
  have dr : ms_fine τ1 = 0 → fm_command F τ 0 = some (0, τ1) → ms_at τ1 = I f → ∃ (τ' : MS) (x : Int32), Kr τ τ' ∧ ms_fine τ' = 0 ∧ ms_at τ' = I f ∧ ∀ k : KM, fm_commands_L14_c F k τ 0 x2 1 = k τ' 0 x 0 := fun e1 e2 e3 => by
    obtain ⟨τ', g1, g2, g3, g4⟩ := cT_0 (F := F) (x1 := 0) (x2 := x2) e1
    refine ⟨τ', x2 + 0, K1.tr g1, g2, g3.trans e3, fun k => ?_⟩
    unfold fm_commands_L14_c fm_commands_L44
    rw [if_neg (show ¬ (1 : Int32) = 0 by decide), e2, bd2_s, if_pos e1]
    exact g4 k
  rcases hcase with ⟨a1, a2, a3, a4⟩ | ⟨w, a1, a2, a3, hc2⟩
  · rcases h with ⟨-, rfl⟩ | ⟨w', b1, b2, -⟩
    · exact dr a3 a2 a4
    · exact absurd (b2.symm.trans a1) (fun z => I6_m1 b1 z)
  · rcases h with ⟨b1, -⟩ | ⟨w', b1, b2, hA⟩
    · exact absurd (a2.symm.trans b1) (fun z => I6_m1 a1 z)
    · have := I6_inj b1 a1 (b2.symm.trans a2)
      subst this
      rcases hc2 with ⟨c1, c2, c3⟩ | ⟨c1, i, c2, c3, c4, c5⟩
      · rcases hA with ⟨i, d1, d2, d3, -⟩ | ⟨d1, rfl, d3, d4⟩
        · exact absurd (((c3 i d1).2).symm.trans d3) (by decide)
        · obtain ⟨τ', g1, g2⟩ := cT_1 (x1 := 0) (x2 := x2) (x5 := 1) hF (K1.tx hT) hB c1 c2 (ag_le (wdE_le hp) _) (Or.inr rfl)
          rcases g2 with ⟨-, g3, -⟩ | ⟨-, -, g3, g4, g5⟩ | ⟨g3, -⟩
          · exact absurd g3 d4
          · refine ⟨τ', x2 + 1, K1.tr g1, g3, g4, fun k => ?_⟩
            unfold fm_commands_L14_c
            rw [if_neg (show ¬ (1 : Int32) = 0 by decide), a3, cFin_d c1, bd2_s, if_neg (by rw [c1]; decide), if_neg (show ¬ (0 : Int32) < -1000 by decide)]
            exact g5 k
          · omega
      · rcases hA with ⟨i', d1, d2, d3, rfl⟩ | ⟨d1, -⟩
        · have hi : i = i' := by
            rcases Nat.lt_trichotomy i i' with z | z | z
            · exact absurd ((d2 i z).symm.trans c4) (by decide)
            · exact z
            · exact absurd ((c3 i' z).symm.trans d3) (by decide)
          subst hi
          exact dr c1 (a3.trans (cFin_0 c1)) c5
        · exact absurd ((d1 i c2).symm.trans c4) (by decide)
theorem sm_dryO (hF : 1000 ≤ F) (hT : TxM τ T n) (hB : ∀ j, j < n → ¬ T j = -1000) (hc : ms_at τ = I p) (hp : p ≤ n) (h : PO T n p w q) : ∃ τ' : MS, Kr τ τ' ∧ ms_fine τ' = 1 ∧ (q < n → ms_at τ' = I ((q + 1 : Nat) : Int) ∧ ∀ k : KM, fm_commands_L14_c F k τ 0 x2 1 = k τ' 0 (x2 + 1) 1) ∧ (n ≤ q → ∀ k : KM, fm_commands_L14_c F k τ 0 x2 1 = k τ' 0 (x2 + 1) 0) := by
  obtain ⟨τ1, K1, hcase⟩ := sm_cmd (x1 := 0) hF hT hc hp
  obtain ⟨b1, b2, b3, rfl, b5⟩ := h
  rcases hcase with ⟨a1, -⟩ | ⟨w', a1, a2, a3, hc2⟩
  · exact absurd (b2.symm.trans a1) (fun z => I6_m1 b1 z)
  · have := I6_inj b1 a1 (b2.symm.trans a2)
    subst this
    rcases hc2 with ⟨c1, c2, c3⟩ | ⟨c1, i, c2, c3, c4, c5⟩
    · have e0 : ∀ k : KM, fm_commands_L14_c F k τ 0 x2 1 = fm_commands_L45 F k τ1 0 x2 1 := fun k => by
        unfold fm_commands_L14_c
        rw [if_neg (show ¬ (1 : Int32) = 0 by decide), a3, cFin_d c1, bd2_s, if_neg (by rw [c1]; decide), if_neg (show ¬ (0 : Int32) < -1000 by decide)]
      obtain ⟨τ', g1, g2⟩ := cT_1 (x1 := 0) (x2 := x2) (x5 := 1) hF (K1.tx hT) hB c1 c2 (ag_le (wdE_le hp) _) (Or.inr rfl)
      rcases g2 with ⟨g2, -, g3, g4, g5⟩ | ⟨g2, g3, -⟩ | ⟨g2, g3, g4⟩
      · exact ⟨τ', K1.tr g1, g3, fun _ => ⟨g4, fun k => (e0 k).trans (g5 k)⟩, fun z => absurd z (by omega)⟩
      · exact absurd (b5 g2) g3
      · exact ⟨τ', K1.tr g1, g3, fun z => absurd z (by omega), fun _ k => (e0 k).trans (g4 k)⟩
    · exact absurd ((b3 i c2).symm.trans c4) (by decide)
/-- a text without fault from a place on -/
def WF (T : Nat → Int32) (n : Nat) : Nat → Nat → Prop
  | 0, _ => False
  | d + 1, p => ∃ w q : Nat, PO T n p w q ∧ (q < n → WF T n d (q + 1))
end U2
