/-! textFault, type, clearText -/
section U3
variable {F : Nat} {σ : CSt} {τ : MS} {n p w q f : Nat} {T : Nat → Int32}
theorem ff_0 (c N : Nat) : fc_X2_findFault_L8 F (N + 1) σ 0 (I c) = some (cs_tf σ, σ) := by
  show fc_X2_findFault_L8_c F (fc_X2_findFault_L8 F N) σ 0 (I c) = _
  unfold fc_X2_findFault_L8_c fc_X2_findFault_L29
  by_cases y : 120 ≤ I c
  · rw [if_pos y]
  · rw [if_neg y, if_pos rfl]
theorem ff_1 (c N : Nat) (hc : c < 120) : fc_X2_findFault_L8 F (N + 1) σ 1 (I c) = bd2 (fc_X2_readCommand F σ) (fun r σ' => fc_X2_findFault_L8 F N σ' r (I ((c + 1 : Nat) : Int))) := by
  show fc_X2_findFault_L8_c F (fc_X2_findFault_L8 F N) σ 1 (I c) = _
  unfold fc_X2_findFault_L8_c
  have y : ¬ 120 ≤ I c := by rw [show (120 : Int32) = I 120 from rfl, I_le] <;> omega
  rw [if_neg y, if_neg (show ¬ (1 : Int32) = 0 by decide), I_S]
  rfl
theorem cm_0 (N : Nat) (x1 x2 : Int32) : fm_commands_L14 F (N + 1) τ x1 x2 0 = some (x2, τ) := by
  show fm_commands_L14_c F (fm_commands_L14 F N) τ x1 x2 0 = _
  unfold fm_commands_L14_c
  rw [if_pos rfl]
theorem dry (hF : 1000 ≤ F) (hB : ∀ j, j < n → ¬ T j = -1000) : ∀ (d p c N M : Nat) (σ : CSt) (τ : MS) (x2 : Int32), p ≤ n → n < p + d → 4 * c ≤ p → d + 1 < N → d < M → TxS σ T n → cs_tc σ = I p → cs_te σ = 0 → cs_tf σ = -1000 → TxM τ T n → ms_at τ = I p → ∃ (σ' : CSt) (τ' : MS) (x : Int32), KtX σ σ' ∧ Kr τ τ' ∧ fc_X2_findFault_L8 F N σ 1 (I c) = some (cs_tf σ', σ') ∧ fm_commands_L14 F M τ 0 x2 1 = some (x, τ') ∧ ((ms_fine τ' = 0 ∧ ∃ f : Nat, f ≤ n ∧ cs_tf σ' = I f ∧ ms_at τ' = I f) ∨ (ms_fine τ' = 1 ∧ cs_tf σ' = -1000 ∧ WF T n d p)) := by
  intro d
  induction d with
  | zero => intro p c N M σ τ x2 h1 h2; exact absurd h2 (by omega)
  | succ d ih =>
    intro p c N M σ τ x2 hp hd hc4 hN hM hS htc hte htf hT hat
    have hn := hS.2.1
    obtain ⟨N, rfl⟩ : ∃ N', N = N' + 2 := ⟨N - 2, by omega⟩
    obtain ⟨M, rfl⟩ : ∃ M', M = M' + 2 := ⟨M - 2, by omega⟩
    obtain ⟨σ1, K1, hcs⟩ := sc_cmd hF hS htc hp hte
    rw [ff_1 c (N + 1) (by omega)]
    rcases hcs with ⟨e1, f, hf, e2⟩ | ⟨e1, w, q, hO, r1, r2, r3, r4, r5⟩
    · obtain ⟨τ1, x, g1, g2, g3, g4⟩ := sm_dryF (x2 := x2) hF hT hB hat hp hf
      refine ⟨σ1, τ1, x, K1, g1, ?_, ?_, Or.inl ⟨g2, f, PF_le hf hp, e2, g3⟩⟩
      · rw [e1, bd2_s]
        exact ff_0 _ _
      · exact (g4 (fm_commands_L14 F (M + 1))).trans (cm_0 _ _ _)
    · obtain ⟨adv, hqn⟩ := PO_adv hO hp
      obtain ⟨τ1, g1, g2, g3, g4⟩ := sm_dryO (x2 := x2) hF hT hB hat hp hO
      rw [e1, bd2_s]
      rcases Nat.lt_or_ge q n with y | y
      · obtain ⟨g5, g6⟩ := g3 y
        obtain ⟨r6, r7⟩ := r4 y
        obtain ⟨σ2, τ2, x, h1, h2, h3, h4, h5⟩ := ih (q + 1) (c + 1) (N + 1) (M + 1) σ1 τ1 (x2 + 1) (by omega) (by omega) (by omega) (by omega) (by omega) (K1.tx hS) r7 r6 (r1.trans htf) (g1.tx hT) g5
        refine ⟨σ2, τ2, x, K1.tr h1, g1.tr h2, h3, (g6 (fm_commands_L14 F (M + 1))).trans h4, ?_⟩
        rcases h5 with h5 | ⟨h5, h6, h7⟩
        · exact Or.inl h5
        · exact Or.inr ⟨h5, h6, w, q, hO, fun _ => h7⟩
      · have e5 := r5 y
        refine ⟨σ1, τ1, x2 + 1, K1, g1, ?_, (g4 y (fm_commands_L14 F (M + 1))).trans (cm_0 _ _ _), Or.inr ⟨g2, r1.trans htf, w, q, hO, fun z => absurd z (by omega)⟩⟩
        rw [ff_1 (c + 1) N (by omega)]
        have e6 : fc_X2_readCommand F σ1 = some (0, σ1) := by
          unfold fc_X2_readCommand
          rw [if_neg (by rw [e5]; decide)]
        rw [e6, bd2_s]
        obtain ⟨N, rfl⟩ : ∃ N', N = N' + 1 := ⟨N - 1, by omega⟩
        exact ff_0 _ _
/-- the text of both sides -/
def TxC (σ : CSt) (τ : MS) : Prop := ∃ (T : Nat → Int32) (n : Nat), TxS σ T n ∧ TxM τ T n ∧ ∀ j, j < n → ¬ T j = -1000
theorem flt (hF : 1000 ≤ F) (hS : TxS σ T n) (hT : TxM τ T n) (hB : ∀ j, j < n → ¬ T j = -1000) : ∃ (σ' : CSt) (τ' : MS) (x : Int32), KtX σ σ' ∧ Kr τ τ' ∧ fc_X2_findFault F σ = some (cs_tf σ', σ') ∧ fm_commands F τ 0 = some (x, τ') ∧ ((ms_fine τ' = 0 ∧ ∃ f : Nat, f ≤ n ∧ cs_tf σ' = I f ∧ ms_at τ' = I f) ∨ (ms_fine τ' = 1 ∧ cs_tf σ' = -1000 ∧ WF T n 121 0)) := by
  have hn := hS.2.1
  have K0 : KtX σ (cs_tf_s (cs_te_s (cs_tc_s σ 0) 0) (-1000)) := ((KtX_tc _).tr (KtX_te _)).tr (KtX_tf _)
  have R0 : Kr τ (ms_fine_s (ms_at_s τ 0) 1) := (Kr_at _).tr (Kr_fine _)
  obtain ⟨σ', τ', x, h1, h2, h3, h4, h5⟩ := dry (T := T) (n := n) hF hB 121 0 0 F F (cs_tf_s (cs_te_s (cs_tc_s σ 0) 0) (-1000)) (ms_fine_s (ms_at_s τ 0) 1) 0 (by omega) (by omega) (by omega) (by omega) (by omega) (K0.tx hS) rfl rfl rfl (R0.tx hT) rfl
  refine ⟨σ', τ', x, K0.tr h1, R0.tr h2, ?_, ?_, h5⟩
  · unfold fc_X2_findFault fc_X2_rewind
    rw [lt_r, lt_r, lt_r, bd_s]
    exact h3
  · unfold fm_commands
    rw [lt_r, lt_r]
    exact h4
theorem op_textFault (hF : 1000 ≤ F) (hX : TxC σ τ) : ∃ (r : Int32) (σ' : CSt) (τ' : MS), fc_X9_textFault F σ = some (r, σ') ∧ fm_textFault F τ = some (r, τ') ∧ KtX σ σ' ∧ Kr τ τ' := by
  obtain ⟨T, n, hS, hT, hB⟩ := hX
  obtain ⟨σ', τ', x, h1, h2, h3, h4, h5⟩ := flt hF hS hT hB
  refine ⟨cs_tf σ', σ', τ', ?_, ?_, h1, h2⟩
  · unfold fc_X9_textFault
    rw [h3, bd2_s]
  · unfold fm_textFault fm_textFault_L23
    rw [h4, bd2_s]
    rcases h5 with ⟨h5, f, -, h6, h7⟩ | ⟨h5, h6, -⟩
    · rw [if_pos h5, h6, h7]
    · rw [if_neg (by rw [h5]; decide), h6]
end U3
