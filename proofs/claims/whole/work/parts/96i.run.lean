/-! run: the loop -/
section U6
variable {F : Nat} {σ σ' : CSt} {τ τ' : MS} {n p w q f : Nat} {T : Nat → Int32}
theorem Kp.tx (h : Kp σ σ') (hT : TxS σ T n) : TxS σ' T n := by
  have e1 : cs_tl σ' = cs_tl σ := congrArg (fun q : CT_tx => q.1) h.1
  have e2 : cs_tb σ' = cs_tb σ := congrArg (fun q : CT_tx => q.2.1) h.1
  unfold TxS at hT ⊢
  rw [e1, e2]
  exact hT
theorem Kp.tc (h : Kp σ σ') : cs_tc σ' = cs_tc σ := congrArg (fun q : CT_tx => q.2.2.2.2.1) h.1
theorem Kp.te (h : Kp σ σ') : cs_te σ' = cs_te σ := congrArg (fun q : CT_tx => q.2.2.2.2.2.1) h.1
theorem Km.tx (h : Km τ τ') (hT : TxM τ T n) : TxM τ' T n := by
  obtain ⟨a1, a2, -⟩ := h
  unfold TxM at hT ⊢
  rw [a1, a2]
  exact hT
theorem run_1 (c N : Nat) (x : Int32) (hc : c < 120) : fc_X9_run_L37 F (N + 1) σ x (I c) = bd2 (fc_X2_readCommand F σ) (fun r47 σ47 => if r47 = 0 then fc_X9_run_L89 F σ47 x else bd2 (fc_X9_carryOut_44 F σ47 (cs_tw σ47)) (fun r68 σ68 => bd (fc_X9_isError F σ68 r68) (fun r71 => if r71 = 0 then fc_X9_run_L37 F N σ68 (x + 1) (I ((c + 1 : Nat) : Int)) else fc_X9_run_L89 F σ68 x))) := by
  show fc_X9_run_L37_c F (fc_X9_run_L37 F N) σ x (I c) = _
  unfold fc_X9_run_L37_c
  have y : ¬ 120 ≤ I c := by rw [show (120 : Int32) = I 120 from rfl, I_le] <;> omega
  rw [if_neg y, I_S]
  rfl
theorem sc_isErr (r : Int32) : fc_X9_isError F σ r = some (if r < -1000 then 1 else 0) := by
  unfold fc_X9_isError fc_X9_isError_L12
  by_cases y : -1000 ≤ r
  · rw [if_pos y, if_neg (fun z => i_lt.mp z y), gd_t (Or.inl rfl)]
  · rw [if_neg y, if_pos (i_lt.mpr y), gd_t (Or.inr rfl)]
def RunR (σ σ' : CSt) (τ τ' : MS) (T : Nat → Int32) (n a : Nat) : Prop := Core σ' τ' ∧ G17 σ' ∧ TxS σ' T n ∧ TxM τ' T n ∧ gsb σ' = gsb σ ∧ ms_out τ' = ms_out τ ∧ ms_outMany τ' = ms_outMany τ ∧ GhR σ σ' (3 * a) (135 * a)
theorem runs (hF : 1000000000000 ≤ F) (hB : ∀ j, j < n → ¬ T j = -1000) : ∀ (d p c N M a0 : Nat) (σ : CSt) (τ : MS) (x : Int32), WF T n d p → p ≤ n → 4 * c ≤ p → d + 1 < N → d < M → TxS σ T n → cs_tc σ = I p → cs_te σ = 0 → TxM τ T n → ms_at τ = I p → Core σ τ → cs_run σ = 1 → ms_silent τ = 1 → G17 σ → 13 * a0 + 9 * stl σ ≤ 90 + 10 * p → ∃ (r : Int32) (σ' : CSt) (τ' : MS) (a : Nat), fc_X9_run_L37 F N σ x (I c) = some (r, cs_run_s σ' 0) ∧ fm_commands_L14 F M τ 1 x 1 = some (r, τ') ∧ RunR σ σ' τ τ' T n a ∧ 13 * (a0 + a) ≤ 90 + 10 * (n + 1) := by
  intro d
  induction d with
  | zero => intro p c N M a0 σ τ x h; exact absurd h (fun z => z)
  | succ d ih =>
    intro p c N M a0 σ τ x hW hp hc4 hN hM hS htc hte hT hat hC hru hsi h17 hpot
    have hn := hS.2.1
    obtain ⟨w, q, hO, hWn⟩ := hW
    obtain ⟨N, rfl⟩ : ∃ N', N = N' + 2 := ⟨N - 2, by omega⟩
    obtain ⟨M, rfl⟩ : ∃ M', M = M' + 2 := ⟨M - 2, by omega⟩
    obtain ⟨adv, hqn⟩ := PO_adv hO hp
    have hcst := PO_cst hO hp
    obtain ⟨σ1, K1, hcs⟩ := sc_cmd (F := F) (by omega) hS htc hp hte
    rcases hcs with ⟨-, f, hf, -⟩ | ⟨e1, w', q', hO', r1, r2, r3, r4, r5⟩
    · exact absurd (PO_PF hO hf) id
    obtain ⟨rfl, rfl⟩ := PO_uq hO hO'
    obtain ⟨τ1, R1, hcm⟩ := sm_cmd (F := F) (x1 := 1) (by omega) hT hat hp
    obtain ⟨b1, b2, b3, b4, b5⟩ := id hO
    rcases hcm with ⟨z, -⟩ | ⟨w2, c1, c2, c3, c4⟩
    · exact absurd (b2.symm.trans z) (fun z => I6_m1 b1 z)
    have := I6_inj c1 b1 (c2.symm.trans b2)
    subst this
    rcases c4 with ⟨c4, c5, c6⟩ | ⟨-, i, i1, -, i2, -⟩
    case inr => exact absurd ((b3 i i1).symm.trans i2) (by decide)
    have hC1 : Core σ1 τ1 := K1.core hC R1.1 R1.2.1
    have hru1 : cs_run σ1 = 1 := by
      have : cs_run σ1 = cs_run σ := congrArg (fun q : CT_hi => q.2.2) K1.2.2.1
      rw [this, hru]
    have hsi1 : ms_silent τ1 = 1 := R1.2.2.2.2.2.2.trans hsi
    have hs1 : stl σ1 = stl σ := stl_cg K1.1
    obtain ⟨r, σ2, τ2, d1, d2, dC, dP, dM, a, dG, dS⟩ := carry hF hC1 (Or.inr ⟨hru1, hsi1⟩) (K1.g17 h17) b1 (fun j hj => (r3 j hj).trans (c6 j hj).1.symm) c4
    have hT2 : TxM τ2 T n := dM.tx (R1.tx hT)
    have hf2 : ms_fine τ2 = 1 := dM.2.2.2.1.trans c4
    have hat2 : ms_at τ2 = I (ag T n (wdE T n p) (aW w2)) := dM.2.2.1.trans c5
    have hS2 : TxS σ2 T n := dP.tx (K1.tx hS)
    have hsb : gsb σ2 = gsb σ := dP.2.1.trans K1.2.2.2.2.1
    have hG : GhR σ σ2 (3 * a) (135 * a) := by
      have := (GhR.eq K1.2.2.2.2.2.1).tr dG
      rwa [Nat.zero_add, Nat.zero_add] at this
    have ho : ms_out τ2 = ms_out τ := dM.2.2.2.2.2.1.trans R1.2.2.2.2.1
    have hom : ms_outMany τ2 = ms_outMany τ := dM.2.2.2.2.2.2.1.trans R1.2.2.2.2.2.1
    have hru2 : cs_run σ2 = 1 := dP.2.2.1.trans hru1
    have hsi2 : ms_silent τ2 = 1 := dM.2.2.2.2.2.2.2.trans hsi1
    have h172 : G17 σ2 := dP.2.2.2 (K1.g17 h17)
    rw [run_1 c (N + 1) x (by omega), e1, bd2_s, if_neg (show ¬ (1 : Int32) = 0 by decide), r2, d1, bd2_s, sc_isErr, bd_s]
    have em : ∀ k : KM, fm_commands_L14_c F k τ 1 x 1 = if r < -1000 then fm_commands_L45 F k τ2 1 x 0 else fm_commands_L45 F k τ2 1 x 1 := fun k => by
      unfold fm_commands_L14_c fm_commands_L44
      rw [if_neg (show ¬ (1 : Int32) = 0 by decide), c3, d2, bd2_s, if_neg (show ¬ ms_fine τ2 = 0 by rw [hf2]; decide)]
    have hst : fm_commands_L14 F (M + 2) τ 1 x 1 = fm_commands_L14_c F (fm_commands_L14 F (M + 1)) τ 1 x 1 := rfl
    rw [hst, em]
    have hag : ag T n (wdE T n p) (aW w2) ≤ n := ag_le (wdE_le hp) _
    by_cases y : r < -1000
    · rw [if_pos y, if_pos y, if_neg (show ¬ (1 : Int32) = 0 by decide)]
      obtain ⟨τ3, g1, g2⟩ := cT_1 (F := F) (x1 := 1) (x2 := x) (x5 := 0) (by omega) hT2 hB hf2 hat2 hag (Or.inl rfl)
      have gk : fm_commands_L45 F (fm_commands_L14 F (M + 1)) τ2 1 x 0 = some (x, τ3) := by
        have e9 : x + 0 = x := Int32.add_zero _
        rcases g2 with ⟨-, -, -, -, g5⟩ | ⟨-, -, -, -, g5⟩ | ⟨-, -, g5⟩
        · rw [g5, cm_0, e9]
        · rw [g5, cm_0, e9]
        · rw [g5, cm_0, e9]
      refine ⟨x, σ2, τ3, a, rfl, gk, ⟨?_, h172, hS2, g1.tx hT2, hsb, g1.2.2.2.2.1.trans ho, g1.2.2.2.2.2.1.trans hom, hG⟩, ?_⟩
      · exact KtX.rf.core dC g1.1 g1.2.1
      · omega
    · rw [if_neg y, if_neg y, if_pos (show (0 : Int32) = 0 from rfl)]
      obtain ⟨τ3, g1, g2⟩ := cT_1 (F := F) (x1 := 1) (x2 := x) (x5 := 1) (by omega) hT2 hB hf2 hat2 hag (Or.inr rfl)
      have hC3 : Core σ2 τ3 := KtX.rf.core dC g1.1 g1.2.1
      rcases g2 with ⟨g3, g4, -, g6, g7⟩ | ⟨g3, g4, -⟩ | ⟨g3, -, g7⟩
      · rw [← b4] at g3 g6
        obtain ⟨t4, t5⟩ := r4 g3
        obtain ⟨r', σ', τ', a', k1, k2, ⟨k3, k4, k5, k6, k7, k8, k9, k10⟩, k11⟩ := ih (_ + 1) (c + 1) (N + 1) (M + 1) (a0 + a) σ2 τ3 (x + 1) (hWn g3) (by omega) (by omega) (by omega) (by omega) hS2 (dP.tc.trans t5) (dP.te.trans t4) (g1.tx hT2) g6 hC3 hru2 (g1.2.2.2.2.2.2.trans hsi2) h172 (by omega)
        refine ⟨r', σ', τ', a + a', k1, (g7 _).trans k2, ⟨k3, k4, k5, k6, k7.trans hsb, k8.trans (g1.2.2.2.2.1.trans ho), k9.trans (g1.2.2.2.2.2.1.trans hom), ?_⟩, by omega⟩
        exact (hG.tr k10).w (by omega) (by omega)
      · rw [← b4] at g3 g4
        exact absurd (b5 g3) g4
      · rw [← b4] at g3
        have t5 := dP.te.trans (r5 g3)
        have e6 : fc_X2_readCommand F σ2 = some (0, σ2) := by
          unfold fc_X2_readCommand
          rw [if_neg (by rw [t5]; decide)]
        refine ⟨x + 1, σ2, τ3, a, ?_, (g7 _).trans (cm_0 _ _ _), ⟨hC3, h172, hS2, g1.tx hT2, hsb, g1.2.2.2.2.1.trans ho, g1.2.2.2.2.2.1.trans hom, hG⟩, by omega⟩
        rw [run_1 (c + 1) N (x + 1) (by omega), e6, bd2_s, if_pos (show (0 : Int32) = 0 from rfl)]
        rfl
end U6
