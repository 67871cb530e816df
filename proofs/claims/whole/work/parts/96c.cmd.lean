/-! the text: a command, the class's reading -/
section T9
variable {F : Nat} {σ σ' σ'' : CSt} {τ τ' τ'' : MS} {n p w : Nat} {T : Nat → Int32}
def KtX (σ σ' : CSt) : Prop := σ'.1 = σ.1 ∧ σ'.2.1 = σ.2.1 ∧ σ'.2.2.1 = σ.2.2.1 ∧ σ'.2.2.2.2.1 = σ.2.2.2.2.1 ∧ gsb σ' = gsb σ ∧ ggh σ' = ggh σ ∧ cs_tl σ' = cs_tl σ ∧ cs_tb σ' = cs_tb σ
theorem KtX.rf : KtX σ σ := ⟨rfl, rfl, rfl, rfl, rfl, rfl, rfl, rfl⟩
theorem KtX.tr (h : KtX σ σ') (h' : KtX σ' σ'') : KtX σ σ'' := by
  obtain ⟨a1, a2, a3, a4, a5, a6, a7, a8⟩ := h
  obtain ⟨b1, b2, b3, b4, b5, b6, b7, b8⟩ := h'
  exact ⟨b1.trans a1, b2.trans a2, b3.trans a3, b4.trans a4, b5.trans a5, b6.trans a6, b7.trans a7, b8.trans a8⟩
theorem KtX_tc (v : Int32) : KtX σ (cs_tc_s σ v) := ⟨rfl, rfl, rfl, rfl, rfl, rfl, rfl, rfl⟩
theorem KtX_te (v : Int32) : KtX σ (cs_te_s σ v) := ⟨rfl, rfl, rfl, rfl, rfl, rfl, rfl, rfl⟩
theorem KtX_tf (v : Int32) : KtX σ (cs_tf_s σ v) := ⟨rfl, rfl, rfl, rfl, rfl, rfl, rfl, rfl⟩
theorem KtX_tw (v : Int32) : KtX σ (cs_tw_s σ v) := ⟨rfl, rfl, rfl, rfl, rfl, rfl, rfl, rfl⟩
theorem KtX_tn (v : Nat → Int32) : KtX σ (cs_tn_s σ v) := ⟨rfl, rfl, rfl, rfl, rfl, rfl, rfl, rfl⟩
theorem KtX.tx (h : KtX σ σ') (hT : TxS σ T n) : TxS σ' T n := by
  obtain ⟨-, -, -, -, -, -, a7, a8⟩ := h
  unfold TxS at hT ⊢
  rw [a7, a8]
  exact hT
theorem KtX.core (h : KtX σ σ') (hC : Core σ τ) (h1 : ms_row τ' = ms_row τ) (h2 : ms_kept τ' = ms_kept τ) : Core σ' τ' := by
  obtain ⟨a1, a2, a3, -⟩ := h
  exact hC.kf (σ' := (σ'.1, σ'.2.1, σ'.2.2.1, σ.2.2.2.1, σ.2.2.2.2.1, σ.2.2.2.2.2.1, σ.2.2.2.2.2.2)) ⟨a1, a2, a3, rfl⟩ h1 h2
theorem KtX.g17 (h : KtX σ σ') (hG : G17 σ) : G17 σ' := by
  obtain ⟨-, -, -, a4, -⟩ := h
  have e : cs_goR σ' = cs_goR σ := by
    unfold cs_goR
    rw [a4]
  unfold G17 at hG ⊢
  rw [e]
  exact hG
def aW (w : Nat) : Nat := if w = 0 then 4 else if w = 1 then 6 else if w = 5 then 0 else 1
theorem aW_eq (hw : w < 6) : tNW w = I (aW w) := by
  rcases j6 hw with rfl | rfl | rfl | rfl | rfl | rfl <;> rfl
theorem aW_le (hw : w < 6) : aW w ≤ 6 := by
  rcases j6 hw with rfl | rfl | rfl | rfl | rfl | rfl <;> decide
def ag (T : Nat → Int32) (n p : Nat) : Nat → Nat
  | 0 => p
  | k + 1 => nmE T n (ag T n p k)
theorem ag_le (hp : p ≤ n) : ∀ k, ag T n p k ≤ n
  | 0 => hp
  | k + 1 => nmE_le (ag_le hp k)
def PA (T : Nat → Int32) (n p w f : Nat) : Prop := (∃ i, i < aW w ∧ (∀ j, j < i → nmK T n (ag T n p j) = true) ∧ nmK T n (ag T n p i) = false ∧ f = nmQ T n (ag T n p i)) ∨ ((∀ j, j < aW w → nmK T n (ag T n p j) = true) ∧ f = nmQ T n (ag T n p (aW w)) ∧ f < n ∧ ¬ T f = 59)
/-- where a command has its fault -/
def PF (T : Nat → Int32) (n p f : Nat) : Prop := (wdW T n p = -1 ∧ f = nmQ T n p) ∨ ∃ w : Nat, w < 6 ∧ wdW T n p = I w ∧ PA T n (wdE T n p) w f
/-- a command without fault, the place of what follows it -/
def PO (T : Nat → Int32) (n p w q : Nat) : Prop := w < 6 ∧ wdW T n p = I w ∧ (∀ j, j < aW w → nmK T n (ag T n (wdE T n p) j) = true) ∧ q = nmQ T n (ag T n (wdE T n p) (aW w)) ∧ (q < n → T q = 59)
theorem sc_sep (hF : 1000 ≤ F) (h : TxS σ T n) (hc : cs_tc σ = I p) (hp : p ≤ n) : fc_X2_readSeparator F σ = if nmQ T n p < n then (if T (nmQ T n p) = 59 then some (1, cs_tc_s σ (I ((nmQ T n p + 1 : Nat) : Int))) else some (0, cs_tf_s (cs_tc_s σ (I (nmQ T n p))) (I (nmQ T n p)))) else some (1, cs_te_s (cs_tc_s σ (I (nmQ T n p))) 1) := by
  have hq := nmQ_le (T := T) hp
  unfold fc_X2_readSeparator
  rw [sc_skip hF h hc hp, bd_s]
  obtain ⟨h1, h2, h3⟩ := h
  show (if I (nmQ T n p) < cs_tl σ then gd (ix (I (nmQ T n p)) 120 = true) (if cs_tb σ (I (nmQ T n p)).toNatClampNeg = 59 then some (1, cs_tc_s (cs_tc_s σ (I (nmQ T n p))) (I (nmQ T n p) + 1)) else some (0, cs_tf_s (cs_tc_s σ (I (nmQ T n p))) (I (nmQ T n p)))) else some (1, cs_te_s (cs_tc_s σ (I (nmQ T n p))) 1)) = _
  rw [h1]
  rcases Nat.lt_or_ge (nmQ T n p) n with y | y
  · have z1 : I (nmQ T n p) < I n := by rw [I_lt] <;> omega
    have ixk : ix (I (nmQ T n p)) 120 = true := of_eq_true (I_ix (by omega) (by omega) (by omega))
    have nk : (I (nmQ T n p)).toNatClampNeg = nmQ T n p := by rw [I_cl (by omega) (by omega)]; omega
    rw [if_pos z1, gd_t ixk, nk, h3 _ y, if_pos y, I_S]
    rfl
  · have z1 : ¬ I (nmQ T n p) < I n := by rw [I_lt] <;> omega
    rw [if_neg z1, if_neg (by omega)]
def ROk (F : Nat) (σ σ' : CSt) (T : Nat → Int32) (n p w q : Nat) : Prop := cs_tf σ' = cs_tf σ ∧ cs_tw σ' = I w ∧ (∀ j, j < aW w → cs_tn σ' j = nmA T n (ag T n p j)) ∧ (q < n → cs_te σ' = 0 ∧ cs_tc σ' = I ((q + 1 : Nat) : Int)) ∧ (n ≤ q → cs_te σ' = 1)
theorem sc_args (hF : 1000 ≤ F) (hw : w < 6) (hp : p ≤ n) : ∀ (d k N : Nat) (σ : CSt), k + d = aW w → d < N → TxS σ T n → cs_tc σ = I (ag T n p k) → cs_te σ = 0 → cs_tw σ = I w → (∀ j, j < k → cs_tn σ j = nmA T n (ag T n p j) ∧ nmK T n (ag T n p j) = true) → ∃ σ', KtX σ σ' ∧ ((fc_X2_readCommand_L29 F N σ (I k) = some (0, σ') ∧ ∃ f, PA T n p w f ∧ cs_tf σ' = I f) ∨ (fc_X2_readCommand_L29 F N σ (I k) = some (1, σ') ∧ ∃ q, (∀ j, j < aW w → nmK T n (ag T n p j) = true) ∧ q = nmQ T n (ag T n p (aW w)) ∧ (q < n → T q = 59) ∧ ROk F σ σ' T n p w q)) := by
  have h6 := aW_le hw
  intro d
  induction d with
  | zero =>
    intro k N σ hk hN hT hc he htw hj
    obtain ⟨N, rfl⟩ : ∃ N', N = N' + 1 := ⟨N - 1, by omega⟩
    have hk : k = aW w := by omega
    subst hk
    have ixw : ix (I w) 6 = true := of_eq_true (I_ix (by omega) (by omega) (by omega))
    have nw : (I w).toNatClampNeg = w := by rw [I_cl (by omega) (by omega)]; omega
    have hq := ag_le (T := T) hp (aW w)
    have e0 : fc_X2_readCommand_L29 F (N + 1) σ (I (aW w)) = bd2 (fc_X2_readSeparator F σ) (fun r70 σ70 => gd (r70 = 0 ∨ r70 = 1) (some (r70, σ70))) := by
      show fc_X2_readCommand_L29_c F (fc_X2_readCommand_L29 F N) σ (I (aW w)) = _
      unfold fc_X2_readCommand_L29_c
      rw [htw, gd_t ixw, nw, aW_eq hw, if_pos (i_rf _)]
    rw [e0, sc_sep hF hT hc hq]
    by_cases y : nmQ T n (ag T n p (aW w)) < n
    · rw [if_pos y]
      by_cases y2 : T (nmQ T n (ag T n p (aW w))) = 59
      · rw [if_pos y2, bd2_s, gd_t (Or.inr rfl)]
        exact ⟨_, KtX_tc _, Or.inr ⟨rfl, _, fun j h => (hj j h).2, rfl, fun _ => y2, rfl, htw, fun j h => (hj j h).1, fun _ => ⟨he, rfl⟩, fun z => absurd z (by omega)⟩⟩
      · rw [if_neg y2, bd2_s, gd_t (Or.inl rfl)]
        exact ⟨_, (KtX_tc _).tr (KtX_tf _), Or.inl ⟨rfl, _, Or.inr ⟨fun j h => (hj j h).2, rfl, y, y2⟩, rfl⟩⟩
    · rw [if_neg y, bd2_s, gd_t (Or.inr rfl)]
      exact ⟨_, (KtX_tc _).tr (KtX_te _), Or.inr ⟨rfl, _, fun j h => (hj j h).2, rfl, fun z => absurd z y, rfl, htw, fun j h => (hj j h).1, fun z => absurd z y, fun _ => rfl⟩⟩
  | succ d ih =>
    intro k N σ hk hN hT hc he htw hj
    obtain ⟨N, rfl⟩ : ∃ N', N = N' + 1 := ⟨N - 1, by omega⟩
    have ixw : ix (I w) 6 = true := of_eq_true (I_ix (by omega) (by omega) (by omega))
    have nw : (I w).toNatClampNeg = w := by rw [I_cl (by omega) (by omega)]; omega
    have ixk : ix (I k) 6 = true := of_eq_true (I_ix (by omega) (by omega) (by omega))
    have nk : (I k).toNatClampNeg = k := by rw [I_cl (by omega) (by omega)]; omega
    have hq := ag_le (T := T) hp k
    have z1 : ¬ I (aW w) ≤ I k := by rw [I_le] <;> omega
    have e0 : fc_X2_readCommand_L29 F (N + 1) σ (I k) = bd2 (fc_X2_readNumber F σ) (fun r47 σ47 => if upd (cs_tn σ47) k r47 k = -1 then some (0, cs_tn_s σ47 (upd (cs_tn σ47) k r47)) else fc_X2_readCommand_L29 F N (cs_tn_s σ47 (upd (cs_tn σ47) k r47)) (I ((k + 1 : Nat) : Int))) := by
      show fc_X2_readCommand_L29_c F (fc_X2_readCommand_L29 F N) σ (I k) = _
      unfold fc_X2_readCommand_L29_c
      rw [htw, gd_t ixw, nw, aW_eq hw, if_neg z1]
      simp only [gd_t ixk, lt_r, I_S, sc_tn, nk]
      rfl
    rw [e0, sc_number hF hT hc hq]
    cases hK : nmK T n (ag T n p k) with
    | false =>
      rw [if_neg (by decide), bd2_s]
      have u1 : upd (cs_tn (cs_tf_s (cs_tc_s σ (I (nmE T n (ag T n p k)))) (I (nmQ T n (ag T n p k))))) k (-1) k = -1 := if_pos rfl
      rw [if_pos u1]
      exact ⟨_, ((KtX_tc _).tr (KtX_tf _)).tr (KtX_tn _), Or.inl ⟨rfl, _, Or.inl ⟨k, by omega, fun j h => (hj j h).2, hK, rfl⟩, rfl⟩⟩
    | true =>
      rw [if_pos rfl, bd2_s]
      have u1 : upd (cs_tn (cs_tc_s σ (I (nmE T n (ag T n p k))))) k (nmA T n (ag T n p k)) k = nmA T n (ag T n p k) := if_pos rfl
      rw [u1, if_neg (nmA_m1 hK)]
      have K1 : KtX σ (cs_tn_s (cs_tc_s σ (I (nmE T n (ag T n p k)))) (upd (cs_tn (cs_tc_s σ (I (nmE T n (ag T n p k))))) k (nmA T n (ag T n p k)))) := (KtX_tc _).tr (KtX_tn _)
      obtain ⟨σ', g1, g2⟩ := ih (k + 1) N _ (by omega) (by omega) (K1.tx hT) rfl he htw (fun j h => by
        by_cases y : j = k
        · subst y
          exact ⟨if_pos rfl, hK⟩
        · exact ⟨(if_neg y).trans (hj j (by omega)).1, (hj j (by omega)).2⟩)
      exact ⟨σ', K1.tr g1, g2⟩
theorem wdW_ok : wdW T n p = -1 ∨ ∃ w : Nat, w < 6 ∧ wdW T n p = I w ∧ ¬ I w = -1 := by
  unfold wdW wdN
  cases spB T (nmQ T n p) (wdE T n p) 0 with
  | true => exact Or.inr ⟨0, by omega, rfl, by decide⟩
  | false =>
    cases spB T (nmQ T n p) (wdE T n p) 1 with
    | true => exact Or.inr ⟨1, by omega, rfl, by decide⟩
    | false =>
      cases spB T (nmQ T n p) (wdE T n p) 2 with
      | true => exact Or.inr ⟨2, by omega, rfl, by decide⟩
      | false =>
        cases spB T (nmQ T n p) (wdE T n p) 3 with
        | true => exact Or.inr ⟨3, by omega, rfl, by decide⟩
        | false =>
          cases spB T (nmQ T n p) (wdE T n p) 4 with
          | true => exact Or.inr ⟨4, by omega, rfl, by decide⟩
          | false =>
            cases spB T (nmQ T n p) (wdE T n p) 5 with
            | true => exact Or.inr ⟨5, by omega, rfl, by decide⟩
            | false => exact Or.inl rfl
/-- the class reads a command -/
theorem sc_cmd (hF : 1000 ≤ F) (hT : TxS σ T n) (hc : cs_tc σ = I p) (hp : p ≤ n) (he : cs_te σ = 0) : ∃ σ', KtX σ σ' ∧ ((fc_X2_readCommand F σ = some (0, σ') ∧ ∃ f, PF T n p f ∧ cs_tf σ' = I f) ∨ (fc_X2_readCommand F σ = some (1, σ') ∧ ∃ w q : Nat, PO T n p w q ∧ ROk F σ σ' T n (wdE T n p) w q)) := by
  unfold fc_X2_readCommand
  rw [if_pos he, sc_readWord hF hT hc hp]
  rcases wdW_ok (T := T) (n := n) (p := p) with y | ⟨w, hw, y, y1⟩
  · rw [if_pos y, bd2_s, lt_r]
    refine ⟨_, ((KtX_tc _).tr (KtX_tf _)).tr (KtX_tw _), Or.inl ⟨if_pos rfl, _, Or.inl ⟨y, rfl⟩, rfl⟩⟩
  · rw [y, if_neg y1, bd2_s, lt_r]
    have K1 : KtX σ (cs_tw_s (cs_tc_s σ (I (wdE T n p))) (I w)) := (KtX_tc _).tr (KtX_tw _)
    have h6 := aW_le hw
    obtain ⟨σ', g1, g2⟩ := sc_args hF hw (wdE_le (T := T) hp) (aW w) 0 F _ (by omega) (by omega) (K1.tx hT) rfl he rfl (fun j h => absurd h (Nat.not_lt_zero _))
    have e1 : (if cs_tw (cs_tw_s (cs_tc_s σ (I (wdE T n p))) (I w)) = -1 then some ((0 : Int32), cs_tw_s (cs_tc_s σ (I (wdE T n p))) (I w)) else fc_X2_readCommand_L29 F F (cs_tw_s (cs_tc_s σ (I (wdE T n p))) (I w)) 0) = fc_X2_readCommand_L29 F F (cs_tw_s (cs_tc_s σ (I (wdE T n p))) (I w)) (I ((0 : Nat) : Int)) := if_neg y1
    rw [e1]
    refine ⟨σ', K1.tr g1, ?_⟩
    rcases g2 with ⟨g3, f, g4, g5⟩ | ⟨g3, q, g4, g5, g6, g7⟩
    · exact Or.inl ⟨g3, f, Or.inr ⟨w, hw, y, g4⟩, g5⟩
    · exact Or.inr ⟨g3, w, q, ⟨hw, y, g4, g5, g6⟩, g7⟩
end T9
