/-! the class's cost; ways -/
section F2
variable {F : Nat} {σ : CSt} {A : GD} {c nb : Nat} {B : Nat → Int} {p go gs b0 s0 b1 s1 : Nat} {o0 o1 : Int}
theorem sc_rest (h : SrC σ A p go gs) {i : Nat} (hi : i < 4) : fc_X8_restAtGoal F σ (I i) = some (if i = gs then 1000000 else I (enB (GA A p go gs) i : Nat)) := by
  obtain ⟨-, h1, h2, -, -, h3, h4⟩ := h
  have hop := sc_opp (F := F) (σ := σ) gs h4
  have e1 : (I i = I gs) = (i = gs) := by
    rw [I_eq (by omega) (by omega) (by omega) (by omega)]
    exact propext ⟨fun q => by omega, fun q => by omega⟩
  have e2 : (I i = I (opp gs : Nat)) = (i = opp gs) := by
    have := opp_lt gs
    rw [I_eq (by omega) (by omega) (by omega) (by omega)]
    exact propext ⟨fun q => by omega, fun q => by omega⟩
  simp only [fc_X8_restAtGoal, fc_X8_restAtGoal_L30, h3, hop, bd_s, e1, e2, h1]
  by_cases c1 : i = gs
  · rw [if_pos c1, if_pos c1]
  · rw [if_neg c1, if_neg c1]
    show _ = some (I ((if i = opp gs then 0 else p : Nat) : Int))
    by_cases c2 : i = opp gs
    · rw [if_pos c2, if_pos c2]; rfl
    · rw [if_neg c2, if_neg c2]
/-- what finding the cost leaves -/
def Fnd (σ σ1 : CSt) (A : GD) (p b0 s0 : Nat) (o0 : Int) (b1 s1 : Nat) (o1 : Int) (rs : Nat → Int32) (st go : Nat) (cf : Nat → Nat) : Prop := Kf σ σ1 ∧ G17 σ1 ∧ SrC σ1 A p go s1 ∧ cs_fstart σ1 = I st ∧ cs_fss σ1 = I s0 ∧ NdP A st b0 s0 o0 ∧ NdP A go b1 s1 o1 ∧ FinC A p go s1 rs (4 * st + s0) cf
theorem sc_find (hF : 2000 ≤ F) (h : CnC σ c nb B p b0 s0 o0 b1 s1 o1) (h17 : G17 σ) : ∃ (σ1 : CSt) (rs hd nx pv : Nat → Int32) (re : Int32) (st go : Nat) (cf : Nat → Nat), fc_X8_findCost F σ (I c) = some (if cf (4 * st + s0) < 1000000 then I ((2 + cf (4 * st + s0) : Nat) : Int) else -1000, wSt σ1 rs hd nx pv re) ∧ Fnd σ σ1 (GDn nb B b0 s0 o0 b1 s1 o1) p b0 s0 o0 b1 s1 o1 rs st go cf := by
  obtain ⟨σ1, rs, hd, nx, pv, st, go, f1, f2, f3, f4, f5, f6, f7, f8, f9⟩ := sc_prepare hF h h17
  obtain ⟨hgk, -, -⟩ := h.1.nd
  have hs0 : s0 < 4 := h.1.2.2.2.1.2.1
  generalize GDn nb B b0 s0 o0 b1 s1 o1 = A at *
  have hst := inG_lt hgk f7.1
  have hgo := inG_lt hgk f8.1
  have e1 : I st * 4 + I s0 = I ((4 * st + s0 : Nat) : Int) := by
    rw [I_4, I_mul, I_add]
    exact congrArg I (by omega)
  have e2 : fc_X8_findCost F σ (I c) = fc_X8_findCost_L21 F F (wSt σ1 rs hd nx pv 0) (I ((4 * st + s0 : Nat) : Int)) 0 := by
    have q1 : cs_fstart (wSt σ1 rs hd nx pv 0) = I st := f5
    have q2 : cs_fss (wSt σ1 rs hd nx pv 0) = I s0 := f6
    simp only [fc_X8_findCost, f1, bd_s, q1, q2, fc_X8_stateOf, e1]
  rw [e2]
  suffices hs : ∃ (rs' hd' nx' pv' : Nat → Int32) (re' : Int32) (cf : Nat → Nat), fc_X8_findCost_L21 F F (wSt σ1 rs hd nx pv 0) (I ((4 * st + s0 : Nat) : Int)) 0 = some (if cf (4 * st + s0) < 1000000 then I ((2 + cf (4 * st + s0) : Nat) : Int) else -1000, wSt σ1 rs' hd' nx' pv' re') ∧ FinC A p go s1 rs' (4 * st + s0) cf by
    obtain ⟨rs', hd', nx', pv', re', cf, g1, g2⟩ := hs
    exact ⟨σ1, rs', hd', nx', pv', re', st, go, cf, g1, f2, f3, f4, f5, f6, f7, f8, g2⟩
  refine lp_inv (P := fun d a => d ≤ 4 ∧ ∃ (rs' hd' nx' pv' : Nat → Int32) (W' : Nat → Prop) (c' : Nat → Nat), a = (wSt σ1 rs' hd' nx' pv' 0, I ((4 * st + s0 : Nat) : Int), I ((4 - d : Nat) : Int)) ∧ DJ A p go s1 rs' hd' nx' pv' 0 W' (fun _ => False) c' 0 0 4 (4 - d)) (Q := fun q => ∃ (rs' hd' nx' pv' : Nat → Int32) (re' : Int32) (cf : Nat → Nat), q = some (if cf (4 * st + s0) < 1000000 then I ((2 + cf (4 * st + s0) : Nat) : Int) else -1000, wSt σ1 rs' hd' nx' pv' re') ∧ FinC A p go s1 rs' (4 * st + s0) cf) (fun d a hp => ?_) F 4 _ (by omega) ⟨Nat.le_refl _, rs, hd, nx, pv, _, _, rfl, by rw [Nat.sub_self]; exact f9⟩
  obtain ⟨hd4, rs', hd', nx', pv', W', c', rfl, hJ⟩ := hp
  cases d with
  | zero =>
    refine Or.inl fun rec => ?_
    have e7 : (4 : Int32) ≤ I ((4 - 0 : Nat) : Int) := by decide
    have := sc_search (F := F) (σ := σ1) hF f4 (st := 4 * st + s0) (by omega) hJ (fun _ q => q)
    simp only [fc_X8_findCost_L21_c, e7, if_true]
    exact this
  | succ d =>
    have hj1 : 4 - d = 4 - (d + 1) + 1 := by omega
    have hj4 : 4 - (d + 1) < 4 := by omega
    generalize 4 - (d + 1) = i at hJ hj1 hj4 ⊢
    have e7 : ¬ (4 : Int32) ≤ I i := by rw [I_4, I_le] <;> omega
    have e8 : cs_fgoal (wSt σ1 rs' hd' nx' pv' 0) = I go := f4.2.2.2.1
    have e9 : I go * 4 + I i = I ((4 * go + i : Nat) : Int) := by
      rw [I_4, I_mul, I_add]
      exact congrArg I (by omega)
    have er := sc_rest (F := F) (σ := wSt σ1 rs' hd' nx' pv' 0) (A := A) (p := p) (go := go) (gs := s1) f4 hj4
    by_cases q : i = s1
    · rw [if_pos q] at er
      have eo := sc_offerF (F := F) (σ := σ1) hJ (u := 4 * go + i) (by omega)
      refine Or.inr ⟨d, (wSt σ1 rs' hd' nx' pv' 0, I ((4 * st + s0 : Nat) : Int), I ((i + 1 : Nat) : Int)), by omega, ⟨by omega, rs', hd', nx', pv', W', c', by rw [hj1], by rw [hj1]; exact ⟨dj_ext6 hJ.1 (fun z => absurd q z), hJ.2⟩⟩, fun rec => ?_⟩
      simp only [fc_X8_findCost_L21_c, e7, if_false, e8, fc_X8_stateOf, e9, bd_s, er, eo, lt_r, I_S]
    · rw [if_neg q] at er
      have hle := enB_le (GA A p go s1) i
      have hp50 : g_p (GA A p go s1) ≤ 50 := f4.2.2.1
      have n1 : (4 * go + i) / 4 = go := by omega
      have n2 : (4 * go + i) % 4 = i := by omega
      obtain ⟨rs2, hd2, nx2, pv2, W2, c2, g1, g2, g3, g4, -⟩ := sc_offer (F := F) (σ := σ1) hJ (by omega) (u := 4 * go + i) (x := enB (GA A p go s1) i) (t := 0) (by omega) (by rw [n1]; exact f8.1) (by rw [n1, n2]; exact ⟨rfl, q, rfl⟩) (by omega) (by omega)
      refine Or.inr ⟨d, (wSt σ1 rs2 hd2 nx2 pv2 0, I ((4 * st + s0 : Nat) : Int), I ((i + 1 : Nat) : Int)), by omega, ⟨by omega, rs2, hd2, nx2, pv2, W2, c2, by rw [hj1], by rw [hj1]; exact ⟨dj_ext6 g2.1 (fun _ => ⟨g3, g4⟩), g2.2⟩⟩, fun rec => ?_⟩
      simp only [fc_X8_findCost_L21_c, e7, if_false, e8, fc_X8_stateOf, e9, bd_s, er, g1, lt_r, I_S]
end F2
def sco (a : Nat) (f : Nat → Nat) : Nat → Nat
  | 0 => a
  | i + 1 => f i
/-- a best way can be walked -/
theorem wlk_ex {G : GT} (hG : GOK G) : ∀ v n d, d < 4 → IsV G n d v → ∃ N D V T, Wlk G N D V T ∧ N 0 = n ∧ D 0 = d ∧ V 0 = v ∧ ∀ i, i < T → ¬ (N i = g_go G ∧ D i ≠ g_gs G ∧ V i = enB G (D i)) := by
  intro v
  induction v using Nat.strongRecOn with
  | ind v ih =>
    intro n d hd h
    by_cases hst : n = g_go G ∧ d ≠ g_gs G ∧ v = enB G d
    · exact ⟨fun _ => n, fun _ => d, fun _ => v, 0, ⟨fun i _ => ⟨hd, h⟩, fun i hi => absurd hi (Nat.not_lt_zero _), hst.1, hst.2.1, hst.2.2⟩, rfl, rfl, rfl, fun i hi => absurd hi (Nat.not_lt_zero _)⟩
    · obtain ⟨⟨t, ht⟩, hmin⟩ := id h
      cases t with
      | zero => exact absurd ht hst
      | succ t =>
        obtain ⟨e, c', e1, e2, e3, e4, e5⟩ := ht
        have att : ∀ e t c', e < 4 → e ≠ opp d → g_op G n e = true → Rc G t (g_tg G n e) e c' → v = g_ln G n e + bnd (g_p G) d e + c' → IsV G (g_tg G n e) e c' := fun e t c' q1 q2 q3 q4 q5 => ⟨⟨t, q4⟩, fun t2 x hx => by
          have := hmin (t2 + 1) _ ⟨e, x, q1, q2, q3, hx, rfl⟩
          omega⟩
        generalize hq : (fun e => cdec (e ≠ opp d ∧ g_op G n e = true ∧ ∃ c', IsV G (g_tg G n e) e c' ∧ v = g_ln G n e + bnd (g_p G) d e + c')) = q
        have hex : anyN q 4 = true := anyN_ex.mpr ⟨e, e1, by rw [← hq]; exact cdec_t.mpr ⟨e2, e3, c', att e t c' e1 e2 e3 e4 e5, e5⟩⟩
        rw [anyN_fst, decide_eq_true_eq] at hex
        have hat := fstN_at hex
        have hno : ∀ k, k < fstN q 4 → q k = false := fun k hk => fstN_no hk
        generalize fstN q 4 = a at hex hat hno
        rw [← hq] at hat
        obtain ⟨a1, a2, c2, a3, a4⟩ := cdec_t.mp hat
        have hln := (hG n a hex a2).2.2.2.1
        obtain ⟨N, D, V, T, w1, w2, w3, w4, w5⟩ := ih c2 (by omega) (g_tg G n a) a hex a3
        obtain ⟨k1, k2, k3, k4, k5⟩ := w1
        refine ⟨sco n N, sco d D, sco v V, T + 1, ⟨fun i hi => ?_, fun i hi => ?_, k3, k4, k5⟩, rfl, rfl, rfl, fun i hi => ?_⟩
        · cases i with
          | zero => exact ⟨hd, h⟩
          | succ i => exact k1 i (by omega)
        · cases i with
          | zero =>
            refine ⟨by show D 0 ≠ opp d; rw [w3]; exact a1, by show g_op G n (D 0) = true; rw [w3]; exact a2, by show N 0 = g_tg G n (D 0); rw [w2, w3], by show v = g_ln G n (D 0) + bnd (g_p G) d (D 0) + V 0; rw [w3, w4]; exact a4, fun e' t' c3 r1 r2 r3 r4 => ?_⟩
            have r1' : e' < D 0 := r1
            rw [w3] at r1'
            have r5 := hmin (t' + 1) _ ⟨e', c3, by omega, r2, r3, r4, rfl⟩
            have r6 : v ≠ g_ln G n e' + bnd (g_p G) d e' + c3 := fun z => by
              have := hno e' r1'
              rw [← hq] at this
              have z2 : cdec (e' ≠ opp d ∧ g_op G n e' = true ∧ ∃ c', IsV G (g_tg G n e') e' c' ∧ v = g_ln G n e' + bnd (g_p G) d e' + c') = true := cdec_t.mpr ⟨r2, r3, c3, att e' t' c3 (by omega) r2 r3 r4 z, z⟩
              exact Bool.noConfusion (z2.symm.trans this)
            show v < g_ln G n e' + bnd (g_p G) d e' + c3
            omega
          | succ i => exact k2 i (by omega)
        · cases i with
          | zero => exact hst
          | succ i => exact w5 i (by omega)
