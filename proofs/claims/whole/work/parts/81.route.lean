/-! one connector routed, both sides -/
theorem Core.kf {σ σ' : CSt} {τ τ' : MS} (h : Core σ τ) (hk : Kf σ σ') (h1 : ms_row τ' = ms_row τ) (h2 : ms_kept τ' = ms_kept τ) : Core σ' τ' := by
  obtain ⟨k1, k2, k3, -⟩ := hk
  have e1 : cs_cb σ' = cs_cb σ := congrArg (fun q : CT_cv => q.1) k1
  have e2 : cs_cc σ' = cs_cc σ := congrArg (fun q : CT_cv => q.2.1) k1
  have e3 : cs_cp σ' = cs_cp σ := congrArg (fun q : CT_cv => q.2.2.1) k1
  have e4 : cs_ce σ' = cs_ce σ := congrArg (fun q : CT_cv => q.2.2.2.1) k1
  have e5 : cs_cq σ' = cs_cq σ := congrArg (fun q : CT_cv => q.2.2.2.2.1) k1
  have e6 : cs_cr σ' = cs_cr σ := congrArg (fun q : CT_cv => q.2.2.2.2.2) k1
  have g1 : cs_kb σ' = cs_kb σ := congrArg (fun q : CT_kv => q.1) k2
  have g2 : cs_kc σ' = cs_kc σ := congrArg (fun q : CT_kv => q.2.1) k2
  have g3 : cs_kp σ' = cs_kp σ := congrArg (fun q : CT_kv => q.2.2.1) k2
  have g4 : cs_ke σ' = cs_ke σ := congrArg (fun q : CT_kv => q.2.2.2.1) k2
  have g5 : cs_kq σ' = cs_kq σ := congrArg (fun q : CT_kv => q.2.2.2.2.1) k2
  have g6 : cs_kr σ' = cs_kr σ := congrArg (fun q : CT_kv => q.2.2.2.2.2) k2
  have i1 : cs_hs σ' = cs_hs σ := congrArg (fun q : CT_hi => q.1) k3
  have i2 : cs_ho σ' = cs_ho σ := congrArg (fun q : CT_hi => q.2.1) k3
  unfold Core CurC Hist at h ⊢
  rw [e1, e2, e3, e4, e5, e6, g1, g2, g3, g4, g5, g6, i1, i2, h1, h2]
  exact h
/-- its route is the best one -/
def FrR (σ : CSt) (c : Nat) (v : RV) : Prop := ∃ (nb : Nat) (B : Nat → Int) (p b0 s0 : Nat) (o0 : Int) (b1 s1 : Nat) (o1 : Int), CnC σ c nb B p b0 s0 o0 b1 s1 o1 ∧ FrS nb B p b0 s0 o0 b1 s1 o1 v
def FreshC (σ : CSt) (c : Nat) : Prop := ∃ v, cs_cr σ c = some v ∧ FrR σ c v
section R1
variable {F : Nat} {σ : CSt} {τ : MS} {c nb nl : Nat} {B : Nat → Int} {p b0 s0 b1 s1 : Nat} {o0 o1 : Int}
theorem CnC.cg {σ' : CSt} (h : CnC σ c nb B p b0 s0 o0 b1 s1 o1) (e1 : cs_cb σ' = cs_cb σ) (e2 : cs_cp σ' = cs_cp σ) (e3 : cs_ce σ' = cs_ce σ) (e4 : cs_cq σ' = cs_cq σ) : CnC σ' c nb B p b0 s0 o0 b1 s1 o1 := by
  unfold CnC at h ⊢
  rw [e1, e2, e3, e4]
  exact h
theorem FrR.cg {σ' : CSt} {v : RV} (h : FrR σ c v) (e1 : cs_cb σ' = cs_cb σ) (e2 : cs_cp σ' = cs_cp σ) (e3 : cs_ce σ' = cs_ce σ) (e4 : cs_cq σ' = cs_cq σ) : FrR σ' c v := by
  obtain ⟨nb, B, p, b0, s0, o0, b1, s1, o1, h1, h2⟩ := h
  exact ⟨nb, B, p, b0, s0, o0, b1, s1, o1, h1.cg e1 e2 e3 e4, h2⟩
theorem CnC.uq {nb' p' b0' s0' b1' s1' : Nat} {B' : Nat → Int} {o0' o1' : Int} (h : CnC σ c nb B p b0 s0 o0 b1 s1 o1) (h' : CnC σ c nb' B' p' b0' s0' o0' b1' s1' o1') : nb' = nb ∧ B' = B ∧ p' = p ∧ b0' = b0 ∧ s0' = s0 ∧ o0' = o0 ∧ b1' = b1 ∧ s1' = s1 ∧ o1' = o1 := by
  obtain ⟨⟨n1, n2, n3, n4, n5⟩, -, x1, x2, x3, x4, x5, x6, x7, x8, x9⟩ := h
  obtain ⟨⟨m1, m2, m3, m4, m5⟩, -, y1, y2, y3, y4, y5, y6, y7, y8, y9⟩ := h'
  have bn : ∀ {a b : Nat}, a < 1000 → b < 1000 → I a = I b → a = b := fun ha hb e => by
    rw [I_eq (by omega) (by omega) (by omega) (by omega)] at e
    omega
  have z1 := bn (by omega) (by omega) (y1.symm.trans x1)
  have z3 := bn (by omega) (by omega) (y3.symm.trans x3)
  have ob : ∀ {nb : Nat} {B : Nat → Int} {b s : Nat} {o : Int}, PtI nb B b s o → (∀ k, k < nb → BxB B k) → 0 ≤ o ∧ o ≤ 99 ∧ b < nb ∧ s < 4 := fun {nb B b s o} h hB => by
    obtain ⟨q1, q2, q3, q4⟩ := h
    obtain ⟨⟨w2, w3, w4⟩, w5, w6, w7⟩ := hB b q1
    refine ⟨q3, ?_, q1, q2⟩
    split at q4 <;> omega
  obtain ⟨u1, u2, u3, u4⟩ := ob n4 n2
  obtain ⟨u5, u6, u7, u8⟩ := ob n5 n2
  obtain ⟨v1, v2, v3, v4⟩ := ob m4 m2
  obtain ⟨v5, v6, v7, v8⟩ := ob m5 m2
  have on : ∀ {a b : Int}, 0 ≤ a → a ≤ 99 → 0 ≤ b → b ≤ 99 → I a = I b → a = b := fun a1 a2 b1 b2 e => by
    rw [I_eq (by omega) (by omega) (by omega) (by omega)] at e
    exact e
  exact ⟨z1, y2.symm.trans x2, z3, bn (by omega) (by omega) (y4.symm.trans x4), bn (by omega) (by omega) (y5.symm.trans x5), on v1 v2 u1 u2 (y6.symm.trans x6), bn (by omega) (by omega) (y7.symm.trans x7), bn (by omega) (by omega) (y8.symm.trans x8), on v5 v6 u5 u6 (y9.symm.trans x9)⟩
theorem cn_of (hP : Cpl (ms_row τ) nb nl (cs_cp σ) (cs_ce σ) (cs_cq σ) (cs_cr σ)) (hV : Vld nb nl (cs_cp σ) (cs_ce σ) (cs_cq σ) (cs_cr σ)) (hb : cs_cb σ = I nb) (hc : c < nl) : ∃ (p b0 s0 : Nat) (o0 : Int) (b1 s1 : Nat) (o1 : Int), CnC σ c nb (bxI (cs_ce σ)) p b0 s0 o0 b1 s1 o1 ∧ CnM τ c nb (bxI (cs_ce σ)) p b0 s0 o0 b1 s1 o1 ∧ GpB nb (bxI (cs_ce σ)) ∧ ¬ (b0 = b1 ∧ s0 = s1 ∧ o0 = o1) := by
  obtain ⟨⟨v1, v1'⟩, v2, v3, v4, v5⟩ := hV
  have hnb := hP.1
  have hnl := hP.2.1
  have hB : ∀ k, k < nb → BxB (bxI (cs_ce σ)) k := fun k hk => (v2 k hk).bd
  have a1 := Int32.le_iff_toInt_le.mp v1
  have a2 := Int32.le_iff_toInt_le.mp v1'
  have a1' : 0 ≤ (cs_cp σ).toInt := a1
  have a2' : (cs_cp σ).toInt ≤ 50 := a2
  have hp : cs_cp σ = I (((cs_cp σ).toInt.toNat : Nat) : Int) := by
    rw [show ((cs_cp σ).toInt.toNat : Int) = (cs_cp σ).toInt by omega, I_of]
  obtain ⟨p1, p2, p3⟩ := v4 c hc
  obtain ⟨b0, s0, o0, q0, q1, q2, h0⟩ := p1.ex v2
  obtain ⟨b1, s1, o1, q3, q4, q5, h1⟩ := p2.ex v2
  have hD : CnD nb (bxI (cs_ce σ)) (cs_cp σ).toInt.toNat b0 s0 o0 b1 s1 o1 := ⟨hnb, hB, by omega, h0, h1⟩
  refine ⟨(cs_cp σ).toInt.toNat, b0, s0, o0, b1, s1, o1, ⟨hD, by omega, hb, rfl, hp, q0, q1, q2, q3, q4, q5⟩, ⟨hD, by omega, nl, cs_cp σ, cs_ce σ, cs_cq σ, cs_cr σ, hP, rfl, hp, q0, q1, q2, q3, q4, q5⟩, fun j k hj hk hjk => ?_, ?_⟩
  · have := v3 j k hj hk hjk
    obtain ⟨⟨w2, w3, w4⟩, w5, w6, w7⟩ := hB j hj
    obtain ⟨⟨x2, x3, x4⟩, x5, x6, x7⟩ := hB k hk
    unfold apB at this
    rw [bxI_I (cs_ce σ) (4 * j), bxI_I (cs_ce σ) (4 * j + 1), bxI_I (cs_ce σ) (4 * j + 2), bxI_I (cs_ce σ) (4 * j + 3), bxI_I (cs_ce σ) (4 * k), bxI_I (cs_ce σ) (4 * k + 1), bxI_I (cs_ce σ) (4 * k + 2), bxI_I (cs_ce σ) (4 * k + 3), I_2, I_add, I_add, I_add, I_add] at this
    simp (disch := omega) only [I_le, Bool.or_eq_true, decide_eq_true_eq] at this
    omega
  · rintro ⟨rfl, rfl, rfl⟩
    exact p3 ⟨q0.trans q3.symm, q1.trans q4.symm, q2.trans q5.symm⟩
/-- both find the same -/
def FdR (F : Nat) (σ σ' : CSt) (τ' : MS) (c : Nat) (r : Int32) (n : Nat) (X Y : Nat → Int) (fx fy : Nat → Int32) : Prop := n ≤ 66 ∧ fc_X8_walk F σ' = some (cSt σ' fx fy (I n)) ∧ (∀ k, k < n → fx k = I (X k)) ∧ (∀ k, k < n → fy k = I (Y k)) ∧ ms_wayMany τ' = I n ∧ (∀ k, k < n → ms_wayX τ' k = I (X k)) ∧ (∀ k, k < n → ms_wayY τ' k = I (Y k)) ∧ (∀ v, RtV v r n X Y → RouteOk v) ∧ ∀ v, RtV v r n X Y ↔ FrR σ c v
theorem fd_ok (hF : 1000000000000 ≤ F) (hP : Cpl (ms_row τ) nb nl (cs_cp σ) (cs_ce σ) (cs_cq σ) (cs_cr σ)) (hV : Vld nb nl (cs_cp σ) (cs_ce σ) (cs_cq σ) (cs_cr σ)) (hb : cs_cb σ = I nb) (hc : c < nl) (h17 : G17 σ) : ∃ (r : Int32) (σ' : CSt) (τ1 τ' : MS), fc_X8_findCost F σ (I c) = some (r, σ') ∧ fm_bestOf F τ (I c) = some (r, τ1) ∧ fm_finds F τ (I c) = some (r, τ') ∧ Kf σ σ' ∧ G17 σ' ∧ KmF τ τ1 ∧ KmF τ τ' ∧ (r = -1000 ∨ (r ≠ -1000 ∧ ∃ (n : Nat) (X Y : Nat → Int) (fx fy : Nat → Int32), FdR F σ σ' τ' c r n X Y fx fy)) := by
  obtain ⟨p, b0, s0, o0, b1, s1, o1, hCC, hCM, hG, hne⟩ := cn_of hP hV hb hc
  generalize bxI (cs_ce σ) = B at hCC hCM hG
  obtain ⟨σ1, rs, hd, nx, pv, re, st, go, cf, f1, f2, f3, f4, f5, f6, f7, f8, f9⟩ := sc_find (F := F) (by omega) hCC h17
  obtain ⟨τ1, z, g1, g2, g3, g4, g5⟩ := sm_best hF hCM f7 f8
  have hD := hCC.1
  have hgk := hD.nd.1
  have hs0 : s0 < 4 := hD.2.2.2.1.2.1
  have hK : Kf σ (wSt σ1 rs hd nx pv re) := f2.tr Kf_wSt
  have h17' : G17 (wSt σ1 rs hd nx pv re) := f3
  have hz0 := g5 st s0 f7.1 hs0
  rcases f9.2.2 with ⟨q1, q2, q3⟩ | ⟨q1, q2⟩
  · rw [show (4 * st + s0) / 4 = st by omega, show (4 * st + s0) % 4 = s0 by omega] at q2
    have hzc : z (4 * nd st + s0) = cf (4 * st + s0) := by
      obtain ⟨⟨t, ht⟩, hmin⟩ := q2
      have a1 := hz0.2 t _ ht
      obtain ⟨t2, ht2⟩ := hz0.1 (by omega)
      have := hmin _ _ ht2
      omega
    rw [hzc, if_pos (by omega)] at g1
    rw [if_pos (by omega)] at f1
    have er : I ((cf (4 * st + s0) + 2 : Nat) : Int) = I ((2 + cf (4 * st + s0) : Nat) : Int) := congrArg I (by omega)
    rw [er] at g1
    obtain ⟨N, D, V, T, hW, hV0⟩ := wkd_ex hD hG hne f7 f8 q2
    have hrn : I ((2 + cf (4 * st + s0) : Nat) : Int) ≠ -1000 := by
      rw [show (-1000 : Int32) = I (-1000) from rfl]
      intro q
      rw [I_eq] at q <;> omega
    have hwalk := fun {N D V : Nat → Nat} {T : Nat} (hW : WkD (GDn nb B b0 s0 o0 b1 s1 o1) p go s1 st s0 N D V T) => sc_walk (F := F) (σ := wSt σ1 rs hd nx pv re) (A := GDn nb B b0 s0 o0 b1 s1 o1) (b0 := b0) (b1 := b1) (o0 := o0) (o1 := o1) (by omega) f4 f5 f6 hs0 f9 (by omega) hW f7 f8
    obtain ⟨fx, fy, w1, w2, w3⟩ := hwalk hW
    have hn66 : nC (edir D s1 T) (T + 2) ≤ 66 := by
      have := hW.ch
      show 2 + cntN (chE (edir D s1 T)) (T + 1) ≤ 66
      omega
    obtain ⟨gx, gy, m1, m2, m3⟩ := sm_walk (F := F) (τ := τ1) (fx0 := upd (ms_wayX τ1) 0 (I (ptX B b0 s0 o0 0))) (fy0 := upd (ms_wayY τ1) 0 (I (ptY B b0 s0 o0 0))) (by omega) g3 g4 g5 (by omega) hW f7 f8 (I ((2 + cf (4 * st + s0) : Nat) : Int)) rfl rfl
    refine ⟨I ((2 + cf (4 * st + s0) : Nat) : Int), wSt σ1 rs hd nx pv re, τ1, _, f1, g1, ?_, hK, h17', g2, (g2.tr (KmF_wayX.tr (KmF_wayY.tr KmF_wayMany))), Or.inr ⟨hrn, nC (edir D s1 T) (T + 2), fun k => wyX (GDn nb B b0 s0 o0 b1 s1 o1) N T b0 s0 o0 b1 s1 o1 (cpF (edir D s1 T) (T + 2) k), fun k => wyY (GDn nb B b0 s0 o0 b1 s1 o1) N T b0 s0 o0 b1 s1 o1 (cpF (edir D s1 T) (T + 2) k), fx, fy, hn66, w1, w2, w3, rfl, m2, m3, fun v hv => wkd_ok hD f7 f8 hW hv, fun v => ⟨fun hv => ?_, fun hv => ?_⟩⟩⟩
    · obtain ⟨o1', o2'⟩ := sm_outer (F := F) (by omega) g3 f7 f8
      have hof := (g3.1.sd (F := F) τ1 rfl).2.2.2.1
      obtain ⟨⟨t1, t2⟩, -⟩ := g3.1.pt (F := F) (ms_wayMany_s τ1 0) rfl 0
      have t1' : fm_portOf F (ms_wayMany_s τ1 0) (I c) 0 1 0 = _ := t1
      have t2' : fm_portOf F (ms_wayMany_s τ1 0) (I c) 0 0 0 = _ := t2
      have hpp := sm_point (F := F) (τ := τ1) (fx := ms_wayX τ1) (fy := ms_wayY τ1) (n := 0) (by omega) (I (ptX B b0 s0 o0 0)) (I (ptY B b0 s0 o0 0))
      have hpp' : fm_point F (ms_wayMany_s τ1 0) (I (ptX B b0 s0 o0 0)) (I (ptY B b0 s0 o0 0)) = some (pSt τ1 (upd (ms_wayX τ1) 0 (I (ptX B b0 s0 o0 0))) (upd (ms_wayY τ1) 0 (I (ptY B b0 s0 o0 0))) (I ((1 : Nat) : Int))) := hpp
      unfold fm_finds
      rw [g1, bd2_s, if_neg hrn, o1', bd_s, o2', bd_s, hof, bd_s, lt_r, t1', bd_s, t2', bd_s, hpp', bd_s]
      exact m1
    · refine ⟨nb, B, p, b0, s0, o0, b1, s1, o1, hCC, st, go, N, D, V, T, f7, f8, hW, ?_⟩
      rw [hV0]
      exact hv
    · obtain ⟨nb', B', p', b0', s0', o0', b1', s1', o1', hC', st', go', N', D', V', T', h1, h2, h3, h4⟩ := hv
      obtain ⟨rfl, rfl, rfl, rfl, rfl, rfl, rfl, rfl, rfl⟩ := hCC.uq hC'
      have hst : st' = st := in_inj hgk h1.1 f7.1 (h1.2.1.trans f7.2.1.symm) (h1.2.2.trans f7.2.2.symm)
      have hgo : go' = go := in_inj hgk h2.1 f8.1 (h2.2.1.trans f8.2.1.symm) (h2.2.2.trans f8.2.2.symm)
      subst hst
      subst hgo
      obtain ⟨fx', fy', y1, y2, y3⟩ := hwalk h3
      have hcv := (h3.c hs0 f9 (by omega)).1
      have heq := Option.some.inj (w1.symm.trans y1)
      have hn : nC (edir D s1' T) (T + 2) = nC (edir D' s1' T') (T' + 2) := by
        have := congrArg cs_fcn heq
        rw [cSS_1, cSS_1] at this
        have h66 : nC (edir D' s1' T') (T' + 2) ≤ 66 := by
          have := h3.ch
          show 2 + cntN (chE (edir D' s1' T')) (T' + 1) ≤ 66
          omega
        rw [I_eq (by omega) (by omega) (by omega) (by omega)] at this
        omega
      have hfx : fx = fx' := by
        have := congrArg cs_fcx heq
        rw [cSS_2, cSS_2] at this
        exact this
      have hfy : fy = fy' := by
        have := congrArg cs_fcy heq
        rw [cSS_3, cSS_3] at this
        exact this
      refine ⟨by rw [h4.1, hcv], by rw [h4.2.1, hn], fun k hk => ?_⟩
      have hk' : k < nC (edir D' s1' T') (T' + 2) := by omega
      have r1 := h4.2.2 k hk'
      rw [r1.1, r1.2, ← w2 k hk, ← w3 k hk, hfx, hfy]
      exact ⟨(y2 k hk').symm, (y3 k hk').symm⟩
  · have hno : ¬ z (4 * nd st + s0) < 100000000 := fun q => by
      obtain ⟨t, ht⟩ := hz0.1 q
      rw [show (4 * st + s0) / 4 = st by omega, show (4 * st + s0) % 4 = s0 by omega] at q2
      exact q2 t _ ht
    rw [if_neg hno] at g1
    rw [if_neg (by omega)] at f1
    refine ⟨-1000, wSt σ1 rs hd nx pv re, τ1, τ1, f1, g1, ?_, hK, h17', g2, g2, Or.inl rfl⟩
    unfold fm_finds
    rw [g1, bd2_s, if_pos rfl]
end R1
