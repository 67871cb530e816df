/-! best, route, routeAll -/
def nlO (σ : CSt) : Nat := (cs_cc σ).toInt.toNat
noncomputable def stl (σ : CSt) : Nat := cntN (fun c => cdec (¬ FreshC σ c)) (nlO σ)
theorem nlO_I {σ : CSt} {nl : Nat} (h : cs_cc σ = I nl) (hn : nl < 1000) : nlO σ = nl := by
  unfold nlO
  rw [h, I_toInt (by omega) (by omega)]
  omega
theorem FreshC.cg {σ σ' : CSt} (h : σ'.1 = σ.1) {c : Nat} (hf : FreshC σ c) : FreshC σ' c := by
  obtain ⟨v, h1, h2⟩ := hf
  exact ⟨v, (congrFun (congrArg (fun q : CT_cv => q.2.2.2.2.2) h) c).trans h1, h2.cg (congrArg (fun q : CT_cv => q.1) h) (congrArg (fun q : CT_cv => q.2.2.1) h) (congrArg (fun q : CT_cv => q.2.2.2.1) h) (congrArg (fun q : CT_cv => q.2.2.2.2.1) h)⟩
theorem stl_cg {σ σ' : CSt} (h : σ'.1 = σ.1) : stl σ' = stl σ := by
  have hc : cs_cc σ' = cs_cc σ := congrArg (fun q : CT_cv => q.2.1) h
  unfold stl nlO
  rw [hc]
  refine cntN_cg fun i _ => ?_
  rw [Bool.eq_iff_iff, cdec_t, cdec_t]
  exact ⟨fun a b => a (b.cg h), fun a b => a (b.cg h.symm)⟩
theorem stl_le {σ : CSt} {nl : Nat} (h : cs_cc σ = I nl) (hn : nl < 1000) : stl σ ≤ nl := by
  unfold stl
  rw [nlO_I h hn]
  exact cntN_le
theorem GhR.tr {a b c : CSt} {x y x' y' : Nat} (h : GhR a b x y) (h' : GhR b c x' y') : GhR a c (x + x') (y + y') := by
  obtain ⟨h1, h2, h3, h4⟩ := h
  obtain ⟨g1, g2, g3, g4⟩ := h'
  exact ⟨by omega, by omega, by omega, by omega⟩
theorem GhR.w {a b : CSt} {x y x' y' : Nat} (h : GhR a b x y) (h1 : x ≤ x') (h2 : y ≤ y') : GhR a b x' y' := by
  obtain ⟨h3, h4, h5, h6⟩ := h
  exact ⟨by omega, by omega, by omega, by omega⟩
theorem GhR.rf {a : CSt} : GhR a a 0 0 := ⟨by omega, by omega, by omega, by omega⟩
theorem GhR.eq {a b : CSt} (h : ggh b = ggh a) : GhR a b 0 0 := by
  have h1 : cs_nc b = cs_nc a := congrArg (fun q : CT_gh => q.1) h
  have h2 : cs_ns b = cs_ns a := congrArg (fun q : CT_gh => q.2) h
  exact ⟨by omega, by omega, by omega, by omega⟩
/-- what a call that routes does -/
def RtG (σ σ' : CSt) (τ τ' : MS) (m : Nat) : Prop := Core σ' τ' ∧ Kp σ σ' ∧ Km τ τ' ∧ ∃ a, a ≤ m ∧ a + stl σ' ≤ stl σ ∧ GhR σ σ' (3 * a) (135 * a)
theorem RtG.tr {σ1 σ2 σ3 : CSt} {τ1 τ2 τ3 : MS} {m m' : Nat} (h : RtG σ1 σ2 τ1 τ2 m) (h' : RtG σ2 σ3 τ2 τ3 m') : RtG σ1 σ3 τ1 τ3 (m + m') := by
  obtain ⟨-, h2, h3, a, h4, h5, h6⟩ := h
  obtain ⟨g1, g2, g3, b, g4, g5, g6⟩ := h'
  refine ⟨g1, h2.tr g2, h3.tr g3, a + b, by omega, by omega, ?_⟩
  exact (h6.tr g6).w (by omega) (by omega)
theorem RtG.rf {σ : CSt} {τ : MS} (h : Core σ τ) {m : Nat} : RtG σ σ τ τ m := ⟨h, Kp.rf, Km.rf, 0, by omega, by omega, GhR.rf⟩
theorem RtG.w {σ σ' : CSt} {τ τ' : MS} {m m' : Nat} (h : RtG σ σ' τ τ' m) (hm : m ≤ m') : RtG σ σ' τ τ' m' := by
  obtain ⟨h1, h2, h3, a, h4, h5⟩ := h
  exact ⟨h1, h2, h3, a, by omega, h5⟩
theorem Kf.kp {σ σ' : CSt} (h : Kf σ σ') (h17 : G17 σ') : Kp σ σ' := by
  obtain ⟨h1, h2, h3, h4⟩ := h
  exact ⟨congrArg (fun q => q.2.1) h4, congrArg (fun q => q.2.2.1) h4, congrArg (fun q : CT_hi => q.2.2) h3, fun _ => h17⟩
theorem Kf.gh {σ σ' : CSt} (h : Kf σ σ') : ggh σ' = ggh σ := congrArg (fun q => q.2.2.2) h.2.2.2
section O1
variable {F : Nat} {σ : CSt} {τ : MS} {c nb nl : Nat}
/-- the way found is taken: both sides -/
theorem tk_ok (hF : 1000000000000 ≤ F) (hC : Core σ τ) (hcc : cs_cc σ = I nl) (hnl : nl ≤ 10) (hc : c < nl) (h17 : G17 σ) : ∃ (r : Int32) (σ1 : CSt) (τ0 τ1 : MS), fc_X8_findCost F σ (I c) = some (r, σ1) ∧ fm_bestOf F τ (I c) = some (r, τ0) ∧ fm_finds F τ (I c) = some (r, τ1) ∧ RtG σ σ1 τ τ0 0 ∧ RtG σ σ1 τ τ1 0 ∧ σ1.1 = σ.1 ∧ ms_row τ1 = ms_row τ ∧ (r = -1000 ∨ (r ≠ -1000 ∧ ∃ (fl : Bool) (σ2 : CSt) (τ2 : MS), fc_X9_takeWay F σ1 (I c) r = some (b2 fl, σ2) ∧ fm_takes F τ1 (I c) r = some (b2 fl, τ2) ∧ RtG σ σ2 τ τ2 1 ∧ cs_cc σ2 = I nl)) := by
  obtain ⟨⟨nb, nl', e1, e2, hP, hV⟩, hH⟩ := id hC
  have hnl' : nl' = nl := by
    have q := hP.2.1
    have := e2.symm.trans hcc
    rw [I_eq (by omega) (by omega) (by omega) (by omega)] at this
    omega
  subst hnl'
  obtain ⟨r, σ1, τ0, τ1, f1, f2, f3, f4, f5, f6, f7, f8⟩ := fd_ok hF hP hV e1 hc h17
  have s1 : σ1.1 = σ.1 := f4.1
  have g0 : RtG σ σ1 τ τ0 0 := ⟨hC.kf f4 f6.1 f6.2.1, f4.kp f5, f6.2.2, 0, by omega, by rw [stl_cg s1]; omega, GhR.eq f4.gh⟩
  have g1 : RtG σ σ1 τ τ1 0 := ⟨hC.kf f4 f7.1 f7.2.1, f4.kp f5, f7.2.2, 0, by omega, by rw [stl_cg s1]; omega, GhR.eq f4.gh⟩
  refine ⟨r, σ1, τ0, τ1, f1, f2, f3, g0, g1, s1, f7.1, ?_⟩
  rcases f8 with f8 | ⟨hr, n, X, Y, fx, fy, hn, w1, w2, w3, w4, w5, w6, w7, w8⟩
  · exact Or.inl f8
  · refine Or.inr ⟨hr, ?_⟩
    have ecr : cs_cr σ1 = cs_cr σ := congrArg (fun q : CT_cv => q.2.2.2.2.2) s1
    have ecb : cs_cb σ1 = cs_cb σ := congrArg (fun q : CT_cv => q.1) s1
    have ecp : cs_cp σ1 = cs_cp σ := congrArg (fun q : CT_cv => q.2.2.1) s1
    have ece : cs_ce σ1 = cs_ce σ := congrArg (fun q : CT_cv => q.2.2.2.1) s1
    have ecq : cs_cq σ1 = cs_cq σ := congrArg (fun q : CT_cv => q.2.2.2.2.1) s1
    have ecc : cs_cc σ1 = cs_cc σ := congrArg (fun q : CT_cv => q.2.1) s1
    have hRt := hP.2.2.2.2.2.2.2 c hc
    have hol : ∀ v, cs_cr σ1 c = some v → v.2.1 ≤ 80 := fun v hv => by
      rw [ecr] at hv
      have := (hV.2.2.2.2 c hc v hv).2.1
      omega
    obtain ⟨v, σ2, t1, t2, ⟨t3, t4⟩, t5, t6⟩ := sc_tw (F := F) (σ := σ1) (c := c) (by omega) w1 w2 w3 hn (by omega) hol r
    obtain ⟨f', m1, m2, m3⟩ := sm_takes (F := F) (τ := τ1) (c := c) (o := cs_cr σ c) (by omega) (by omega) hn (by rw [f7.1]; exact hRt) w4 w5 w6 r
    rw [ecr] at t1 t4 t6
    have hvR := m3 v t2
    obtain ⟨y1, y2, y3, y4, y5, y6, y7, y8, y9, y10⟩ := t3
    have hfr : FrR σ c v := (w8 v).mp t2
    have hfr2 : FrR σ2 c v := hfr.cg (y1.trans ecb) (y3.trans ecp) (y4.trans ece) (y5.trans ecq)
    have hfresh : FreshC σ2 c := ⟨v, by rw [t4]; exact va_up_self _ _ _, hfr2⟩
    have hoth : ∀ c', c' ≠ c → FreshC σ c' → FreshC σ2 c' := fun c' hne ⟨v', a1, a2⟩ => ⟨v', by rw [t4, va_up_ne _ _ hne]; exact a1, a2.cg (y1.trans ecb) (y3.trans ecp) (y4.trans ece) (y5.trans ecq)⟩
    have hcc2 : cs_cc σ2 = I nl' := y2.trans (ecc.trans hcc)
    have hCore : Core σ2 (ms_row_s τ1 f') := by
      refine ⟨⟨nb, nl', (y1.trans ecb).trans e1, hcc2, ?_, ?_⟩, ?_⟩
      · obtain ⟨p1, p2, p3, p4, p5, p6, p7, p8⟩ := hP
        have hf : ∀ j, (j < 35 + 169 * c + 6 ∨ 35 + 169 * c + 169 ≤ j) → ms_row (ms_row_s τ1 f') j = ms_row τ j := fun j hj => (m2 j hj).trans (congrFun f7.1 j)
        rw [y3, ecp, y4, ece, y5, ecq, t4]
        refine ⟨p1, p2, (hf 0 (by omega)).trans p3, (hf 1 (by omega)).trans p4, (hf 2 (by omega)).trans p5, fun j hj => (hf _ (by omega)).trans (p6 j hj), fun c' hc' j hj => ?_, fun c' hc' => ?_⟩
        · rw [hf _ (by omega)]
          exact p7 c' hc' j hj
        · by_cases q : c' = c
          · subst q
            rw [va_up_self]
            exact hvR
          · rw [va_up_ne _ _ q]
            exact (p8 c' hc').cg fun j hj => hf _ (by omega)
      · obtain ⟨v1, v2, v3, v4, v5⟩ := hV
        rw [y3, ecp, y4, ece, y5, ecq, t4]
        refine ⟨v1, v2, v3, v4, fun c' hc' v' hv' => ?_⟩
        by_cases q : c' = c
        · subst q
          rw [va_up_self] at hv'
          cases hv'
          exact w7 v t2
        · rw [va_up_ne _ _ q] at hv'
          exact v5 c' hc' v' hv'
      · have hk : ∀ j, 1725 ≤ j → ms_row (ms_row_s τ1 f') j = ms_row τ j := fun j hj => (m2 j (by omega)).trans (congrFun f7.1 j)
        have k2 : σ2.2.1 = σ.2.1 := y6.trans f4.2.1
        have k3 : σ2.2.2.1 = σ.2.2.1 := y7.trans f4.2.2.1
        obtain ⟨h, o, a1, a2, a3, a4, a5, a6⟩ := hH
        have i1 : cs_hs σ2 = cs_hs σ := congrArg (fun q : CT_hi => q.1) k3
        have i2 : cs_ho σ2 = cs_ho σ := congrArg (fun q : CT_hi => q.2.1) k3
        have g1 : cs_kb σ2 = cs_kb σ := congrArg (fun q : CT_kv => q.1) k2
        have g2 : cs_kc σ2 = cs_kc σ := congrArg (fun q : CT_kv => q.2.1) k2
        have g3 : cs_kp σ2 = cs_kp σ := congrArg (fun q : CT_kv => q.2.2.1) k2
        have g4 : cs_ke σ2 = cs_ke σ := congrArg (fun q : CT_kv => q.2.2.2.1) k2
        have g5 : cs_kq σ2 = cs_kq σ := congrArg (fun q : CT_kv => q.2.2.2.2.1) k2
        have g6 : cs_kr σ2 = cs_kr σ := congrArg (fun q : CT_kv => q.2.2.2.2.2) k2
        refine ⟨h, o, a1, a2, i1.trans a3, i2.trans a4, f7.2.1.trans a5, fun i hi => ?_⟩
        rw [g1, g2, g3, g4, g5, g6]
        exact Canv.cg (a6 i hi) (fun j hj => hk _ (by omega)) rfl rfl rfl (fun _ _ => rfl) (fun _ _ => rfl) (fun _ _ => rfl)
    have hKp : Kp σ σ2 := (f4.kp f5).tr ⟨y8, y9, congrArg (fun q : CT_hi => q.2.2) y7, fun hg r hr => by rw [y10]; exact hg r hr⟩
    have hKm : Km τ (ms_row_s τ1 f') := f7.2.2.tr ⟨rfl, rfl, rfl, rfl, rfl, rfl, rfl, rfl⟩
    have hgh1 : GhR σ σ1 0 0 := GhR.eq f4.gh
    refine ⟨!smB (cs_cr σ c) n X Y n, σ2, ms_row_s τ1 f', t1, m1, ⟨hCore, hKp, hKm, ?_⟩, hcc2⟩
    have hnO : nlO σ = nl' := nlO_I hcc (by omega)
    have hnO2 : nlO σ2 = nl' := nlO_I hcc2 (by omega)
    by_cases hq : FreshC σ c
    · obtain ⟨w, q1, q2⟩ := id hq
      have gg := t6 w q1 ((w8 w).mpr q2)
      refine ⟨0, by omega, ?_, (hgh1.tr gg).w (by omega) (by omega)⟩
      unfold stl
      rw [hnO, hnO2, Nat.zero_add]
      refine cntN_sub fun i hi hp => ?_
      rw [cdec_t] at hp ⊢
      intro hfi
      refine hp ?_
      by_cases q : i = c
      · rw [q]; exact hfresh
      · exact hoth i q hfi
    · refine ⟨1, by omega, ?_, (hgh1.tr t5).w (by omega) (by omega)⟩
      unfold stl
      rw [hnO, hnO2, Nat.add_comm]
      refine cntN_sub1 (y := c) (fun i hi hp => ?_) hc ?_ (cdec_t.mpr hq)
      · rw [cdec_t] at hp ⊢
        intro hfi
        refine hp ?_
        by_cases q : i = c
        · rw [q]; exact hfresh
        · exact hoth i q hfi
      · cases hz : cdec (¬ FreshC σ2 c) with
        | false => rfl
        | true => exact absurd hfresh (cdec_t.mp hz)
theorem Core.num (h : Core σ τ) : ∃ nb nl : Nat, nb ≤ 8 ∧ nl ≤ 10 ∧ cs_cb σ = I nb ∧ cs_cc σ = I nl ∧ ms_row τ 0 = I nb ∧ ms_row τ 1 = I nl ∧ Cpl (ms_row τ) nb nl (cs_cp σ) (cs_ce σ) (cs_cq σ) (cs_cr σ) ∧ Vld nb nl (cs_cp σ) (cs_ce σ) (cs_cq σ) (cs_cr σ) := by
  obtain ⟨⟨nb, nl, e1, e2, hP, hV⟩, -⟩ := h
  exact ⟨nb, nl, hP.1, hP.2.1, e1, e2, hP.2.2.1, hP.2.2.2.1, hP, hV⟩
/-- a connector's number -/
theorem lk_ok (h : Core σ τ) (x : Int32) : (fc_X1_hasConnector F σ x = some 0 ∧ fm_isLink F τ x = some 0) ∨ ∃ nl c : Nat, nl ≤ 10 ∧ c < nl ∧ cs_cc σ = I nl ∧ x = I c ∧ fc_X1_hasConnector F σ x = some 1 ∧ fm_isLink F τ x = some 1 := by
  obtain ⟨nb, nl, -, h2, -, h4, -, -, hP, -⟩ := h.num
  have a1 := sc_hasConnector (F := F) h4 x
  have a2 := sm_isLink (F := F) hP x
  cases hq : (decide (0 ≤ x) && decide (x < I nl)) with
  | false =>
    rw [hq] at a1 a2
    exact Or.inl ⟨a1, a2⟩
  | true =>
    rw [hq] at a1 a2
    simp only [Bool.and_eq_true, decide_eq_true_eq] at hq
    obtain ⟨c, q1, q2⟩ := I_num (by omega) hq.1 hq.2
    exact Or.inr ⟨nl, c, h2, q1, h4, q2, a1, a2⟩
theorem op_best (hF : 1000000000000 ≤ F) (hC : Core σ τ) (h17 : G17 σ) (x : Int32) : ∃ (r : Int32) (σ' : CSt) (τ' : MS), fc_X9_best F σ x = some (r, σ') ∧ fm_best F τ x = some (r, τ') ∧ RtG σ σ' τ τ' 0 := by
  rcases lk_ok (F := F) hC x with ⟨a1, a2⟩ | ⟨nl, c, h1, h2, h3, rfl, a1, a2⟩
  · refine ⟨-1001, σ, τ, ?_, ?_, RtG.rf hC⟩
    · unfold fc_X9_best
      rw [a1, bd_s, if_pos rfl]
    · unfold fm_best fm_best_L19
      rw [a2, bd_s, if_pos rfl]
  · obtain ⟨r, σ1, τ0, τ1, f1, f2, f3, f4, -⟩ := tk_ok hF hC h3 h1 h2 h17
    refine ⟨r, σ1, τ0, ?_, ?_, f4⟩
    · unfold fc_X9_best
      rw [a1, bd_s, if_neg (by decide), f1, bd2_s]
    · unfold fm_best fm_best_L19
      rw [a2, bd_s, if_neg (by decide), f2, bd2_s]
theorem rem_rt (hF : 2000 ≤ F) (hC : Core σ τ) (hr : RunOk σ τ) : ∃ (σ' : CSt) (τ' : MS), fc_X9_remember F σ = some σ' ∧ fm_records F τ = some τ' ∧ RtG σ σ' τ τ' 0 ∧ σ'.1 = σ.1 := by
  obtain ⟨σ', τ', h1, h2, h3, h4, h5, h6, h7, h8⟩ := rem_ok hF hC hr
  exact ⟨σ', τ', h1, h2, ⟨h3, h4, h5, 0, by omega, by rw [stl_cg h7]; omega, GhR.eq h6⟩, h7⟩
theorem op_route (hF : 1000000000000 ≤ F) (hC : Core σ τ) (hr : RunOk σ τ) (h17 : G17 σ) (x : Int32) : ∃ (r : Int32) (σ' : CSt) (τ' : MS), fc_X9_route F σ x = some (r, σ') ∧ fm_route F τ x = some (r, τ') ∧ RtG σ σ' τ τ' 1 := by
  rcases lk_ok (F := F) hC x with ⟨a1, a2⟩ | ⟨nl, c, h1, h2, h3, rfl, a1, a2⟩
  · refine ⟨-1001, σ, τ, ?_, ?_, RtG.rf hC⟩
    · unfold fc_X9_route
      rw [a1, bd_s, if_pos rfl]
    · unfold fm_route
      rw [a2, bd_s, if_pos rfl]
  · obtain ⟨σ0, τ0, r1, r2, r3, r4⟩ := rem_rt (F := F) (by omega) hC hr
    have h3' : cs_cc σ0 = I nl := (congrArg (fun q : CT_cv => q.2.1) r4).trans h3
    obtain ⟨r, σ1, τ0', τ1, f1, f2, f3, f4, f5, f6, f7, f8⟩ := tk_ok hF r3.1 h3' h1 h2 (r3.2.1.2.2.2 h17)
    rcases f8 with rfl | ⟨hr, fl, σ2, τ2, g1, g2, g3, g4⟩
    · refine ⟨-1000, σ1, τ1, ?_, ?_, (r3.tr f5).w (by omega)⟩
      · unfold fc_X9_route fc_X9_route_L46
        rw [a1, bd_s, if_neg (by decide), r1, bd_s, f1, bd2_s, if_pos rfl]
      · unfold fm_route fm_route_L42 fm_route_L43
        rw [a2, bd_s, if_neg (by decide), r2, bd_s, f3, bd2_s, if_pos rfl]
    · refine ⟨r, σ2, τ2, ?_, ?_, (r3.tr g3).w (by omega)⟩
      · unfold fc_X9_route fc_X9_route_L46
        rw [a1, bd_s, if_neg (by decide), r1, bd_s, f1, bd2_s, if_neg hr, g1, bd2_s]
      · unfold fm_route fm_route_L42 fm_route_L43
        rw [a2, bd_s, if_neg (by decide), r2, bd_s, f3, bd2_s, if_neg hr, g2, bd2_s]
        split <;> rfl
end O1
theorem all_lp {F nl : Nat} (hF : 1000000000000 ≤ F) (hnl : nl ≤ 10) : ∀ (d i : Nat) (cnt : Int32) (σ : CSt) (τ : MS), i + d = nl → Core σ τ → G17 σ → cs_cc σ = I nl → ∃ (r : Int32) (σ' : CSt) (τ' : MS), (∀ n, d < n → fc_X9_routeAll_L8 F n σ cnt (I i) = some (r, σ')) ∧ (∀ n, d < n → fm_routeAll_L8 F n τ cnt (I i) = some (r, τ')) ∧ RtG σ σ' τ τ' d := by
  intro d
  induction d with
  | zero =>
    intro i cnt σ τ hi hC h17 hcc
    obtain ⟨nb, nl', -, q1, -, q2, -, q3, -⟩ := hC.num
    have hnl' : nl' = nl := by
      have := q2.symm.trans hcc
      rw [I_eq (by omega) (by omega) (by omega) (by omega)] at this
      omega
    subst hnl'
    have e1 : I nl' ≤ I i := by rw [I_le] <;> omega
    refine ⟨cnt, σ, τ, fun n hn => ?_, fun n hn => ?_, RtG.rf hC⟩
    · obtain ⟨n, rfl⟩ : ∃ n', n = n' + 1 := ⟨n - 1, by omega⟩
      show fc_X9_routeAll_L8_c F (fun a b c => fc_X9_routeAll_L8 F n a b c) σ cnt (I i) = _
      unfold fc_X9_routeAll_L8_c
      rw [hcc, if_pos e1]
    · obtain ⟨n, rfl⟩ : ∃ n', n = n' + 1 := ⟨n - 1, by omega⟩
      show fm_routeAll_L8_c F (fun a b c => fm_routeAll_L8 F n a b c) τ cnt (I i) = _
      unfold fm_routeAll_L8_c
      rw [gd_t (of_eq_true (ix1_ (n := 8625) (by decide))), cN1, q3, if_pos e1]
  | succ d ih =>
    intro i cnt σ τ hi hC h17 hcc
    obtain ⟨nb, nl', -, q1, -, q2, -, q3, -⟩ := hC.num
    have hnl' : nl' = nl := by
      have := q2.symm.trans hcc
      rw [I_eq (by omega) (by omega) (by omega) (by omega)] at this
      omega
    subst hnl'
    have e1 : ¬ I nl' ≤ I i := by rw [I_le] <;> omega
    obtain ⟨r, σ1, τ0', τ1, f1, f2, f3, f4, f5, f6, f7, f8⟩ := tk_ok hF hC hcc hnl (show i < nl' by omega) h17
    have cont : ∀ (σ2 : CSt) (τ2 : MS) (cnt2 : Int32) (m : Nat), m ≤ 1 → RtG σ σ2 τ τ2 m → cs_cc σ2 = I nl' → (∀ n, fc_X9_routeAll_L8 F (n + 1) σ cnt (I i) = fc_X9_routeAll_L8 F n σ2 cnt2 (I ((i + 1 : Nat) : Int))) → (∀ n, fm_routeAll_L8 F (n + 1) τ cnt (I i) = fm_routeAll_L8 F n τ2 cnt2 (I ((i + 1 : Nat) : Int))) → ∃ (r : Int32) (σ' : CSt) (τ' : MS), (∀ n, d + 1 < n → fc_X9_routeAll_L8 F n σ cnt (I i) = some (r, σ')) ∧ (∀ n, d + 1 < n → fm_routeAll_L8 F n τ cnt (I i) = some (r, τ')) ∧ RtG σ σ' τ τ' (d + 1) := fun σ2 τ2 cnt2 m hm hR hcc2 hs1 hs2 => by
      obtain ⟨r', σ', τ', g1, g2, g3⟩ := ih (i + 1) cnt2 σ2 τ2 (by omega) hR.1 (hR.2.1.2.2.2 h17) hcc2
      refine ⟨r', σ', τ', fun n hn => ?_, fun n hn => ?_, (hR.tr g3).w (by omega)⟩
      · obtain ⟨n, rfl⟩ : ∃ n', n = n' + 1 := ⟨n - 1, by omega⟩
        rw [hs1]
        exact g1 n (by omega)
      · obtain ⟨n, rfl⟩ : ∃ n', n = n' + 1 := ⟨n - 1, by omega⟩
        rw [hs2]
        exact g2 n (by omega)
    rcases f8 with rfl | ⟨hr, fl, σ2, τ2, g1, g2, g3, g4⟩
    · refine cont σ1 τ1 cnt 0 (by omega) f5 ((congrArg (fun q : CT_cv => q.2.1) f6).trans hcc) (fun n => ?_) (fun n => ?_)
      · show fc_X9_routeAll_L8_c F (fun a b c => fc_X9_routeAll_L8 F n a b c) σ cnt (I i) = _
        unfold fc_X9_routeAll_L8_c fc_X9_routeAll_L51
        rw [hcc, if_neg e1, f1, bd2_s, if_pos rfl, lt_r, I_S]
      · show fm_routeAll_L8_c F (fun a b c => fm_routeAll_L8 F n a b c) τ cnt (I i) = _
        unfold fm_routeAll_L8_c fm_routeAll_L45 fm_routeAll_L46
        rw [gd_t (of_eq_true (ix1_ (n := 8625) (by decide))), cN1, q3, if_neg e1, f3, bd2_s, if_pos rfl, lt_r, lt_r, I_S, show cnt + 0 = cnt from Int32.add_zero cnt]
    · refine cont σ2 τ2 (cnt + b2 fl) 1 (by omega) g3 g4 (fun n => ?_) (fun n => ?_)
      · show fc_X9_routeAll_L8_c F (fun a b c => fc_X9_routeAll_L8 F n a b c) σ cnt (I i) = _
        unfold fc_X9_routeAll_L8_c fc_X9_routeAll_L51
        rw [hcc, if_neg e1, f1, bd2_s, if_neg hr, g1, bd2_s]
        cases fl with
        | false => rw [if_pos (show b2 false = 0 from rfl), lt_r, I_S, show cnt + b2 false = cnt from Int32.add_zero cnt]
        | true => rw [if_neg (by decide), lt_r, lt_r, I_S]; rfl
      · show fm_routeAll_L8_c F (fun a b c => fm_routeAll_L8 F n a b c) τ cnt (I i) = _
        unfold fm_routeAll_L8_c fm_routeAll_L45 fm_routeAll_L46
        rw [gd_t (of_eq_true (ix1_ (n := 8625) (by decide))), cN1, q3, if_neg e1, f3, bd2_s, if_neg hr, g2, bd2_s]
        cases fl with
        | false => rw [if_pos (show b2 false = 0 from rfl), lt_r, lt_r, I_S]; rfl
        | true => rw [if_neg (by decide), lt_r, lt_r, I_S]; rfl
theorem op_all {F : Nat} {σ : CSt} {τ : MS} (hF : 1000000000000 ≤ F) (hC : Core σ τ) (hr : RunOk σ τ) (h17 : G17 σ) : ∃ (r : Int32) (σ' : CSt) (τ' : MS), fc_X9_routeAll F σ = some (r, σ') ∧ fm_routeAll F τ = some (r, τ') ∧ RtG σ σ' τ τ' 10 := by
  obtain ⟨σ0, τ0, r1, r2, r3, r4⟩ := rem_rt (F := F) (by omega) hC hr
  obtain ⟨nb, nl, -, q1, -, q2, -⟩ := r3.1.num
  obtain ⟨r, σ', τ', g1, g2, g3⟩ := all_lp hF q1 nl 0 0 σ0 τ0 (by omega) r3.1 (r3.2.1.2.2.2 h17) q2
  refine ⟨r, σ', τ', ?_, ?_, (r3.tr g3).w (by omega)⟩
  · unfold fc_X9_routeAll
    rw [r1, bd_s]
    exact g1 F (by omega)
  · unfold fm_routeAll
    rw [r2, bd_s]
    exact g2 F (by omega)
