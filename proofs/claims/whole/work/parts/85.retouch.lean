/-! reroute, refresh -/
section U2
variable {F : Nat} {σ : CSt} {τ : MS} {c nb nl p b0 s0 b1 s1 : Nat} {B : Nat → Int} {o0 o1 : Int}
theorem sm_touched (hF : 1000 ≤ F) {cp : Int32} {E Q : Nat → Int32} {R : Nat → Option RV} (hP : Cpl (ms_row τ) nb nl cp E Q R) (hM : CnM τ c nb (bxI E) p b0 s0 o0 b1 s1 o1) (hc : c < nl) (hR : ∀ v, R c = some v → RtI v) : fm_isTouched F τ (I c) = some (b2 (tcB (bxI E) nb (ptX (bxI E) b0 s0 o0 0) (ptY (bxI E) b0 s0 o0 0) (ptX (bxI E) b1 s1 o1 0) (ptY (bxI E) b1 s1 o1 0) (R c))) := by
  have hB := hM.1.2.1
  have hh := sm_has (F := F) hP hc (fun v hv => (hR v hv).2.1)
  obtain ⟨⟨pX0, pY0⟩, pX1, pY1⟩ := hM.pt (F := F) τ rfl 0
  have k0 := (pt_bd hM.1.2.2.2.1 hB).1 0 (by omega) (by omega)
  have k1 := (pt_bd hM.1.2.2.2.2 hB).1 0 (by omega) (by omega)
  generalize ptX (bxI E) b0 s0 o0 0 = pa at pX0 k0 ⊢
  generalize ptY (bxI E) b0 s0 o0 0 = pb at pY0 k0 ⊢
  generalize ptX (bxI E) b1 s1 o1 0 = pc at pX1 k1 ⊢
  generalize ptY (bxI E) b1 s1 o1 0 = pd at pY1 k1 ⊢
  have pX0' : fm_portOf F τ (I c) 0 1 0 = _ := pX0
  have pY0' : fm_portOf F τ (I c) 0 0 0 = _ := pY0
  have pX1' : fm_portOf F τ (I c) 1 1 0 = _ := pX1
  have pY1' : fm_portOf F τ (I c) 1 0 0 = _ := pY1
  unfold fm_isTouched
  rw [hh, bd_s]
  cases hq : R c with
  | none => rfl
  | some v =>
    have hv := hR v hq
    obtain ⟨v1, v2, v3, -⟩ := id hv
    obtain ⟨-, -, r8, rd⟩ := rd_m (F := F) hP hc hq v2
    have e1 : I v.2.1 - 1 = I ((v.2.1 - 1 : Nat) : Int) := by
      rw [I_1, I_sub]
      exact congrArg I (by omega)
    obtain ⟨cx0, cy0⟩ := rd 0 (by omega)
    obtain ⟨cxl, cyl⟩ := rd (v.2.1 - 1) (by omega)
    have cx0' : fm_cornerX F τ (I c) 0 = _ := cx0
    have cy0' : fm_cornerY F τ (I c) 0 = _ := cy0
    obtain ⟨⟨x1, x2⟩, x3, x4⟩ := v3 0 (by omega)
    obtain ⟨⟨y1, y2⟩, y3, y4⟩ := v3 (v.2.1 - 1) (by omega)
    have eq1 : ∀ {a b : Int}, 0 ≤ a → a ≤ 99 → 0 ≤ b → b ≤ 99 → (I a = I b) = (a = b) := fun a1 a2 b1 b2 => I_eq (by omega) (by omega) (by omega) (by omega)
    have l88 : fm_isTouched_L88 F τ (I c) (I ((v.2.1 - 1 : Nat) : Int)) = some 1 := by
      refine lp_r (fun _ => (I c, I ((v.2.1 - 1 : Nat) : Int), 1, 0)) _ 0 rfl (by omega) (fun k rec hk => absurd hk (Nat.not_lt_zero _)) (fun rec => ?_)
      simp only [fm_isTouched_L97_c, fm_isTouched_L254, show ¬ (1 : Int32) = 0 by decide, if_false, gd_1]
      split <;> rfl
    have l93 : fm_isTouched_L93 F τ (I c) (I ((v.2.1 - 1 : Nat) : Int)) 0 = some (b2 (anyN (isS (bxI E) nb v) (v.2.1 - 1))) := by
      refine lp_scn (fun fl k => (I c, I ((v.2.1 - 1 : Nat) : Int), fl, I k)) (fun fl => some fl) (isS (bxI E) nb v) (v.2.1 - 1) (fun rec t ht => ?_) (fun rec => ?_) (fun rec t ht => ?_) (by omega)
      · simp only [fm_isTouched_L97_c, fm_isTouched_L254, show ¬ (1 : Int32) = 0 by decide, if_false, gd_1]
        split <;> rfl
      · have z1 : I ((v.2.1 - 1 : Nat) : Int) ≤ I ((v.2.1 - 1 : Nat) : Int) := by rw [I_le] <;> omega
        simp only [fm_isTouched_L97_c, fm_isTouched_L254, z1, if_true]
        exact gd_0
      · have z1 : ¬ I ((v.2.1 - 1 : Nat) : Int) ≤ I t := by rw [I_le] <;> omega
        obtain ⟨cxa, cya⟩ := rd t (by omega)
        obtain ⟨cxb, cyb⟩ := rd (t + 1) (by omega)
        have ba := v3 t (by omega)
        have bb := v3 (t + 1) (by omega)
        have sx := sm_sign F (z := rX v (t + 1) - rX v t) (by omega) (by omega)
        have sy := sm_sign F (z := rY v (t + 1) - rY v t) (by omega) (by omega)
        have hs := sm_seg (F := F) hF hP hB hc hq hv (k := t) (by omega) (fun a b c d => rec (a, b, c, d)) (I ((v.2.1 - 1 : Nat) : Int))
        have e0 : (I t = 0) = (t = 0) := by
          rw [I_0, I_eq (by omega) (by omega) (by omega) (by omega)]
          exact propext ⟨fun q => by omega, fun q => by omega⟩
        simp only [fm_isTouched_L97_c, z1, if_false, if_true, cxa, cya, I_S, cxb, cyb, bd_s, I_sub, sx, sy, e0]
        rw [← hs]
        by_cases c0 : t = 0
        · rw [if_pos c0, decide_eq_true c0]; rfl
        · rw [if_neg c0, decide_eq_false c0]; rfl
    rw [if_neg (show ¬ b2 (some v).isSome = 0 from show ¬ (1 : Int32) = 0 by decide), r8, bd_s, e1, lt_r, cx0', bd_s, pX0', bd_s, tcB_s, bk_eq hB hv]
    unfold enE
    by_cases c1 : rX v 0 = pa
    · rw [if_pos (by rw [c1]), cy0', bd_s, pY0', bd_s]
      by_cases c2 : rY v 0 = pb
      · rw [if_pos (by rw [c2]), cxl, bd_s, pX1', bd_s]
        by_cases c3 : rX v (v.2.1 - 1) = pc
        · rw [if_pos (by rw [c3]), cyl, bd_s, pY1', bd_s]
          by_cases c4 : rY v (v.2.1 - 1) = pd
          · rw [if_pos (by rw [c4]), l93, decide_eq_true c1, decide_eq_true c2, decide_eq_true c3, decide_eq_true c4]
            rfl
          · rw [if_neg (by rw [eq1 (by omega) (by omega) (by omega) (by omega)]; exact c4), decide_eq_false c4, Bool.and_false, l88]
            rfl
        · rw [if_neg (by rw [eq1 (by omega) (by omega) (by omega) (by omega)]; exact c3), decide_eq_false c3, Bool.and_false, l88]
          rfl
      · rw [if_neg (by rw [eq1 (by omega) (by omega) (by omega) (by omega)]; exact c2), decide_eq_false c2, Bool.and_false, l88]
        rfl
    · rw [if_neg (by rw [eq1 (by omega) (by omega) (by omega) (by omega)]; exact c1), decide_eq_false c1, l88]
      rfl
/-- both tell the same -/
theorem tch_ok (hF : 1000 ≤ F) (hP : Cpl (ms_row τ) nb nl (cs_cp σ) (cs_ce σ) (cs_cq σ) (cs_cr σ)) (hV : Vld nb nl (cs_cp σ) (cs_ce σ) (cs_cq σ) (cs_cr σ)) (hb : cs_cb σ = I nb) (hc : c < nl) : ∃ t : Bool, fc_X1_isTouched F σ (I c) = some (b2 t) ∧ fm_isTouched F τ (I c) = some (b2 t) ∧ (cs_cr σ c = none → t = true) := by
  obtain ⟨p, b0, s0, o0, b1, s1, o1, hCC, hCM, -⟩ := cn_of hP hV hb hc
  have hR : ∀ v, cs_cr σ c = some v → RtI v := fun v hv => (hV.2.2.2.2 c hc v hv).ri
  refine ⟨_, sc_touched hF hCC hR, sm_touched hF hP hCM hc hR, fun hn => ?_⟩
  rw [hn]
  rfl
end U2
theorem Core.num2 {σ : CSt} {τ : MS} {nl : Nat} (h : Core σ τ) (hcc : cs_cc σ = I nl) (hnl : nl ≤ 10) : ∃ nb : Nat, nb ≤ 8 ∧ cs_cb σ = I nb ∧ ms_row τ 0 = I nb ∧ ms_row τ 1 = I nl ∧ Cpl (ms_row τ) nb nl (cs_cp σ) (cs_ce σ) (cs_cq σ) (cs_cr σ) ∧ Vld nb nl (cs_cp σ) (cs_ce σ) (cs_cq σ) (cs_cr σ) := by
  obtain ⟨nb, nl', h1, h2, h3, h4, h5, h6, h7, h8⟩ := h.num
  have hnl' : nl' = nl := by
    have := h4.symm.trans hcc
    rw [I_eq (by omega) (by omega) (by omega) (by omega)] at this
    omega
  subst hnl'
  exact ⟨nb, h1, h3, h5, h6, h7, h8⟩
theorem rr_lp {F nl : Nat} (hF : 1000000000000 ≤ F) (hnl : nl ≤ 10) : ∀ (d i : Nat) (cnt : Int32) (σ : CSt) (τ : MS), i + d = nl → Core σ τ → G17 σ → cs_cc σ = I nl → ∃ (r : Int32) (σ' : CSt) (τ' : MS), (∀ n, d < n → fc_X9_reroute_L8 F n σ cnt (I i) = some (r, σ')) ∧ (∀ n, d < n → fm_routesThose_L8 F n τ 0 cnt (I i) = some (r, τ')) ∧ RtG σ σ' τ τ' d := by
  intro d
  induction d with
  | zero =>
    intro i cnt σ τ hi hC h17 hcc
    obtain ⟨nb, -, -, -, q3, -⟩ := hC.num2 hcc hnl
    have e1 : I nl ≤ I i := by rw [I_le] <;> omega
    refine ⟨cnt, σ, τ, fun n hn => ?_, fun n hn => ?_, RtG.rf hC⟩
    · obtain ⟨n, rfl⟩ : ∃ n', n = n' + 1 := ⟨n - 1, by omega⟩
      show fc_X9_reroute_L8_c F (fun a b c => fc_X9_reroute_L8 F n a b c) σ cnt (I i) = _
      unfold fc_X9_reroute_L8_c
      rw [hcc, if_pos e1]
    · obtain ⟨n, rfl⟩ : ∃ n', n = n' + 1 := ⟨n - 1, by omega⟩
      show fm_routesThose_L8_c F (fun a b c d => fm_routesThose_L8 F n a b c d) τ 0 cnt (I i) = _
      unfold fm_routesThose_L8_c
      rw [gd_t (of_eq_true (ix1_ (n := 8625) (by decide))), cN1, q3, if_pos e1]
  | succ d ih =>
    intro i cnt σ τ hi hC h17 hcc
    obtain ⟨nb, q1, q2, -, q3, hP, hV⟩ := hC.num2 hcc hnl
    have e1 : ¬ I nl ≤ I i := by rw [I_le] <;> omega
    obtain ⟨t, t1, t2, -⟩ := tch_ok (F := F) (by omega) hP hV q2 (show i < nl by omega)
    have cont : ∀ (σ2 : CSt) (τ2 : MS) (cnt2 : Int32) (m : Nat), m ≤ 1 → RtG σ σ2 τ τ2 m → cs_cc σ2 = I nl → (∀ n, fc_X9_reroute_L8 F (n + 1) σ cnt (I i) = fc_X9_reroute_L8 F n σ2 cnt2 (I ((i + 1 : Nat) : Int))) → (∀ n, fm_routesThose_L8 F (n + 1) τ 0 cnt (I i) = fm_routesThose_L8 F n τ2 0 cnt2 (I ((i + 1 : Nat) : Int))) → ∃ (r : Int32) (σ' : CSt) (τ' : MS), (∀ n, d + 1 < n → fc_X9_reroute_L8 F n σ cnt (I i) = some (r, σ')) ∧ (∀ n, d + 1 < n → fm_routesThose_L8 F n τ 0 cnt (I i) = some (r, τ')) ∧ RtG σ σ' τ τ' (d + 1) := fun σ2 τ2 cnt2 m hm hR hcc2 hs1 hs2 => by
      obtain ⟨r', σ', τ', g1, g2, g3⟩ := ih (i + 1) cnt2 σ2 τ2 (by omega) hR.1 (hR.2.1.2.2.2 h17) hcc2
      refine ⟨r', σ', τ', fun n hn => ?_, fun n hn => ?_, (hR.tr g3).w (by omega)⟩
      · obtain ⟨n, rfl⟩ : ∃ n', n = n' + 1 := ⟨n - 1, by omega⟩
        rw [hs1]
        exact g1 n (by omega)
      · obtain ⟨n, rfl⟩ : ∃ n', n = n' + 1 := ⟨n - 1, by omega⟩
        rw [hs2]
        exact g2 n (by omega)
    have mu : ∀ n, fm_routesThose_L8 F (n + 1) τ 0 cnt (I i) = if b2 t = 0 then fm_routesThose_L8 F n τ 0 cnt (I ((i + 1 : Nat) : Int)) else fm_routesThose_L34 F (fun a b c d => fm_routesThose_L8 F n a b c d) τ 0 cnt (I i) (b2 t) := fun n => by
      show fm_routesThose_L8_c F (fun a b c d => fm_routesThose_L8 F n a b c d) τ 0 cnt (I i) = _
      unfold fm_routesThose_L8_c fm_routesThose_L78
      rw [gd_t (of_eq_true (ix1_ (n := 8625) (by decide))), cN1, q3, if_neg e1, t2, bd_s, if_pos rfl, lt_r, I_S]
    have cu : ∀ n, fc_X9_reroute_L8 F (n + 1) σ cnt (I i) = if b2 t = 0 then fc_X9_reroute_L8 F n σ cnt (I ((i + 1 : Nat) : Int)) else bd2 (fc_X8_findCost F σ (I i)) (fun r42 σ42 => if r42 = -1000 then (fc_X9_reroute_L63 F (fun a b c => fc_X9_reroute_L8 F n a b c) σ42 cnt (I i)) else (bd2 (fc_X9_takeWay F σ42 (I i) r42) (fun r56 σ56 => lt (cnt + 1) (fun x1_60 => fc_X9_reroute_L63 F (fun a b c => fc_X9_reroute_L8 F n a b c) σ56 x1_60 (I i))))) := fun n => by
      show fc_X9_reroute_L8_c F (fun a b c => fc_X9_reroute_L8 F n a b c) σ cnt (I i) = _
      unfold fc_X9_reroute_L8_c
      rw [hcc, if_neg e1, t1, bd_s]
      unfold fc_X9_reroute_L63
      rw [lt_r, I_S]
    cases t with
    | false =>
      refine cont σ τ cnt 0 (by omega) (RtG.rf hC) hcc (fun n => ?_) (fun n => ?_)
      · rw [cu, if_pos (by decide)]
      · rw [mu, if_pos (by decide)]
    | true =>
      obtain ⟨r, σ1, τ0', τ1, f1, f2, f3, f4, f5, f6, f7, f8⟩ := tk_ok hF hC hcc hnl (show i < nl by omega) h17
      rcases f8 with rfl | ⟨hr, fl, σ2, τ2, g1, g2, g3, g4⟩
      · refine cont σ1 τ1 cnt 0 (by omega) f5 ((congrArg (fun q : CT_cv => q.2.1) f6).trans hcc) (fun n => ?_) (fun n => ?_)
        · rw [cu, if_neg (by decide), f1, bd2_s, if_pos rfl]
          unfold fc_X9_reroute_L63
          rw [lt_r, I_S]
        · rw [mu, if_neg (by decide)]
          unfold fm_routesThose_L34 fm_routesThose_L78
          rw [f3, bd2_s, if_pos rfl, lt_r, I_S]
      · refine cont σ2 τ2 (cnt + 1) 1 (by omega) g3 g4 (fun n => ?_) (fun n => ?_)
        · rw [cu, if_neg (by decide), f1, bd2_s, if_neg hr, g1, bd2_s, lt_r]
          unfold fc_X9_reroute_L63
          rw [lt_r, I_S]
        · rw [mu, if_neg (by decide)]
          unfold fm_routesThose_L34 fm_routesThose_L66 fm_routesThose_L78
          rw [f3, bd2_s, if_neg hr, if_neg (by decide), g2, bd2_s, lt_r, lt_r, I_S]
theorem op_reroute {F : Nat} {σ : CSt} {τ : MS} (hF : 1000000000000 ≤ F) (hC : Core σ τ) (hr : RunOk σ τ) (h17 : G17 σ) : ∃ (r : Int32) (σ' : CSt) (τ' : MS), fc_X9_reroute F σ = some (r, σ') ∧ fm_reroute F τ = some (r, τ') ∧ RtG σ σ' τ τ' 10 := by
  obtain ⟨σ0, τ0, r1, r2, r3, r4⟩ := rem_rt (F := F) (by omega) hC hr
  obtain ⟨nb, nl, -, q1, -, q2, -⟩ := r3.1.num
  obtain ⟨r, σ', τ', g1, g2, g3⟩ := rr_lp hF q1 nl 0 0 σ0 τ0 (by omega) r3.1 (r3.2.1.2.2.2 h17) q2
  have g2' : fm_routesThose_L8 F F τ0 0 0 0 = some (r, τ') := g2 F (by omega)
  refine ⟨r, σ', τ', ?_, ?_, (r3.tr g3).w (by omega)⟩
  · unfold fc_X9_reroute
    rw [r1, bd_s]
    exact g1 F (by omega)
  · unfold fm_reroute fm_routesThose
    rw [r2, bd_s, g2', bd2_s]
theorem rf_lp {F nl : Nat} (hF : 1000000000000 ≤ F) (hnl : nl ≤ 10) : ∀ (d i : Nat) (cnt : Int32) (σ : CSt) (τ : MS), i + d = nl → Core σ τ → G17 σ → cs_cc σ = I nl → ∃ (r : Int32) (σ' : CSt) (τ' : MS), (∀ n, d < n → fc_X9_refresh_L8 F n σ cnt (I i) = some (r, σ')) ∧ (∀ n, d < n → fm_routesThose_L8 F n τ 1 cnt (I i) = some (r, τ')) ∧ RtG σ σ' τ τ' d := by
  intro d
  induction d with
  | zero =>
    intro i cnt σ τ hi hC h17 hcc
    obtain ⟨nb, -, -, -, q3, -⟩ := hC.num2 hcc hnl
    have e1 : I nl ≤ I i := by rw [I_le] <;> omega
    refine ⟨cnt, σ, τ, fun n hn => ?_, fun n hn => ?_, RtG.rf hC⟩
    · obtain ⟨n, rfl⟩ : ∃ n', n = n' + 1 := ⟨n - 1, by omega⟩
      show fc_X9_refresh_L8_c F (fun a b c => fc_X9_refresh_L8 F n a b c) σ cnt (I i) = _
      unfold fc_X9_refresh_L8_c
      rw [hcc, if_pos e1]
    · obtain ⟨n, rfl⟩ : ∃ n', n = n' + 1 := ⟨n - 1, by omega⟩
      show fm_routesThose_L8_c F (fun a b c d => fm_routesThose_L8 F n a b c d) τ 1 cnt (I i) = _
      unfold fm_routesThose_L8_c
      rw [gd_t (of_eq_true (ix1_ (n := 8625) (by decide))), cN1, q3, if_pos e1]
  | succ d ih =>
    intro i cnt σ τ hi hC h17 hcc
    obtain ⟨nb, q1, q2, -, q3, hP, hV⟩ := hC.num2 hcc hnl
    have e1 : ¬ I nl ≤ I i := by rw [I_le] <;> omega
    have hi10 : i < 10 := by omega
    obtain ⟨t, t1, t2, t3⟩ := tch_ok (F := F) (by omega) hP hV q2 (show i < nl by omega)
    obtain ⟨r, σ1, τ0', τ1, f1, f2, f3, f4, f5, f6, f7, f8⟩ := tk_ok hF hC hcc hnl (show i < nl by omega) h17
    have hcc1 : cs_cc σ1 = I nl := (congrArg (fun q : CT_cv => q.2.1) f6).trans hcc
    obtain ⟨nb1, q1', q2', -, -, hP1, hV1⟩ := f5.1.num2 hcc1 hnl
    have cont : ∀ (σ2 : CSt) (τ2 : MS) (cnt2 : Int32) (m : Nat), m ≤ 1 → RtG σ σ2 τ τ2 m → cs_cc σ2 = I nl → (∀ n, fc_X9_refresh_L8 F (n + 1) σ cnt (I i) = fc_X9_refresh_L8 F n σ2 cnt2 (I ((i + 1 : Nat) : Int))) → (∀ n, fm_routesThose_L8 F (n + 1) τ 1 cnt (I i) = fm_routesThose_L8 F n τ2 1 cnt2 (I ((i + 1 : Nat) : Int))) → ∃ (r : Int32) (σ' : CSt) (τ' : MS), (∀ n, d + 1 < n → fc_X9_refresh_L8 F n σ cnt (I i) = some (r, σ')) ∧ (∀ n, d + 1 < n → fm_routesThose_L8 F n τ 1 cnt (I i) = some (r, τ')) ∧ RtG σ σ' τ τ' (d + 1) := fun σ2 τ2 cnt2 m hm hR hcc2 hs1 hs2 => by
      obtain ⟨r', σ', τ', g1, g2, g3⟩ := ih (i + 1) cnt2 σ2 τ2 (by omega) hR.1 (hR.2.1.2.2.2 h17) hcc2
      refine ⟨r', σ', τ', fun n hn => ?_, fun n hn => ?_, (hR.tr g3).w (by omega)⟩
      · obtain ⟨n, rfl⟩ : ∃ n', n = n' + 1 := ⟨n - 1, by omega⟩
        rw [hs1]
        exact g1 n (by omega)
      · obtain ⟨n, rfl⟩ : ∃ n', n = n' + 1 := ⟨n - 1, by omega⟩
        rw [hs2]
        exact g2 n (by omega)
    have mu : ∀ n, fm_routesThose_L8 F (n + 1) τ 1 cnt (I i) = fm_routesThose_L34 F (fun a b c d => fm_routesThose_L8 F n a b c d) τ 1 cnt (I i) (b2 t) := fun n => by
      show fm_routesThose_L8_c F (fun a b c d => fm_routesThose_L8 F n a b c d) τ 1 cnt (I i) = _
      unfold fm_routesThose_L8_c
      rw [gd_t (of_eq_true (ix1_ (n := 8625) (by decide))), cN1, q3, if_neg e1, t2, bd_s, if_neg (show ¬ (1 : Int32) = 0 by decide)]
      split <;> rfl
    rcases f8 with rfl | ⟨hr, fl, σ2, τ2, g1, g2, g3, g4⟩
    · refine cont σ1 τ1 cnt 0 (by omega) f5 hcc1 (fun n => ?_) (fun n => ?_)
      · show fc_X9_refresh_L8_c F (fun a b c => fc_X9_refresh_L8 F n a b c) σ cnt (I i) = _
        unfold fc_X9_refresh_L8_c fc_X9_refresh_L88
        rw [hcc, if_neg e1, f1, bd2_s, if_pos rfl, lt_r, I_S]
      · rw [mu]
        unfold fm_routesThose_L34 fm_routesThose_L78
        rw [f3, bd2_s, if_pos rfl, lt_r, I_S]
    · have ecr : cs_cr σ1 i = cs_cr σ i := congrFun (congrArg (fun q : CT_cv => q.2.2.2.2.2) f6) i
      have ixc : ix (I i) 10 = true := of_eq_true (I_ix (by omega) (by omega) (by omega))
      have n6 : (I i).toNatClampNeg = i := by rw [I_cl (by omega) (by omega)]; omega
      have cu : ∀ n, fc_X9_refresh_L8 F (n + 1) σ cnt (I i) = mo (cs_cr σ i) (fc_X9_refresh_L78 F (fun a b c => fc_X9_refresh_L8 F n a b c) σ1 cnt (I i) r) (fun v50 => if r < v50.1 then (fc_X9_refresh_L78 F (fun a b c => fc_X9_refresh_L8 F n a b c) σ1 cnt (I i) r) else (bd (fc_X1_isTouched F σ1 (I i)) (fun r72 => if r72 = 0 then (fc_X9_refresh_L88 F (fun a b c => fc_X9_refresh_L8 F n a b c) σ1 cnt (I i)) else (fc_X9_refresh_L78 F (fun a b c => fc_X9_refresh_L8 F n a b c) σ1 cnt (I i) r)))) := fun n => by
        show fc_X9_refresh_L8_c F (fun a b c => fc_X9_refresh_L8 F n a b c) σ cnt (I i) = _
        unfold fc_X9_refresh_L8_c
        rw [hcc, if_neg e1, f1, bd2_s, if_neg hr, gd_t ixc, n6, ecr]
      have l78 : ∀ n, fc_X9_refresh_L78 F (fun a b c => fc_X9_refresh_L8 F n a b c) σ1 cnt (I i) r = fc_X9_refresh_L8 F n σ2 (cnt + 1) (I ((i + 1 : Nat) : Int)) := fun n => by
        unfold fc_X9_refresh_L78 fc_X9_refresh_L88
        rw [g1, bd2_s, lt_r, lt_r, I_S]
      have l66 : ∀ n, fm_routesThose_L66 F (fun a b c d => fm_routesThose_L8 F n a b c d) τ1 1 cnt (I i) r = fm_routesThose_L8 F n τ2 1 (cnt + 1) (I ((i + 1 : Nat) : Int)) := fun n => by
        unfold fm_routesThose_L66 fm_routesThose_L78
        rw [g2, bd2_s, lt_r, lt_r, I_S]
      have mu2 : ∀ n, fm_routesThose_L8 F (n + 1) τ 1 cnt (I i) = if b2 t = 0 then (bd (fm_of F τ1 (I i) 7) (fun r58 => if r58 ≤ r then (fm_routesThose_L78 F (fun a b c d => fm_routesThose_L8 F n a b c d) τ1 1 cnt (I i)) else (fm_routesThose_L66 F (fun a b c d => fm_routesThose_L8 F n a b c d) τ1 1 cnt (I i) r))) else (fm_routesThose_L66 F (fun a b c d => fm_routesThose_L8 F n a b c d) τ1 1 cnt (I i) r) := fun n => by
        rw [mu]
        unfold fm_routesThose_L34
        rw [f3, bd2_s, if_neg hr]
      cases hq : cs_cr σ i with
      | none =>
        have ht := t3 hq
        refine cont σ2 τ2 (cnt + 1) 1 (by omega) g3 g4 (fun n => ?_) (fun n => ?_)
        · rw [cu, hq, mo_N, l78]
        · rw [mu2, ht, if_neg (by decide), l66]
      | some v =>
        have hv66 := (hV.2.2.2.2 i (by omega) v hq).2.1
        have h7 := (rd_m (F := F) hP1 (show i < nl by omega) (ecr.trans hq) hv66).2.1
        obtain ⟨t', u1, u2, -⟩ := tch_ok (F := F) (by omega) hP1 hV1 q2' (show i < nl by omega)
        have htt : t' = t := by
          have hru : fm_isTouched F τ1 (I i) = fm_isTouched F τ (I i) := by
            rw [t2]
            obtain ⟨p, b0, s0, o0, b1, s1, o1, hCC, hCM, -⟩ := cn_of hP hV q2 (show i < nl by omega)
            have hR : ∀ v, cs_cr σ i = some v → RtI v := fun v hv => (hV.2.2.2.2 i (by omega) v hv).ri
            have m1 := sm_touched (F := F) (by omega) hP hCM (show i < nl by omega) hR
            have m2 := sm_touched (F := F) (τ := τ1) (by omega) (by rw [f7]; exact hP) (by
              obtain ⟨a1, a2, nl, cp, E, Q, R, a3, a4⟩ := hCM
              exact ⟨a1, a2, nl, cp, E, Q, R, by rw [f7]; exact a3, a4⟩) (show i < nl by omega) hR
            rw [m2, ← m1, t2]
          have := Option.some.inj (u2.symm.trans (hru.trans t2))
          cases t' <;> cases t <;> first | rfl | (exact absurd this (by decide))
        subst htt
        by_cases c1 : r < v.1
        · have c1' : ¬ v.1 ≤ r := fun z => by
            have a1 := Int32.le_iff_toInt_le.mp z
            have a2 := Int32.lt_iff_toInt_lt.mp c1
            omega
          refine cont σ2 τ2 (cnt + 1) 1 (by omega) g3 g4 (fun n => ?_) (fun n => ?_)
          · rw [cu, hq, mo_S, if_pos c1, l78]
          · rw [mu2, h7, bd_s, if_neg c1', l66]
            split <;> rfl
        · have c1' : v.1 ≤ r := by
            rw [Int32.lt_iff_toInt_lt] at c1
            rw [Int32.le_iff_toInt_le]
            omega
          cases t' with
          | true =>
            refine cont σ2 τ2 (cnt + 1) 1 (by omega) g3 g4 (fun n => ?_) (fun n => ?_)
            · rw [cu, hq, mo_S, if_neg c1, u1, bd_s, if_neg (by decide), l78]
            · rw [mu2, if_neg (by decide), l66]
          | false =>
            refine cont σ1 τ1 cnt 0 (by omega) f5 hcc1 (fun n => ?_) (fun n => ?_)
            · rw [cu, hq, mo_S, if_neg c1, u1, bd_s, if_pos (by decide)]
              unfold fc_X9_refresh_L88
              rw [lt_r, I_S]
            · rw [mu2, if_pos (by decide), h7, bd_s, if_pos c1']
              unfold fm_routesThose_L78
              rw [lt_r, I_S]
theorem op_refresh {F : Nat} {σ : CSt} {τ : MS} (hF : 1000000000000 ≤ F) (hC : Core σ τ) (hr : RunOk σ τ) (h17 : G17 σ) : ∃ (r : Int32) (σ' : CSt) (τ' : MS), fc_X9_refresh F σ = some (r, σ') ∧ fm_refresh F τ = some (r, τ') ∧ RtG σ σ' τ τ' 10 := by
  obtain ⟨σ0, τ0, r1, r2, r3, r4⟩ := rem_rt (F := F) (by omega) hC hr
  obtain ⟨nb, nl, -, q1, -, q2, -⟩ := r3.1.num
  obtain ⟨r, σ', τ', g1, g2, g3⟩ := rf_lp hF q1 nl 0 0 σ0 τ0 (by omega) r3.1 (r3.2.1.2.2.2 h17) q2
  have g2' : fm_routesThose_L8 F F τ0 1 0 0 = some (r, τ') := g2 F (by omega)
  refine ⟨r, σ', τ', ?_, ?_, (r3.tr g3).w (by omega)⟩
  · unfold fc_X9_refresh
    rw [r1, bd_s]
    exact g1 F (by omega)
  · unfold fm_refresh fm_routesThose
    rw [r2, bd_s, g2', bd2_s]
