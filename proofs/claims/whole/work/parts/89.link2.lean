/-! link, drop: both sides -/
theorem FreshC.cg2 {σ σ' : CSt} {c c' : Nat} (hf : FreshC σ c) (e1 : cs_cb σ' = cs_cb σ) (e2 : cs_cp σ' = cs_cp σ) (e3 : cs_ce σ' = cs_ce σ) (e4 : ∀ j, j < 6 → cs_cq σ' (6 * c' + j) = cs_cq σ (6 * c + j)) (e5 : cs_cr σ' c' = cs_cr σ c) (hc : c' < 10) : FreshC σ' c' := by
  obtain ⟨v, h1, nb, B, p, b0, s0, o0, b1, s1, o1, ⟨a1, a2, a3, a4, a5, a6, a7, a8, a9, a10, a11⟩, h3⟩ := hf
  exact ⟨v, e5.trans h1, nb, B, p, b0, s0, o0, b1, s1, o1, ⟨a1, hc, e1.trans a3, by rw [e3]; exact a4, e2.trans a5, (e4 0 (by omega)).trans a6, (e4 1 (by omega)).trans a7, (e4 2 (by omega)).trans a8, (e4 3 (by omega)).trans a9, (e4 4 (by omega)).trans a10, (e4 5 (by omega)).trans a11⟩, h3⟩
theorem cnt_sh {p q : Nat → Bool} {c : Nat} : ∀ m, (∀ i, i < m → i < c → q i = true → p i = true) → (∀ i, i < m → c ≤ i → q i = true → p (i + 1) = true) → (m ≤ c → cntN q m ≤ cntN p m) ∧ (c ≤ m → cntN q m ≤ cntN p (m + 1))
  | 0, _, _ => ⟨fun _ => Nat.le_refl _, fun _ => Nat.zero_le _⟩
  | m + 1, h1, h2 => by
    obtain ⟨i1, i2⟩ := cnt_sh (p := p) (q := q) (c := c) m (fun i hi => h1 i (by omega)) (fun i hi => h2 i (by omega))
    have e1 : cntN q (m + 1) = cntN q m + if q m = true then 1 else 0 := rfl
    have e2 : cntN p (m + 1) = cntN p m + if p m = true then 1 else 0 := rfl
    have e3 : cntN p (m + 1 + 1) = cntN p (m + 1) + if p (m + 1) = true then 1 else 0 := rfl
    have g1 : m < c → (if q m = true then 1 else 0) ≤ (if p m = true then 1 else 0) := fun hc => by
      by_cases hq : q m = true
      · rw [if_pos hq, if_pos (h1 m (by omega) hc hq)]; exact Nat.le_refl _
      · rw [if_neg hq]; exact Nat.zero_le _
    have g2 : c ≤ m → (if q m = true then 1 else 0) ≤ (if p (m + 1) = true then 1 else 0) := fun hc => by
      by_cases hq : q m = true
      · rw [if_pos hq, if_pos (h2 m (by omega) hc hq)]; exact Nat.le_refl _
      · rw [if_neg hq]; exact Nat.zero_le _
    constructor
    · intro hm
      have := i1 (by omega)
      have := g1 (by omega)
      omega
    · intro hm
      by_cases hc : m < c
      · have := i1 (by omega)
        have := g1 hc
        omega
      · have := i2 (by omega)
        have := g2 (by omega)
        omega
section K4
variable {F : Nat} {σ : CSt} {τ : MS}
theorem sc_putPort (c e : Nat) (hc : c < 10) (he : e < 2) (x y z : Int32) : fc_X1_putPort F σ (I c) (I e) x y z = some (cs_cq_s σ (upd (upd (upd (cs_cq σ) (6 * c + 3 * e) x) (6 * c + 3 * e + 1) y) (6 * c + 3 * e + 2) z)) := by
  have i0 : (6 : Int32) * I c + 3 * I e + 0 = I ((6 * c + 3 * e : Nat) : Int) := by rw [I_6, I_3, I_0, I_mul, I_mul, I_add, I_add]; exact congrArg I (by omega)
  have i1 : (6 : Int32) * I c + 3 * I e + 1 = I ((6 * c + 3 * e + 1 : Nat) : Int) := by rw [I_6, I_3, I_1, I_mul, I_mul, I_add, I_add]; exact congrArg I (by omega)
  have i2 : (6 : Int32) * I c + 3 * I e + 2 = I ((6 * c + 3 * e + 2 : Nat) : Int) := by rw [I_6, I_3, I_2, I_mul, I_mul, I_add, I_add]; exact congrArg I (by omega)
  unfold fc_X1_putPort sc_cq
  rw [lt_r, i0, i1, i2, gd_t (of_eq_true (I_ix (by omega) (by omega) (by omega))), lt_r, gd_t (of_eq_true (I_ix (by omega) (by omega) (by omega))), lt_r, gd_t (of_eq_true (I_ix (by omega) (by omega) (by omega))), lt_r, I_cl (by omega) (by omega), I_cl (by omega) (by omega), I_cl (by omega) (by omega), show ((6 * c + 3 * e : Nat) : Int).toNat = 6 * c + 3 * e by omega, show ((6 * c + 3 * e + 1 : Nat) : Int).toNat = 6 * c + 3 * e + 1 by omega, show ((6 * c + 3 * e + 2 : Nat) : Int).toNat = 6 * c + 3 * e + 2 by omega]
  rfl
theorem q_cr {r : Nat → Option RV} {f g : Nat → Int32} {v : Int32} : cs_cq_s (cs_cq_s (cs_cr_s (cs_cc_s σ v) r) f) g = cs_cq_s (cs_cr_s (cs_cc_s σ v) r) g := rfl
set_option maxHeartbeats 4000000 in
theorem op_link (hF : 2000 ≤ F) (hC : Core σ τ) (hr : RunOk σ τ) (x1 x2 x3 x4 x5 x6 : Int32) : ∃ (r : Int32) (σ' : CSt) (τ' : MS), fc_X9_link F σ x1 x2 x3 x4 x5 x6 = some (r, σ') ∧ fm_link F τ x1 x2 x3 x4 x5 x6 = some (r, τ') ∧ OpR σ σ' τ τ' ∧ stl σ' ≤ stl σ + 1 := by
  unfold fc_X9_link fm_link fc_X9_link_L23 fc_X9_link_L56 fm_link_L17 fm_link_L44
  rcases bx_ok (F := F) hC x1 with ⟨a1, a2⟩ | ⟨nb, k, h1, h2, h3, rfl, a1, a2⟩
  · rw [a1, a2, bd_s, bd_s]
    exact ⟨-1001, σ, τ, by rw [if_pos rfl], by rw [if_pos rfl], OpR.rf hC, by omega⟩
  · rw [a1, a2, bd_s, bd_s, if_neg (show ¬ (1 : Int32) = 0 by decide), if_neg (show ¬ (1 : Int32) = 0 by decide)]
    rcases bx_ok (F := F) hC x4 with ⟨a3, a4⟩ | ⟨nb2, k2, h4, h5, h6, rfl, a3, a4⟩
    · rw [a3, a4, bd_s, bd_s]
      exact ⟨-1001, σ, τ, by rw [if_pos rfl], by rw [if_pos rfl], OpR.rf hC, by omega⟩
    · have hnn : nb2 = nb := by
        have := h6.symm.trans h3
        rw [I_eq (by omega) (by omega) (by omega) (by omega)] at this
        omega
      subst hnn
      obtain ⟨nb', nl, -, g2, g3, g4, -, g6, hP, hV⟩ := hC.num
      have hnn : nb' = nb2 := by
        have := g3.symm.trans h3
        have q := hP.1
        rw [I_eq (by omega) (by omega) (by omega) (by omega)] at this
        omega
      subst hnn
      rw [a3, a4, bd_s, bd_s, if_neg (show ¬ (1 : Int32) = 0 by decide), if_neg (show ¬ (1 : Int32) = 0 by decide), sc_hasPort k (by omega), sm_isPort hP k (by omega), bd_s, bd_s]
      cases hp1 : ptB (cs_ce σ) k x2 x3 with
      | false => exact ⟨-1002, σ, τ, by rw [if_pos (by decide)], by rw [if_pos (by decide)], OpR.rf hC, by omega⟩
      | true =>
        rw [if_neg (show ¬ b2 true = 0 by decide), if_neg (show ¬ b2 true = 0 by decide), sc_hasPort k2 (by omega), sm_isPort hP k2 (by omega), bd_s, bd_s]
        cases hp2 : ptB (cs_ce σ) k2 x5 x6 with
        | false => exact ⟨-1002, σ, τ, by rw [if_pos (by decide)], by rw [if_pos (by decide)], OpR.rf hC, by omega⟩
        | true =>
          rw [if_neg (show ¬ b2 true = 0 by decide), if_neg (show ¬ b2 true = 0 by decide)]
          have l70 : ¬ (I k = I k2 ∧ x2 = x5 ∧ x3 = x6) → ∃ (r : Int32) (σ' : CSt) (τ' : MS), fc_X9_link_L82 F σ (I k) x2 x3 (I k2) x5 x6 = some (r, σ') ∧ fm_link_L70 F τ (I k) x2 x3 (I k2) x5 x6 = some (r, τ') ∧ OpR σ σ' τ τ' ∧ stl σ' ≤ stl σ + 1 := fun hdf => by
            unfold fc_X9_link_L82 fm_link_L70
            rw [g4, gd_t (of_eq_true (ix1_ (n := 8625) (by decide))), cN1, g6]
            by_cases h10 : nl = 10
            · subst h10
              exact ⟨-1004, σ, τ, by rw [if_neg (by decide)], by rw [if_pos (by decide)], OpR.rf hC, by omega⟩
            · have z1 : I nl < 10 := by rw [I_10, I_lt] <;> omega
              have z2 : ¬ I nl = 10 := by rw [I_10, I_eq] <;> omega
              obtain ⟨σ1, τ1, c1, c2, ⟨⟨nbx, nlx, d1, d2, hP1, hV1⟩, hH1⟩, k1, kk2, k3, k4, k5⟩ := rem_ok hF hC hr
              have eb : cs_cb σ1 = cs_cb σ := congrArg (fun q : CT_cv => q.1) k4
              have ec : cs_cc σ1 = cs_cc σ := congrArg (fun q : CT_cv => q.2.1) k4
              have ecp : cs_cp σ1 = cs_cp σ := congrArg (fun q : CT_cv => q.2.2.1) k4
              have ece : cs_ce σ1 = cs_ce σ := congrArg (fun q : CT_cv => q.2.2.2.1) k4
              have ecq : cs_cq σ1 = cs_cq σ := congrArg (fun q : CT_cv => q.2.2.2.2.1) k4
              have ecr : cs_cr σ1 = cs_cr σ := congrArg (fun q : CT_cv => q.2.2.2.2.2) k4
              have hnbx : nbx = nb' := by
                have := d1.symm.trans (eb.trans h3)
                have q := hP1.1
                rw [I_eq (by omega) (by omega) (by omega) (by omega)] at this
                omega
              have hnlx : nlx = nl := by
                have := d2.symm.trans (ec.trans g4)
                have q := hP1.2.1
                rw [I_eq (by omega) (by omega) (by omega) (by omega)] at this
                omega
              subst hnbx
              subst hnlx
              have ixc : ix (I nlx) 10 = true := of_eq_true (I_ix (by omega) (by omega) (by omega))
              have n6 : (I nlx).toNatClampNeg = nlx := by rw [I_cl (by omega) (by omega)]; omega
              have pp0 := fun σ => sc_putPort (F := F) (σ := σ) nlx 0 (by omega) (by omega) (I k) x2 x3
              have pp1 := fun σ => sc_putPort (F := F) (σ := σ) nlx 1 (by omega) (by omega) (I k2) x5 x6
              have pp0' : ∀ σ, fc_X1_putPort F σ (I nlx) 0 (I k) x2 x3 = _ := pp0
              have pp1' : ∀ σ, fc_X1_putPort F σ (I nlx) 1 (I k2) x5 x6 = _ := pp1
              have r1 : ms_row τ1 1 = I nlx := hP1.2.2.2.1
              generalize hq' : upd (upd (upd (upd (upd (upd (cs_cq σ1) (6 * nlx + 3 * 0) (I k)) (6 * nlx + 3 * 0 + 1) x2) (6 * nlx + 3 * 0 + 2) x3) (6 * nlx + 3 * 1) (I k2)) (6 * nlx + 3 * 1 + 1) x5) (6 * nlx + 3 * 1 + 2) x6 = q'
              generalize hr' : upd (upd (upd (upd (upd (upd (upd (clF (ms_row τ1) (35 + 169 * nlx) 169) (35 + 169 * nlx + 0) (I k)) (35 + 169 * nlx + 1) x2) (35 + 169 * nlx + 2) x3) (35 + 169 * nlx + 3) (I k2)) (35 + 169 * nlx + 4) x5) (35 + 169 * nlx + 5) x6) 1 (I ((nlx + 1 : Nat) : Int)) = r'
              have hqo : ∀ j, (j < 6 * nlx ∨ 6 * nlx + 6 ≤ j) → q' j = cs_cq σ1 j := fun j hj => by
                rw [← hq']
                unfold upd
                rw [if_neg (by omega), if_neg (by omega), if_neg (by omega), if_neg (by omega), if_neg (by omega), if_neg (by omega)]
              have hro : ∀ j, (j < 35 + 169 * nlx ∨ 35 + 169 * nlx + 169 ≤ j) → j ≠ 1 → r' j = ms_row τ1 j := fun j hj hj1 => by
                rw [← hr']
                unfold upd clF
                rw [if_neg (by omega), if_neg (by omega), if_neg (by omega), if_neg (by omega), if_neg (by omega), if_neg (by omega), if_neg (by omega), if_neg (by omega)]
              have hr1 : r' 1 = I ((nlx + 1 : Nat) : Int) := by rw [← hr']; exact if_pos rfl
              have hr6 : r' (35 + 169 * nlx + 6) = 0 := by
                rw [← hr']
                unfold upd clF
                rw [if_neg (by omega), if_neg (by omega), if_neg (by omega), if_neg (by omega), if_neg (by omega), if_neg (by omega), if_neg (by omega), if_pos (by omega)]
              have hrq : ∀ j, j < 6 → r' (35 + 169 * nlx + j) = q' (6 * nlx + j) := fun j hj => by
                rw [← hr', ← hq']
                unfold upd clF
                rcases (show j = 0 ∨ j = 1 ∨ j = 2 ∨ j = 3 ∨ j = 4 ∨ j = 5 by omega) with rfl | rfl | rfl | rfl | rfl | rfl
                · rw [if_neg (by omega), if_neg (by omega), if_neg (by omega), if_neg (by omega), if_neg (by omega), if_neg (by omega), if_pos (by omega), if_neg (by omega), if_neg (by omega), if_neg (by omega), if_neg (by omega), if_neg (by omega), if_pos (by omega)]
                · rw [if_neg (by omega), if_neg (by omega), if_neg (by omega), if_neg (by omega), if_neg (by omega), if_pos (by omega), if_neg (by omega), if_neg (by omega), if_neg (by omega), if_neg (by omega), if_pos (by omega)]
                · rw [if_neg (by omega), if_neg (by omega), if_neg (by omega), if_neg (by omega), if_pos (by omega), if_neg (by omega), if_neg (by omega), if_neg (by omega), if_pos (by omega)]
                · rw [if_neg (by omega), if_neg (by omega), if_neg (by omega), if_pos (by omega), if_neg (by omega), if_neg (by omega), if_pos (by omega)]
                · rw [if_neg (by omega), if_neg (by omega), if_pos (by omega), if_neg (by omega), if_pos (by omega)]
                · rw [if_neg (by omega), if_pos (by omega), if_pos (by omega)]
              have q0 : q' (6 * nlx) = I k := by rw [← hq']; unfold upd; rw [if_neg (by omega), if_neg (by omega), if_neg (by omega), if_neg (by omega), if_neg (by omega), if_pos (by omega)]
              have q1 : q' (6 * nlx + 1) = x2 := by rw [← hq']; unfold upd; rw [if_neg (by omega), if_neg (by omega), if_neg (by omega), if_neg (by omega), if_pos (by omega)]
              have q2 : q' (6 * nlx + 2) = x3 := by rw [← hq']; unfold upd; rw [if_neg (by omega), if_neg (by omega), if_neg (by omega), if_pos (by omega)]
              have q3 : q' (6 * nlx + 3) = I k2 := by rw [← hq']; unfold upd; rw [if_neg (by omega), if_neg (by omega), if_pos (by omega)]
              have q4 : q' (6 * nlx + 4) = x5 := by rw [← hq']; unfold upd; rw [if_neg (by omega), if_pos (by omega)]
              have q5 : q' (6 * nlx + 5) = x6 := by rw [← hq']; unfold upd; rw [if_pos (by omega)]
              have ncc : cs_cc (cs_cq_s (cs_cr_s (cs_cc_s σ1 (I ((nlx + 1 : Nat) : Int))) (va_up (cs_cr σ1) nlx none)) q') = I ((nlx + 1 : Nat) : Int) := rfl
              refine ⟨I nlx, cs_cq_s (cs_cr_s (cs_cc_s σ1 (I ((nlx + 1 : Nat) : Int))) (va_up (cs_cr σ1) nlx none)) q', ms_row_s τ1 r', ?_, ?_, ⟨⟨⟨nbx, nlx + 1, d1, rfl, ?_, ?_⟩, ?_⟩, k1.tr ⟨rfl, rfl, rfl, fun h => h⟩, kk2.tr ⟨rfl, rfl, rfl, rfl, rfl, rfl, rfl, rfl⟩, k3⟩, ?_⟩
              · rw [if_pos z1, c1, bd_s, lt_r, d2, I_S, lt_r, gd_t ixc, lt_r, n6, pp0', bd_s, pp1', bd_s, zc_cr_cc, zc_cq_cq, zc_cq_cr, zc_cq_cc, q_cr, hq']
              · rw [if_neg z2, c2, bd_s, gd_t (of_eq_true (ix1_ (n := 8625) (by decide))), r1, lt_r]
                have pt := fun (f : Nat → Int32) (j : Nat) (hj : j < 169) (v : Int32) => sm_puts (F := F) (τ := τ1) (f := f) (c := nlx) j (by omega) hj v
                refine lp_r (fun j => (ms_row_s τ1 (clF (ms_row τ1) (35 + 169 * nlx) j), I k, x2, x3, I k2, x5, x6, I nlx, I j)) _ 169 (by rw [clF_0]; rfl) (by omega) (fun j rec hj => ?_) (fun rec => ?_)
                · have z3 : ¬ (169 : Int32) ≤ I j := by rw [I_169, I_le] <;> omega
                  simp only [fm_link_L100_c, z3, if_false, pt _ j hj, bd_s, clF_S, lt_r, I_S]
                · have z3 : (169 : Int32) ≤ I ((169 : Nat) : Int) := by decide
                  have p0 : ∀ f v, fm_puts F (ms_row_s τ1 f) (I nlx) 0 v = _ := fun f v => pt f 0 (by omega) v
                  have p1 : ∀ f v, fm_puts F (ms_row_s τ1 f) (I nlx) 1 v = _ := fun f v => pt f 1 (by omega) v
                  have p2 : ∀ f v, fm_puts F (ms_row_s τ1 f) (I nlx) 2 v = _ := fun f v => pt f 2 (by omega) v
                  have p3 : ∀ f v, fm_puts F (ms_row_s τ1 f) (I nlx) 3 v = _ := fun f v => pt f 3 (by omega) v
                  have p4 : ∀ f v, fm_puts F (ms_row_s τ1 f) (I nlx) 4 v = _ := fun f v => pt f 4 (by omega) v
                  have p5 : ∀ f v, fm_puts F (ms_row_s τ1 f) (I nlx) 5 v = _ := fun f v => pt f 5 (by omega) v
                  show fm_link_L100_c F (fun a b c d e f g h i => rec (a, b, c, d, e, f, g, h, i)) (ms_row_s τ1 (clF (ms_row τ1) (35 + 169 * nlx) 169)) (I k) x2 x3 (I k2) x5 x6 (I nlx) (I ((169 : Nat) : Int)) = _
                  unfold fm_link_L100_c st_row
                  rw [if_pos z3, p0, bd_s, p1, bd_s, p2, bd_s, p3, bd_s, p4, bd_s, p5, bd_s, gd_t (of_eq_true (ix1_ (n := 8625) (by decide))), gd_t (of_eq_true (ix1_ (n := 8625) (by decide))), lt_r, mR_R, cN1, zm_row_row, ← hr']
                  refine congrArg (fun z => some (I nlx, ms_row_s τ1 (upd _ 1 z))) ?_
                  unfold upd clF
                  rw [if_neg (by omega), if_neg (by omega), if_neg (by omega), if_neg (by omega), if_neg (by omega), if_neg (by omega), if_neg (by omega), r1, I_S]
              · obtain ⟨p1, p2, p3, p4, p5, p6, p7, p8⟩ := hP1
                refine ⟨p1, by omega, (hro 0 (by omega) (by omega)).trans p3, hr1, (hro 2 (by omega) (by omega)).trans p5, fun j hj => (hro _ (by omega) (by omega)).trans (p6 j hj), fun c hc j hj => ?_, fun c hc => ?_⟩
                · show r' (35 + 169 * c + j) = q' (6 * c + j)
                  by_cases q : c = nlx
                  · subst q
                    exact hrq j hj
                  · rw [hqo _ (by omega), hro _ (by omega) (by omega)]
                    exact p7 c hc j hj
                · show RtC (fun j => r' (35 + 169 * c + j)) (va_up (cs_cr σ1) nlx none c)
                  by_cases q : c = nlx
                  · subst q
                    rw [va_up_self]
                    exact hr6
                  · rw [va_up_ne _ _ q]
                    exact (p8 c (by omega)).cg fun j hj => hro _ (by omega) (by omega)
              · obtain ⟨w1, w2, w3, w4, w5⟩ := hV1
                refine ⟨w1, w2, w3, fun c hc => ?_, fun c hc v hv => ?_⟩
                · show PortOk nbx (cs_ce σ1) q' (6 * c) ∧ PortOk nbx (cs_ce σ1) q' (6 * c + 3) ∧ ¬ (q' (6 * c) = q' (6 * c + 3) ∧ q' (6 * c + 1) = q' (6 * c + 4) ∧ q' (6 * c + 2) = q' (6 * c + 5))
                  by_cases q : c = nlx
                  · subst q
                    rw [ece]
                    refine ⟨ptB_ok h2 hp1 q0 q1 q2, ptB_ok h5 hp2 q3 q4 q5, ?_⟩
                    rw [q0, q1, q2, q3, q4, q5]
                    exact hdf
                  · obtain ⟨u1, u2, u3⟩ := w4 c (by omega)
                    have hp : ∀ p, p + 2 < 6 * nlx ∨ 6 * nlx + 6 ≤ p → PortOk nbx (cs_ce σ1) (cs_cq σ1) p → PortOk nbx (cs_ce σ1) q' p := fun p hp h => by
                      obtain ⟨b, s, e1, e2, e3, e4, e5, e6⟩ := h
                      refine ⟨b, s, e1, e2, (hqo _ (by omega)).trans e3, (hqo _ (by omega)).trans e4, ?_, ?_⟩
                      · rw [hqo _ (by omega)]; exact e5
                      · rw [hqo _ (by omega)]; exact e6
                    refine ⟨hp _ (by omega) u1, hp _ (by omega) u2, ?_⟩
                    rw [hqo (6 * c) (by omega), hqo (6 * c + 1) (by omega), hqo (6 * c + 2) (by omega), hqo (6 * c + 3) (by omega), hqo (6 * c + 4) (by omega), hqo (6 * c + 5) (by omega)]
                    exact u3
                · have hv' : va_up (cs_cr σ1) nlx none c = some v := hv
                  by_cases q : c = nlx
                  · subst q
                    rw [va_up_self] at hv'
                    cases hv'
                  · rw [va_up_ne _ _ q] at hv'
                    exact w5 c (by omega) v hv'
              · obtain ⟨h, o, z1, z2, z3, z4, z5, z6⟩ := hH1
                exact ⟨h, o, z1, z2, z3, z4, z5, fun i hi => Canv.cg (z6 i hi) (fun j hj => hro _ (by omega) (by omega)) rfl rfl rfl (fun _ _ => rfl) (fun _ _ => rfl) (fun _ _ => rfl)⟩
              · unfold stl
                rw [nlO_I g4 (by omega), nlO_I ncc (by omega)]
                have hc1 : ∀ p : Nat → Bool, cntN p (nlx + 1) ≤ cntN p nlx + 1 := fun p => by
                  show cntN p nlx + (if p nlx = true then 1 else 0) ≤ _
                  split <;> omega
                refine Nat.le_trans (hc1 _) (Nat.succ_le_succ (cntN_sub fun i hi hp => ?_))
                rw [cdec_t] at hp ⊢
                intro hfi
                refine hp (hfi.cg2 eb ecp ece (fun j hj => ?_) ?_ (by omega))
                · exact (hqo _ (by omega)).trans (congrFun ecq _)
                · exact (va_up_ne _ _ (by omega)).trans (congrFun ecr i)
          by_cases e1 : I k = I k2
          · rw [if_pos e1, if_pos e1]
            by_cases e2 : x2 = x5
            · rw [if_pos e2, if_pos e2]
              by_cases e3 : x3 = x6
              · exact ⟨-1003, σ, τ, by rw [if_pos e3], by rw [if_pos e3], OpR.rf hC, by omega⟩
              · rw [if_neg e3, if_neg e3]
                exact l70 fun q => e3 q.2.2
            · rw [if_neg e2, if_neg e2]
              exact l70 fun q => e2 q.2.1
          · rw [if_neg e1, if_neg e1]
            exact l70 fun q => e1 q.1
end K4
