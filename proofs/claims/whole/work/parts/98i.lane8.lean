/-! lane: the call -/
section N9
variable {F : Nat} {σ σ' σ'' σ0 : CSt} {τ τ' τ0 : MS} {R : Nat → Option RV} {nl q0 n b t o c s : Nat} {A B : Nat → Nat} {U V : Nat → Bool} {L : Nat → Int} {v : RV}
theorem is_inn (hv : RtI v) (y : Int32) : fc_X6_isInner F σ v y = some (b2 (decide (1 ≤ y) && decide (y ≤ I ((v.2.1 : Int) - 3)))) := by
  have h66 := hv.2.1
  have h2 := hv.1
  unfold fc_X6_isInner fc_X6_isInner_L19 fc_X6_isInner_L20
  rw [eseg_ hv, bd_s, gd_t (Or.inl rfl), gd_t (Or.inr rfl), I_1, I_sub]
  have e1 : (I (((v.2.1 - 1 : Nat) : Int) - 1) ≤ y) ↔ ¬ (y ≤ I ((v.2.1 : Int) - 3)) := by
    rw [Int32.le_iff_toInt_le, Int32.le_iff_toInt_le, I_toInt (by omega) (by omega), I_toInt (by omega) (by omega)]
    omega
  by_cases g1 : I 1 ≤ y
  · rw [if_neg (fun z => i_lt.mp z g1), decide_eq_true g1]
    by_cases g2 : y ≤ I ((v.2.1 : Int) - 3)
    · rw [if_neg (fun z => e1.mp z g2), decide_eq_true g2]
      rfl
    · rw [if_pos (e1.mpr g2), decide_eq_false g2]
      rfl
  · rw [if_pos (i_lt.mpr g1), decide_eq_false g1]
    rfl
theorem rm_fin (hF : 10000 ≤ F) (hn : n ≤ 800) (hv : RtI v) (hR : RdR F τ c v) (hs : s + 1 < v.2.1) (hu : RbU τ0 B n τ U) (hla : ∀ j, j < n → ms_laneOf τ j = laM (L j)) {j0 : Nat} (hj0 : j0 < n) (hq : B j0 = q0) (hinj : ∀ j, j < n → B j = q0 → j = j0) (hB : ∀ j, j < n → B j < 1000) (hL0 : 0 ≤ L j0) (z ls : Int32) : fm_lane_L62 F F τ (I c) (I s) z (I q0) ls 0 0 = fm_lane_L127 F τ z (I q0) ls (I (L j0)) (I (liS v s)) := by
  obtain ⟨u1, u2, u3, u4⟩ := id hu
  have hq0 := hB j0 hj0
  refine lp_r (fun k => (τ, I c, I s, z, I q0, ls, (if j0 < k then I (L j0) else 0), I k)) _ n rfl (by omega) (fun k rec hk => ?_) (fun rec => ?_)
  · have z1 : ¬ I ((n : Nat) : Int) ≤ I ((k : Nat) : Int) := by rw [I_le] <;> omega
    have ixk : ix (I ((k : Nat) : Int)) 800 = true := of_eq_true (I_ix (by omega) (by omega) (by omega))
    have n7 : (I ((k : Nat) : Int)).toNatClampNeg = k := by rw [I_cl (by omega) (by omega)]; omega
    have hBk := hB k hk
    have e1 : (I ((B k : Nat) : Int) = I ((q0 : Nat) : Int)) = (B k = q0) := by
      rw [I_eq (by omega) (by omega) (by omega) (by omega)]
      exact propext ⟨fun z => by omega, fun z => by omega⟩
    show fm_lane_L62_c F (fun a b c d e f g h => rec (a, b, c, d, e, f, g, h)) τ (I c) (I s) z (I q0) ls (if j0 < k then I (L j0) else 0) (I k) = rec (τ, I c, I s, z, I q0, ls, (if j0 < k + 1 then I (L j0) else 0), I ((k + 1 : Nat) : Int))
    unfold fm_lane_L62_c fm_lane_L95
    rw [u2, if_neg z1, gd_t ixk, n7, u3 k hk, gd_t ixk, hla k hk, lt_r, lt_r, I_S]
    by_cases g : B k = q0
    · have ek := hinj k hk g
      rw [if_pos (e1.mpr g), ek, if_pos (show j0 < j0 + 1 by omega), laM_s hL0]
    · rw [if_neg (fun z => g (e1.mp z))]
      have hne : ¬ k = j0 := fun e => g (by rw [e]; exact hq)
      by_cases y : j0 < k
      · rw [if_pos y, if_pos (by omega)]
      · rw [if_neg y, if_neg (by omega)]
  · show fm_lane_L62_c F (fun a b c d e f g h => rec (a, b, c, d, e, f, g, h)) τ (I c) (I s) z (I q0) ls (if j0 < n then I (L j0) else 0) (I n) = _
    obtain ⟨cx, cy⟩ := hR.2.2.2.2 s (by omega)
    unfold fm_lane_L62_c
    rw [u2, if_pos (i_rf _), sm_flat hR hv hs, bd_s, cx, cy, bd_s, bd_s, if_pos hj0]
    unfold liS
    cases hl : lvB v s with
    | false => rw [if_pos (show b2 false = 0 from rfl), if_neg (by decide)]
    | true => rw [if_neg (show ¬ b2 true = 0 by decide), if_pos rfl]
theorem op_lane (hF : 10000 ≤ F) (hC : Core σ τ) (x y z : Int32) : ∃ (r : Int32) (σ' : CSt) (τ' : MS), fc_X9_lane F σ x y z = some (r, σ') ∧ fm_lane F τ x y z = some (r, τ') ∧ Kq σ σ' ∧ Kr τ τ' := by
  unfold fc_X9_lane fm_lane fc_X9_lane_L24 fm_lane_L23
  rcases lk_ok (F := F) hC x with ⟨a1, a2⟩ | ⟨nl, c, h1, h2, h3, rfl, a1, a2⟩
  · have e1 : fc_X1_routeOf F σ x = some none := by
      unfold fc_X1_routeOf fc_X1_routeOf_L18
      rw [a1, bd_s, if_pos rfl]
    rw [e1, a2]
    exact ⟨-1001, σ, τ, by rw [bd_s, mo_N], by rw [bd_s, if_pos rfl], Kq.rf, Kr.rf⟩
  · have ixc : ix (I c) 10 = true := of_eq_true (I_ix (by omega) (by omega) (by omega))
    have n6 : (I c).toNatClampNeg = c := by rw [I_cl (by omega) (by omega)]; omega
    rcases rt_get (F := F) hC h3 h1 h2 with ⟨w1, w2, w3⟩ | ⟨v, w1, hv, hk, w4⟩
    · have e1 : fc_X1_routeOf F σ (I c) = some none := by
        unfold fc_X1_routeOf fc_X1_routeOf_L18
        rw [a1, bd_s, if_neg (show ¬ (1 : Int32) = 0 by decide), gd_t ixc, n6, w1, mo_N]
      have e2 : fm_segments F τ (I c) = some 0 := by
        unfold fm_segments fm_segments_L21
        rw [w2, bd_s, if_pos rfl]
      have e3 : (decide (1 ≤ y) && decide (y ≤ 0 - 2)) = false := by
        cases hq : (decide (1 ≤ y) && decide (y ≤ 0 - 2)) with
        | false => rfl
        | true =>
          obtain ⟨-, g1, g2⟩ := in_num (a := 1) (b := -2) (by omega) (by omega) (by omega) (by omega) hq
          omega
      rw [e1, a2, bd_s, bd_s, mo_N, if_neg (show ¬ (1 : Int32) = 0 by decide), e2, bd_s, sm_in, bd_s, e3]
      exact ⟨-1001, σ, τ, rfl, by rw [if_pos (show b2 false = 0 by decide)], Kq.rf, Kr.rf⟩
    · have h66 := hv.2.1
      have hv2 := hv.1
      have e1 : fc_X1_routeOf F σ (I c) = some (some v) := sc_rof h1 h3 h2 w1
      have e2 : I ((v.2.1 - 1 : Nat) : Int) - 2 = I ((v.2.1 : Int) - 3) := by rw [I_2, I_sub]; exact congrArg I (by omega)
      rw [e1, a2, bd_s, bd_s, mo_S, if_neg (show ¬ (1 : Int32) = 0 by decide), sm_segs w4 hv, bd_s, e2, sm_in, bd_s, is_inn hv, bd_s]
      cases hq : (decide (1 ≤ y) && decide (y ≤ I ((v.2.1 : Int) - 3))) with
      | false => exact ⟨-1001, σ, τ, by rw [if_pos (show b2 false = 0 by decide)], by rw [if_pos (show b2 false = 0 by decide)], Kq.rf, Kr.rf⟩
      | true =>
        rw [if_neg (show ¬ b2 true = 0 by decide), if_neg (show ¬ b2 true = 0 by decide), sc_isWithin, sm_in, bd_s, bd_s]
        obtain ⟨y1, y2, y3⟩ := in_num (a := 1) (b := (v.2.1 : Int) - 3) (by omega) (by omega) (by omega) (by omega) hq
        obtain ⟨s, hs⟩ : ∃ s : Nat, y.toInt = s := ⟨y.toInt.toNat, by omega⟩
        rw [hs] at y1 y2 y3
        subst y1
        cases hz : (decide (0 ≤ z) && decide (z ≤ 3)) with
        | false => exact ⟨-1002, σ, τ, by rw [if_pos (show b2 false = 0 by decide)], by rw [if_pos (show b2 false = 0 by decide)], Kq.rf, Kr.rf⟩
        | true =>
          rw [if_neg (show ¬ b2 true = 0 by decide), if_neg (show ¬ b2 true = 0 by decide)]
          generalize hRR : cs_cr σ = R at *
          have hRk : ∀ c, c < nl → ∀ v, R c = some v → RtI v ∧ RouteOk v := fun c9 hc9 v9 hv9 => by
            rcases rt_get (F := F) hC h3 h1 hc9 with ⟨g1, -⟩ | ⟨v8, g1, g2, g3, -⟩
            · rw [hRR, hv9] at g1
              cases g1
            · rw [hRR, hv9] at g1
              cases g1
              exact ⟨g2, g3⟩
          have hM : ∀ τ9, Kr τ τ9 → LnQ F τ9 R nl := fun τ9 hk9 => by
            have hC9 : Core σ τ9 := hC.kf Kf.rf hk9.1 hk9.2.1
            obtain ⟨nb, -, -, -, r1, -⟩ := hC9.num2 h3 h1
            refine ⟨h1, r1, fun c9 hc9 => ?_⟩
            rcases rt_get (F := F) hC9 h3 h1 hc9 with ⟨g1, g2, -⟩ | ⟨v8, g1, g2, g3, g4⟩
            · exact Or.inl ⟨by rw [← hRR]; exact g1, g2⟩
            · exact Or.inr ⟨v8, by rw [← hRR]; exact g1, g2, g4⟩
          have q1 : (100 * c + s) / 100 = c := by omega
          have q2 : (100 * c + s) % 100 = s := by omega
          have q3 : rvq R (100 * c + s) = v := rvq_s (by rw [q1]; exact w1)
          have hin : InQ R nl (100 * c + s) := by
            unfold InQ
            rw [q1, q2]
            exact ⟨h2, v, w1, by omega, by omega⟩
          have eq9 : 100 * I ((c : Nat) : Int) + I ((s : Nat) : Int) = I ((100 * c + s : Nat) : Int) := by rw [show (100 : Int32) = I 100 from rfl, I_mul, I_add]; exact congrArg I (by omega)
          obtain ⟨τ9, B, nB, U, LB, ls, m1, m2, m3, m4, m5, m6, m7, m8, m9⟩ := rb_all (F := F) (q0 := 100 * c + s) hF hM hin
          have hBb : ∀ j, j < nB → B j < 1000 := fun j hj => by
            have := (m4.1 j hj).1.1
            omega
          obtain ⟨j0, i1, i2⟩ := m4.2.2 (100 * c + s) hin (by omega)
          have hU0 : U j0 = true := (m9 j0 i1).mpr (by rw [i2]; exact Rq.own)
          have hL0 := m8 j0 i1 hU0
          obtain ⟨-, -, hR9⟩ := hM τ9 m2.1
          have hRd : RdR F τ9 c v := by
            rcases hR9 c h2 with ⟨g1, -⟩ | ⟨v8, g1, g2, g3⟩
            · rw [w1] at g1
              cases g1
            · rw [w1] at g1
              cases g1
              exact g3
          have mf := rm_fin (F := F) (q0 := 100 * c + s) (s := s) hF (by omega) hv hRd (by omega) m2 m5 i1 i2 (fun j hj e => ((m4.ij hj i1).2.mp (by rw [e, i2]))) hBb hL0 z (I ls)
          rw [lt_r, eq9, m1, bd2_s, mf]
          have mp := rm_pul (hM τ9 m2.1) hin
          have ep : puQ R (100 * c + s) = puV v s := by unfold puQ; rw [q2, q3]
          by_cases z0 : z = 0
          · rw [if_pos z0, sc_pul hv (by omega) (by omega), bd_s]
            refine ⟨_, σ, τ9, rfl, ?_, Kq.rf, m2.1⟩
            unfold fm_lane_L127 fm_lane_L179
            rw [if_pos z0, mp, bd_s, ep]
          · rw [if_neg z0]
            obtain ⟨σ1, A, nA, o, g1, ⟨g2, g3, g4, g5, g6, g7, g8⟩, g9⟩ := ga_all (F := F) hF h1 h3 hRR hRk h2 w1 (show 1 ≤ s by omega) (by omega)
            obtain ⟨ho, hAo⟩ := g7 (by omega)
            have hAin : ∀ j, j < nA → InQ R nl (A j) := fun j hj => (g6.1 j hj).1.1
            have hrA : RdA R A nA := fun j hj => by
              obtain ⟨t1, -, t3, -, t5, t6⟩ := (hAin j hj).rd (hM τ Kr.rf)
              exact ⟨t3, t5, t6⟩
            have hco : ∀ i j, i < nA → j < nA → ¬ i = j → coQ R (A i) (A j) = ovA R A i j := fun i j hi hj hij => by
              obtain ⟨-, l1, l2⟩ := (g6.1 i hi).1
              obtain ⟨-, l3, l4⟩ := (g6.1 j hj).1
              cases hov : ovA R A i j with
              | true => exact coQ_i.mpr ⟨fun e => hij ((g6.ij hi hj).2.mp e), l1.trans l3.symm, l2.trans l4.symm, hov⟩
              | false =>
                cases hcc : coQ R (A i) (A j) with
                | false => rfl
                | true =>
                  have hov2 : ovI R (A i) (A j) = false := hov
                  have := (coQ_i.mp hcc).2.2.2
                  rw [hov2] at this
                  exact this.symm
            have hz9 : asN (fun _ => -1) nA = 0 := by
              have : ∀ m, asN (fun _ => -1) m = 0 := fun m => by
                induction m with
                | zero => rfl
                | succ m ih =>
                  show asN (fun _ => -1) m + (if decide ((0 : Int) ≤ -1) then 1 else 0) = 0
                  rw [ih]
                  rfl
              exact this nA
            obtain ⟨σ2, LA, k1, k2, k3, k4⟩ := as_lp (F := F) (σ0 := σ) (o := o) (V := fun _ => false) hF g9 hrA nA 0 F σ1 (fun _ => -1) (by omega) (by omega) ⟨g2, g3, g4, fun j hj => ⟨(g5 j hj).1, (g5 j hj).2.1, (g5 j hj).2.2.1⟩, fun j hj => (g5 j hj).2.2.2.1.trans (show (-1 : Int32) = I (-1) from rfl), fun j hj => (g5 j hj).2.2.2.2⟩ (by rw [hz9]; exact GI.zero fun _ => rfl) hz9
            have casn : asN LA nA ≤ nA := cnt_le (fun k => decide (0 ≤ LA k)) nA
            have hL9 : ∀ j, j < nA → -1 ≤ LA j ∧ LA j < 1000 := fun j hj => by
              have := k3.1 j hj rfl
              omega
            obtain ⟨σ3, V, d1, d2, d3, d4, d5⟩ := lo_all (F := F) (q0 := 100 * c + s) hF g9 hrA hAin hco ho hAo hL9 k2
            have ixo : ix (I ((o : Nat) : Int)) 180 = true := of_eq_true (I_ix (by omega) (by omega) (by omega))
            have no6 : (I ((o : Nat) : Int)).toNatClampNeg = o := by rw [I_cl (by omega) (by omega)]; omega
            have eo : fc_X0_ownLane F σ2 = some (I (LA o)) := by
              unfold fc_X0_ownLane
              rw [k2.2.2.1, gd_t ixo, no6, k2.2.2.2.2.1 o ho]
            have k1' : fc_X0_assignLanes F σ1 = some σ2 := k1
            -- the lists
            have hP0 : PlQ R nl (lvB v s) (liS v s) (100 * c + s) := by
              have := (g6.1 o ho).1
              rw [hAo] at this
              exact this
            have hPc : ∀ a b, PlQ R nl (lvB v s) (liS v s) a → InQ R nl b → coQ R b a = true → PlQ R nl (lvB v s) (liS v s) b := fun a b ha hb hc9 => by
              obtain ⟨-, l1, l2, -⟩ := coQ_i.mp hc9
              exact ⟨hb, l1.trans ha.2.1, l2.trans ha.2.2⟩
            have hRP : ∀ a, Rq R nl (100 * c + s) a → PlQ R nl (lvB v s) (liS v s) a := fun a ha => ha _ hP0 (fun p1 p2 hp1 hp2 hp3 => hPc p1 p2 hp1 hp2 hp3)
            have iA : ∀ a, PlQ R nl (lvB v s) (liS v s) a → ∃ i, i < nA ∧ A i = a := fun a ha => g6.2.2 a ha (by have := ha.1.1; omega)
            have iB : ∀ a, InQ R nl a → ∃ j, j < nB ∧ B j = a := fun a ha => m4.2.2 a ha (by have := ha.1; omega)
            have hVq : ∀ i, i < nA → (V i = true ↔ Rq R nl (100 * c + s) (A i)) := fl_iff g6 (fun a ha => ha.1) (fun a b ha hb hc9 => ⟨hPc a b ha hb hc9, by have := hb.1; omega⟩) hP0 (by omega) (fun k hk e => by
              have : k = o := (g6.ij hk ho).2.mp (by rw [e, hAo])
              rw [this]
              exact d3) d4 d5
            have uq := ln_uq (R := R) (A := A) (B := B) (U := U) (LA := LA) (LB := LB) g6 m4 k3 m6 k4 m8 (fun i j hi hj hij => (hco i j hi hj hij).symm) (fun i j _ _ _ => rfl) (fun j hj i hi e j' hj' hc9 => by
              have hPi := (g6.1 i hi).1
              rw [e] at hPi
              exact iA (B j') (hPc (B j) (B j') hPi (m4.1 j' hj').1 hc9)) (fun i hi j hj e hUj i' hi' hc9 => by
              obtain ⟨j', r1, r2⟩ := iB (A i') (hAin i' hi')
              refine ⟨j', r1, r2.symm, (m9 j' r1).mpr ?_⟩
              rw [r2]
              have hRj := (m9 j hj).mp hUj
              rw [← e] at hRj
              exact hRj.go (hAin i' hi') hc9)
            have elane : LA o = LB j0 := uq o j0 ho i1 (by rw [hAo, i2]) hU0
            obtain ⟨x1, x2, x3⟩ := mxV_ok (V := V) (L := LA) nA
            obtain ⟨l1, l2, l3⟩ := m7
            have els : mxV V LA nA + 1 = ls := by
              have p1 : ls ≤ mxV V LA nA + 1 := by
                rcases l3 with e | ⟨k, r1, r2, r3, r4⟩
                · omega
                · have hRk9 := (m9 k r1).mp r2
                  obtain ⟨i, i3, i4⟩ := iA (B k) (hRP _ hRk9)
                  have u1 := uq i k i3 r1 i4 r2
                  have u2 := x2 i i3 ((hVq i i3).mpr (by rw [i4]; exact hRk9))
                  omega
              have p2 : mxV V LA nA + 1 ≤ ls := by
                rcases x3 with e | ⟨k, r1, r2, r3⟩
                · have := l2 j0 i1 hU0 hL0
                  omega
                · have hRk9 := (hVq k r1).mp r2
                  obtain ⟨j, i3, i4⟩ := iB (A k) (hAin k r1)
                  have hUj : U j = true := (m9 j i3).mpr (by rw [i4]; exact hRk9)
                  have u1 := uq k j r1 i3 i4.symm hUj
                  have u2 := l2 j i3 hUj (m8 j i3 hUj)
                  omega
              omega
            rw [g1, bd_s, k1', bd_s, eo, bd_s, d1, bd2_s, els, elane, sc_li hv (by omega), bd_s]
            unfold fm_lane_L127 fm_lane_L179
            rw [if_neg z0]
            by_cases z1 : z = 1
            · rw [if_pos z1, if_pos z1]
              exact ⟨_, σ3, τ9, rfl, rfl, d2, m2.1⟩
            · rw [if_neg z1, if_neg z1]
              by_cases z2 : z = 2
              · rw [if_pos z2, if_pos z2]
                exact ⟨_, σ3, τ9, rfl, rfl, d2, m2.1⟩
              · rw [if_neg z2, if_neg z2]
                exact ⟨_, σ3, τ9, rfl, rfl, d2, m2.1⟩
end N9
