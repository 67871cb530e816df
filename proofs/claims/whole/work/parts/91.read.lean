/-! connector, measure, corner, isOn -/
theorem i_lt {a b : Int32} : (a < b) ↔ ¬ (b ≤ a) := by
  rw [Int32.le_iff_toInt_le, Int32.lt_iff_toInt_lt]
  omega
theorem i_anti {a b : Int32} (h1 : a ≤ b) (h2 : b ≤ a) : a = b := by
  rw [Int32.le_iff_toInt_le] at h1 h2
  exact Int32.toInt_inj.mp (by omega)
theorem i_rf (a : Int32) : a ≤ a := Int32.le_iff_toInt_le.mpr (by omega)
/-- the reference reads a route -/
def RdR (F : Nat) (τ : MS) (c : Nat) (v : RV) : Prop := fm_hasRoute F τ (I c) = some 1 ∧ fm_of F τ (I c) 6 = some 1 ∧ fm_of F τ (I c) 7 = some v.1 ∧ fm_of F τ (I c) 8 = some (I v.2.1) ∧ ∀ k, k < v.2.1 → fm_cornerX F τ (I c) (I k) = some (I (rX v k)) ∧ fm_cornerY F τ (I c) (I k) = some (I (rY v k))
section E2
variable {F : Nat} {σ : CSt} {τ : MS} {c nl : Nat} {v : RV}
theorem rt_get (hC : Core σ τ) (hcc : cs_cc σ = I nl) (hnl : nl ≤ 10) (hc : c < nl) : (cs_cr σ c = none ∧ fm_hasRoute F τ (I c) = some 0 ∧ fm_of F τ (I c) 6 = some 0) ∨ ∃ v, cs_cr σ c = some v ∧ RtI v ∧ RouteOk v ∧ RdR F τ c v := by
  obtain ⟨nb, q1, q2, -, q3, hP, hV⟩ := hC.num2 hcc hnl
  have hh := sm_has (F := F) hP hc (fun v hv => (hV.2.2.2.2 c hc v hv).2.1)
  cases hq : cs_cr σ c with
  | none =>
    rw [hq] at hh
    exact Or.inl ⟨rfl, hh, rd_n hP hc hq⟩
  | some v =>
    rw [hq] at hh
    have hv := hV.2.2.2.2 c hc v hq
    obtain ⟨r6, r7, r8, rc⟩ := rd_m (F := F) hP hc hq hv.2.1
    exact Or.inr ⟨v, rfl, hv.ri, hv, hh, r6, r7, r8, rc⟩
theorem sm_segs (h : RdR F τ c v) (hv : RtI v) : fm_segments F τ (I c) = some (I ((v.2.1 - 1 : Nat) : Int)) := by
  obtain ⟨h1, -, -, h4, -⟩ := h
  have h2 := hv.1
  unfold fm_segments fm_segments_L21
  rw [h1, bd_s, if_neg (by decide), h4, bd_s, I_1, I_sub]
  exact congrArg (fun z => some (I z)) (by omega)
theorem sm_flat (h : RdR F τ c v) (hv : RtI v) {s : Nat} (hs : s + 1 < v.2.1) : fm_isFlat F τ (I c) (I s) = some (b2 (lvB v s)) := by
  obtain ⟨-, -, -, -, rd⟩ := h
  obtain ⟨-, c1⟩ := rd s (by omega)
  obtain ⟨-, c2⟩ := rd (s + 1) hs
  have a1 := hv.2.2.1 s (by omega)
  have a2 := hv.2.2.1 (s + 1) hs
  have e : (I (rY v s) = I (rY v (s + 1))) = (rY v s = rY v (s + 1)) := I_eq (by omega) (by omega) (by omega) (by omega)
  simp only [fm_isFlat, fm_isFlat_L22, c1, I_S, c2, bd_s, e]
  unfold lvB
  by_cases q : rY v s = rY v (s + 1)
  · rw [if_pos q, decide_eq_true q]; rfl
  · rw [if_neg q, decide_eq_false q]; rfl
theorem sm_lx (h : RdR F τ c v) (hv : RtI v) {s : Nat} (hs : s + 1 < v.2.1) : fm_lowX F τ (I c) (I s) = some (I (min (rX v s) (rX v (s + 1)))) ∧ fm_highX F τ (I c) (I s) = some (I (max (rX v s) (rX v (s + 1)))) := by
  obtain ⟨-, -, -, -, rd⟩ := h
  have c1 : fm_cornerX F τ (I c) (I s) = some (I (rX v s)) := by first | exact (rd s (by omega)).1 | exact (rd s (by omega)).2
  have c2 : fm_cornerX F τ (I c) (I ((s + 1 : Nat) : Int)) = some (I (rX v (s + 1))) := by first | exact (rd (s + 1) hs).1 | exact (rd (s + 1) hs).2
  have a1 := hv.2.2.1 s (by omega)
  have a2 := hv.2.2.1 (s + 1) hs
  have e : (I (rX v (s + 1)) ≤ I (rX v s)) = (rX v (s + 1) ≤ rX v s) := I_le (by omega) (by omega) (by omega) (by omega)
  have hl : fm_lowX F τ (I c) (I s) = some (I (min (rX v s) (rX v (s + 1)))) := by
    simp only [fm_lowX, fm_lowX_L34, c1, I_S, c2, bd_s, e]
    by_cases q : rX v (s + 1) ≤ rX v s
    · rw [if_pos q]; exact congrArg (fun z => some (I z)) (by omega)
    · rw [if_neg q]; exact congrArg (fun z => some (I z)) (by omega)
  refine ⟨hl, ?_⟩
  simp only [fm_highX, c1, I_S, c2, bd_s, hl, I_add, I_sub]
  exact congrArg (fun z => some (I z)) (by omega)
theorem sm_ly (h : RdR F τ c v) (hv : RtI v) {s : Nat} (hs : s + 1 < v.2.1) : fm_lowY F τ (I c) (I s) = some (I (min (rY v s) (rY v (s + 1)))) ∧ fm_highY F τ (I c) (I s) = some (I (max (rY v s) (rY v (s + 1)))) := by
  obtain ⟨-, -, -, -, rd⟩ := h
  have c1 : fm_cornerY F τ (I c) (I s) = some (I (rY v s)) := by first | exact (rd s (by omega)).1 | exact (rd s (by omega)).2
  have c2 : fm_cornerY F τ (I c) (I ((s + 1 : Nat) : Int)) = some (I (rY v (s + 1))) := by first | exact (rd (s + 1) hs).1 | exact (rd (s + 1) hs).2
  have a1 := hv.2.2.1 s (by omega)
  have a2 := hv.2.2.1 (s + 1) hs
  have e : (I (rY v (s + 1)) ≤ I (rY v s)) = (rY v (s + 1) ≤ rY v s) := I_le (by omega) (by omega) (by omega) (by omega)
  have hl : fm_lowY F τ (I c) (I s) = some (I (min (rY v s) (rY v (s + 1)))) := by
    simp only [fm_lowY, fm_lowY_L34, c1, I_S, c2, bd_s, e]
    by_cases q : rY v (s + 1) ≤ rY v s
    · rw [if_pos q]; exact congrArg (fun z => some (I z)) (by omega)
    · rw [if_neg q]; exact congrArg (fun z => some (I z)) (by omega)
  refine ⟨hl, ?_⟩
  simp only [fm_highY, c1, I_S, c2, bd_s, hl, I_add, I_sub]
  exact congrArg (fun z => some (I z)) (by omega)
theorem op_connector (hF : 2000 ≤ F) (hC : Core σ τ) (x y : Int32) : ∃ r : Int32, fc_X9_connector F σ x y = some r ∧ fm_connector F τ x y = some r := by
  rcases lk_ok (F := F) hC x with ⟨a1, a2⟩ | ⟨nl, c, h1, h2, h3, rfl, a1, a2⟩
  · unfold fc_X9_connector fm_connector
    rw [a1, a2, bd_s, bd_s]
    exact ⟨-1001, by rw [if_pos rfl], by rw [if_pos rfl]⟩
  · obtain ⟨nb, q1, q2, -, q3, hP, hV⟩ := hC.num2 h3 h1
    obtain ⟨p, b0, s0, o0, b1, s1, o1, hCC, hCM, -⟩ := cn_of hP hV q2 h2
    obtain ⟨⟨hnb, hB, hp, hp0, hp1⟩, hc10, -, -, -, u0, u1, u2, u3, u4, u5⟩ := id hCC
    unfold fc_X9_connector fm_connector
    rw [a1, a2, bd_s, bd_s, if_neg (show ¬ (1 : Int32) = 0 by decide), if_neg (show ¬ (1 : Int32) = 0 by decide), sc_isWithin, sm_in, bd_s, bd_s]
    cases hq : (decide (0 ≤ y) && decide (y ≤ 11)) with
    | false => exact ⟨-1002, by rw [if_pos (show b2 false = 0 by decide)], by rw [if_pos (show b2 false = 0 by decide)]⟩
    | true =>
      obtain ⟨e1, e2, e3⟩ := in_num (a := 0) (b := 11) (by omega) (by omega) (by omega) (by omega) hq
      obtain ⟨j, hj⟩ : ∃ j : Nat, y.toInt = j := ⟨y.toInt.toNat, by omega⟩
      rw [hj] at e1 e2 e3
      subst e1
      rw [if_neg (show ¬ b2 true = 0 by decide), if_neg (show ¬ b2 true = 0 by decide)]
      by_cases c6 : j < 6
      · have z6 : ¬ (6 : Int32) ≤ I j := by rw [I_6, I_le] <;> omega
        have y6 : ¬ I j = 6 := by rw [I_6, I_eq] <;> omega
        have y7 : ¬ I j = 7 := by rw [I_7, I_eq] <;> omega
        have y8 : ¬ I j = 8 := by rw [I_8, I_eq] <;> omega
        have y9 : ¬ I j = 9 := by rw [I_9, I_eq] <;> omega
        have y10 : ¬ I j = 10 := by rw [I_10, I_eq] <;> omega
        have y11 : ¬ I j = 11 := by rw [show (11 : Int32) = I 11 from rfl, I_eq] <;> omega
        rw [if_neg z6, if_neg y6, if_neg y7, if_neg y8, if_neg y9, if_neg y10, if_neg y11, sc_detail c j hc10 c6, sm_of c j hc10 (by omega), hP.2.2.2.2.2.2.1 c hc10 j c6]
        exact ⟨_, rfl, rfl⟩
      · obtain ⟨pX0, pY0⟩ := sc_port (F := F) (σ := σ) (nb := nb) (c := c) (pt := 0) (b := b0) (s := s0) (o := o0) hc10 (by omega) hnb u0 u1 u2 hp0
        obtain ⟨pX1, pY1⟩ := sc_port (F := F) (σ := σ) (nb := nb) (c := c) (pt := 1) (b := b1) (s := s1) (o := o1) hc10 (by omega) hnb u3 u4 u5 hp1
        have pX0' : fc_X1_portX F σ (I c) 0 = _ := pX0
        have pY0' : fc_X1_portY F σ (I c) 0 = _ := pY0
        have pX1' : fc_X1_portX F σ (I c) 1 = _ := pX1
        have pY1' : fc_X1_portY F σ (I c) 1 = _ := pY1
        obtain ⟨⟨mX0, mY0⟩, mX1, mY1⟩ := hCM.pt (F := F) τ rfl 0
        have mX0' : fm_portOf F τ (I c) 0 1 0 = _ := mX0
        have mY0' : fm_portOf F τ (I c) 0 0 0 = _ := mY0
        have mX1' : fm_portOf F τ (I c) 1 1 0 = _ := mX1
        have mY1' : fm_portOf F τ (I c) 1 0 0 = _ := mY1
        unfold fm_connector_L64 fm_connector_L98 fc_X9_connector_L125 fc_X9_connector_L142
        rcases (show j = 6 ∨ j = 7 ∨ j = 8 ∨ j = 9 ∨ j = 10 ∨ j = 11 by omega) with rfl | rfl | rfl | rfl | rfl | rfl
        · rw [if_pos (show I ((6 : Nat) : Int) = 6 by decide), if_pos (show (6 : Int32) ≤ I ((6 : Nat) : Int) by decide), if_neg (show ¬ (10 : Int32) ≤ I ((6 : Nat) : Int) by decide), if_pos (by decide), show (I ((6 : Nat) : Int) - 6) / 2 = 0 by decide, pX0', mX0']
          exact ⟨_, rfl, rfl⟩
        · rw [if_neg (show ¬ I ((7 : Nat) : Int) = 6 by decide), if_pos (show I ((7 : Nat) : Int) = 7 by decide), if_pos (show (6 : Int32) ≤ I ((7 : Nat) : Int) by decide), if_neg (show ¬ (10 : Int32) ≤ I ((7 : Nat) : Int) by decide), if_neg (by decide), show (I ((7 : Nat) : Int) - 6) / 2 = 0 by decide, pY0', mY0']
          exact ⟨_, rfl, rfl⟩
        · rw [if_neg (show ¬ I ((8 : Nat) : Int) = 6 by decide), if_neg (show ¬ I ((8 : Nat) : Int) = 7 by decide), if_pos (show I ((8 : Nat) : Int) = 8 by decide), if_pos (show (6 : Int32) ≤ I ((8 : Nat) : Int) by decide), if_neg (show ¬ (10 : Int32) ≤ I ((8 : Nat) : Int) by decide), if_pos (by decide), show (I ((8 : Nat) : Int) - 6) / 2 = 1 by decide, pX1', mX1']
          exact ⟨_, rfl, rfl⟩
        · rw [if_neg (show ¬ I ((9 : Nat) : Int) = 6 by decide), if_neg (show ¬ I ((9 : Nat) : Int) = 7 by decide), if_neg (show ¬ I ((9 : Nat) : Int) = 8 by decide), if_pos (show I ((9 : Nat) : Int) = 9 by decide), if_pos (show (6 : Int32) ≤ I ((9 : Nat) : Int) by decide), if_neg (show ¬ (10 : Int32) ≤ I ((9 : Nat) : Int) by decide), if_neg (by decide), show (I ((9 : Nat) : Int) - 6) / 2 = 1 by decide, pY1', mY1']
          exact ⟨_, rfl, rfl⟩
        · have ixc : ix (I c) 10 = true := of_eq_true (I_ix (by omega) (by omega) (by omega))
          have n6 : (I c).toNatClampNeg = c := by rw [I_cl (by omega) (by omega)]; omega
          rw [if_neg (show ¬ I ((10 : Nat) : Int) = 6 by decide), if_neg (show ¬ I ((10 : Nat) : Int) = 7 by decide), if_neg (show ¬ I ((10 : Nat) : Int) = 8 by decide), if_neg (show ¬ I ((10 : Nat) : Int) = 9 by decide), if_pos (show I ((10 : Nat) : Int) = 10 by decide), if_pos (show (6 : Int32) ≤ I ((10 : Nat) : Int) by decide), if_pos (show (10 : Int32) ≤ I ((10 : Nat) : Int) by decide), if_pos (show I ((10 : Nat) : Int) = 10 by decide), gd_t ixc, n6]
          rcases rt_get (F := F) hC h3 h1 h2 with ⟨w1, w2, w3⟩ | ⟨v, w1, w2, w3, w4⟩
          · rw [w1, w3]
            exact ⟨0, rfl, rfl⟩
          · rw [w1, w4.2.1]
            exact ⟨1, rfl, rfl⟩
        · obtain ⟨t, t1, t2, -⟩ := tch_ok (F := F) (by omega) hP hV q2 h2
          rw [if_neg (show ¬ I ((11 : Nat) : Int) = 6 by decide), if_neg (show ¬ I ((11 : Nat) : Int) = 7 by decide), if_neg (show ¬ I ((11 : Nat) : Int) = 8 by decide), if_neg (show ¬ I ((11 : Nat) : Int) = 9 by decide), if_neg (show ¬ I ((11 : Nat) : Int) = 10 by decide), if_pos (show I ((11 : Nat) : Int) = 11 by decide), if_pos (show (6 : Int32) ≤ I ((11 : Nat) : Int) by decide), if_pos (show (10 : Int32) ≤ I ((11 : Nat) : Int) by decide), if_neg (show ¬ I ((11 : Nat) : Int) = 10 by decide), t1, t2]
          simp only [bd_s]
          cases t
          · exact ⟨0, by rw [if_pos (show b2 false = 0 by decide)], by rw [if_pos (show b2 false = 0 by decide)]⟩
          · exact ⟨1, by rw [if_neg (show ¬ b2 true = 0 by decide)], by rw [if_neg (show ¬ b2 true = 0 by decide)]⟩
theorem eseg_ (hv : RtI v) : fc_X6_segments F σ v = some (I ((v.2.1 - 1 : Nat) : Int)) := by
  have := hv.1
  unfold fc_X6_segments
  rw [I_nat, I_1, I_sub]
  exact congrArg (fun z => some (I z)) (by omega)
theorem hi_lo (hv : RtI v) {s : Nat} (hs : s + 1 < v.2.1) : hiS v s - loS v s = (lenS v s : Int) ∧ 0 ≤ loS v s ∧ loS v s ≤ 99 ∧ 0 ≤ hiS v s ∧ hiS v s ≤ 99 ∧ loS v s < hiS v s ∧ 0 ≤ liS v s ∧ liS v s ≤ 99 := by
  obtain ⟨h1, h2, h3, h4, -⟩ := hv
  have a1 := h3 s (by omega)
  have a2 := h3 (s + 1) hs
  have a3 := h4 s hs
  unfold hiS loS lenS liS lvB
  by_cases q : rY v s = rY v (s + 1)
  · rw [decide_eq_true q]
    simp only [if_true]
    omega
  · rw [decide_eq_false q]
    simp only [Bool.false_eq_true, if_false]
    omega
theorem sc_length (hF : 1000 ≤ F) (hv : RtI v) : fc_X6_length F σ v = some (sumN (fun k => I (lenS v k)) (v.2.1 - 1)) := by
  have h66 := hv.2.1
  refine lp_r (fun k => (v, sumN (fun k => I (lenS v k)) k, I k)) _ (v.2.1 - 1) rfl (by omega) (fun k rec hk => ?_) (fun rec => ?_)
  · have z1 : ¬ I ((v.2.1 - 1 : Nat) : Int) ≤ I k := by rw [I_le] <;> omega
    have e1 := (hi_lo hv (s := k) (by omega)).1
    simp only [fc_X6_length_L4_c, eseg_ hv, bd_s, z1, if_false, sc_hi hv (show k + 1 < v.2.1 by omega), sc_lo hv (show k + 1 < v.2.1 by omega), I_sub, e1, lt_r, I_S]
    rfl
  · have z1 : I ((v.2.1 - 1 : Nat) : Int) ≤ I ((v.2.1 - 1 : Nat) : Int) := i_rf _
    simp only [fc_X6_length_L4_c, eseg_ hv, bd_s, z1, if_true]
theorem sm_length (hF : 1000 ≤ F) (hv : RtI v) (h : RdR F τ c v) : fm_lengthOf F τ (I c) = some (sumN (fun k => I (lenS v k)) (v.2.1 - 1)) := by
  have h66 := hv.2.1
  have h2 := hv.1
  obtain ⟨-, -, -, r8, rd⟩ := h
  refine lp_r (fun k => (I c, sumN (fun k => I (lenS v k)) k, I ((k + 1 : Nat) : Int))) _ (v.2.1 - 1) rfl (by omega) (fun k rec hk => ?_) (fun rec => ?_)
  · have z1 : ¬ I (v.2.1 : Nat) ≤ I ((k + 1 : Nat) : Int) := by rw [I_le] <;> omega
    obtain ⟨x1, y1⟩ := rd (k + 1) (by omega)
    obtain ⟨x0, y0⟩ := rd k (by omega)
    have b1 := hv.2.2.1 (k + 1) (by omega)
    have b0 := hv.2.2.1 k (by omega)
    have e1 : I ((k + 1 : Nat) : Int) - 1 = I k := by
      rw [I_1, I_sub]
      exact congrArg I (by omega)
    obtain ⟨g1, g2⟩ := I_abs2 (a := rX v (k + 1) - rX v k) (by omega) (by omega)
    obtain ⟨g3, g4⟩ := I_abs2 (a := rY v (k + 1) - rY v k) (by omega) (by omega)
    have fin : I (((rX v (k + 1) - rX v k).natAbs : Nat) : Int) + I (((rY v (k + 1) - rY v k).natAbs : Nat) : Int) = I (lenS v k) := by
      rw [I_add]
      rfl
    show fm_lengthOf_L4_c F τ (fun a b c => rec (a, b, c)) (I c) (sumN (fun k => I (lenS v k)) k) (I ((k + 1 : Nat) : Int)) = rec (I c, sumN (fun k => I (lenS v k)) k + I (lenS v k), I ((k + 1 + 1 : Nat) : Int))
    unfold fm_lengthOf_L4_c fm_lengthOf_L63 fm_lengthOf_L76
    rw [r8, bd_s, if_neg z1, x1, bd_s, e1, x0, bd_s, lt_r, y1, bd_s, y0, bd_s, lt_r, I_sub, I_sub]
    by_cases q1 : (0 : Int32) ≤ I (rX v (k + 1) - rX v k)
    · rw [if_pos q1]
      by_cases q2 : (0 : Int32) ≤ I (rY v (k + 1) - rY v k)
      · rw [if_pos q2, lt_r, lt_r, g1 q1, g3 q2, fin, I_S]
      · rw [if_neg q2, lt_r, lt_r, g1 q1, g4 q2, fin, I_S]
    · rw [if_neg q1]
      by_cases q2 : (0 : Int32) ≤ I (rY v (k + 1) - rY v k)
      · rw [if_pos q2, lt_r, lt_r, g2 q1, g3 q2, fin, I_S]
      · rw [if_neg q2, lt_r, lt_r, g2 q1, g4 q2, fin, I_S]
  · have z1 : I (v.2.1 : Nat) ≤ I ((v.2.1 - 1 + 1 : Nat) : Int) := by rw [I_le] <;> omega
    simp only [fm_lengthOf_L4_c, r8, bd_s, z1, if_true]
theorem op_measure (hF : 2000 ≤ F) (hC : Core σ τ) (x y : Int32) : ∃ r : Int32, fc_X9_measure F σ x y = some r ∧ fm_measure F τ x y = some r := by
  rcases lk_ok (F := F) hC x with ⟨a1, a2⟩ | ⟨nl, c, h1, h2, h3, rfl, a1, a2⟩
  · unfold fc_X9_measure fm_measure
    rw [a1, a2, bd_s, bd_s]
    exact ⟨-1001, by rw [if_pos rfl], by rw [if_pos rfl]⟩
  · unfold fc_X9_measure fm_measure fm_measure_L88
    rw [a1, a2, bd_s, bd_s, if_neg (show ¬ (1 : Int32) = 0 by decide), if_neg (show ¬ (1 : Int32) = 0 by decide), sc_isWithin, sm_in, bd_s, bd_s]
    cases hq : (decide (0 ≤ y) && decide (y ≤ 3)) with
    | false => exact ⟨-1002, by rw [if_pos (show b2 false = 0 by decide)], by rw [if_pos (show b2 false = 0 by decide)]⟩
    | true =>
      have ixc : ix (I c) 10 = true := of_eq_true (I_ix (by omega) (by omega) (by omega))
      have n6 : (I c).toNatClampNeg = c := by rw [I_cl (by omega) (by omega)]; omega
      rw [if_neg (show ¬ b2 true = 0 by decide), if_neg (show ¬ b2 true = 0 by decide), gd_t ixc, n6]
      rcases rt_get (F := F) hC h3 h1 h2 with ⟨w1, w2, w3⟩ | ⟨v, w1, w2, w3, w4⟩
      · rw [w1, w2, bd_s, mo_N]
        exact ⟨-1003, rfl, by rw [if_pos rfl]⟩
      · have h2v := w2.1
        have eseg := eseg_ (F := F) (σ := σ) w2
        have e9 : I v.2.1 - 1 = I ((v.2.1 - 1 : Nat) : Int) := by
          rw [I_1, I_sub]
          exact congrArg I (by omega)
        rw [w1, w4.1, bd_s, if_neg (show ¬ (1 : Int32) = 0 by decide), mo_S, sc_length (by omega) w2, sm_length (by omega) w2 w4, w4.2.2.1, w4.2.2.2.1]
        unfold fc_X6_corners
        simp only [bd_s, eseg, e9, I_nat]
        by_cases y0 : y = 0
        · rw [if_pos y0]; exact ⟨_, rfl, rfl⟩
        · rw [if_neg y0]
          by_cases y1 : y = 1
          · rw [if_pos y1]; exact ⟨_, rfl, rfl⟩
          · rw [if_neg y1]
            by_cases y2 : y = 2
            · rw [if_pos y2]; exact ⟨_, rfl, rfl⟩
            · rw [if_neg y2]; exact ⟨_, rfl, rfl⟩
theorem ro_ok (hC : Core σ τ) (x : Int32) : (fc_X1_routeOf F σ x = some none ∧ (fm_isLink F τ x = some 0 ∨ (fm_isLink F τ x = some 1 ∧ fm_hasRoute F τ x = some 0))) ∨ ∃ (nl c : Nat) (v : RV), nl ≤ 10 ∧ c < nl ∧ cs_cc σ = I nl ∧ x = I c ∧ cs_cr σ c = some v ∧ RtI v ∧ RouteOk v ∧ RdR F τ c v ∧ fc_X1_routeOf F σ x = some (some v) ∧ fm_isLink F τ x = some 1 := by
  rcases lk_ok (F := F) hC x with ⟨a1, a2⟩ | ⟨nl, c, h1, h2, h3, rfl, a1, a2⟩
  · refine Or.inl ⟨?_, Or.inl a2⟩
    unfold fc_X1_routeOf
    rw [a1, bd_s, if_pos rfl]
    rfl
  · have ixc : ix (I c) 10 = true := of_eq_true (I_ix (by omega) (by omega) (by omega))
    have n6 : (I c).toNatClampNeg = c := by rw [I_cl (by omega) (by omega)]; omega
    rcases rt_get (F := F) hC h3 h1 h2 with ⟨w1, w2, w3⟩ | ⟨v, w1, w2, w3, w4⟩
    · refine Or.inl ⟨?_, Or.inr ⟨a2, w2⟩⟩
      unfold fc_X1_routeOf
      rw [a1, bd_s, if_neg (by decide), gd_t ixc, n6, w1, mo_N]
      rfl
    · refine Or.inr ⟨nl, c, v, h1, h2, h3, rfl, w1, w2, w3, w4, ?_, a2⟩
      unfold fc_X1_routeOf
      rw [a1, bd_s, if_neg (by decide), gd_t ixc, n6, w1, mo_S]
      rfl
theorem op_corner (hF : 2000 ≤ F) (hC : Core σ τ) (x y z : Int32) : ∃ r : Int32, fc_X9_corner F σ x y z = some r ∧ fm_corner F τ x y z = some r := by
  unfold fc_X9_corner fm_corner fm_isCorner fm_isCorner_L37 fm_isCorner_L38 fc_X9_corner_L30 fc_X9_corner_L68 fm_corner_L43
  rcases ro_ok (F := F) hC x with ⟨a1, a2⟩ | ⟨nl, c, v, h1, h2, h3, rfl, w1, w2, w3, w4, w5, w6⟩
  · refine ⟨-1001, by rw [a1, bd_s, mo_N], ?_⟩
    rcases a2 with a2 | ⟨a2, a3⟩
    · rw [a2, bd_s, if_pos rfl, gd_0, bd_s, if_pos rfl]
    · rw [a2, bd_s, if_neg (by decide), a3, bd_s, if_pos rfl, gd_0, bd_s, if_pos rfl]
  · have h2v := w2.1
    have h66 := w2.2.1
    have e9 : I v.2.1 - 1 = I ((v.2.1 - 1 : Nat) : Int) := by
      rw [I_1, I_sub]
      exact congrArg I (by omega)
    unfold fc_X6_corners
    rw [w5, bd_s, mo_S, bd_s, I_nat, e9, sc_isWithin, bd_s, w6, bd_s, if_neg (show ¬ (1 : Int32) = 0 by decide), w4.1, bd_s, if_neg (show ¬ (1 : Int32) = 0 by decide), w4.2.2.2.1, bd_s, e9, sm_in, bd_s]
    cases hq : (decide (0 ≤ y) && decide (y ≤ I ((v.2.1 - 1 : Nat) : Int))) with
    | false => exact ⟨-1001, by rw [if_pos (show b2 false = 0 by decide)], by rw [if_pos (show b2 false = 0 by decide), gd_0, bd_s, if_pos rfl]⟩
    | true =>
      obtain ⟨e1, e2, e3⟩ := in_num (a := 0) (b := ((v.2.1 - 1 : Nat) : Int)) (by omega) (by omega) (by omega) (by omega) hq
      obtain ⟨j, hj⟩ : ∃ j : Nat, y.toInt = j := ⟨y.toInt.toNat, by omega⟩
      rw [hj] at e1 e2 e3
      subst e1
      obtain ⟨cx, cy⟩ := w4.2.2.2.2 j (by omega)
      have ixj : ix (I j) v.2.1 = true := of_eq_true (I_ix (by omega) (by omega) (by omega))
      have nj : (I j).toNatClampNeg = j := by rw [I_cl (by omega) (by omega)]; omega
      rw [if_neg (show ¬ b2 true = 0 by decide), if_neg (show ¬ b2 true = 0 by decide), gd_1, bd_s, if_neg (show ¬ (1 : Int32) = 0 by decide), sc_isWithin, bd_s, gd_t ixj, gd_t ixj, nj, rX_I, rY_I, cx, cy, bd_s, bd_s]
      by_cases z0 : z = 0
      · subst z0
        exact ⟨I (rX v j), by rw [if_neg (by decide), if_pos rfl], by rw [if_pos rfl]⟩
      · by_cases z1 : z = 1
        · subst z1
          exact ⟨I (rY v j), by rw [if_neg (by decide), if_neg z0], by rw [if_neg z0, if_pos rfl]⟩
        · have hz : (decide (0 ≤ z) && decide (z ≤ 1)) = false := by
            cases hz : (decide (0 ≤ z) && decide (z ≤ 1)) with
            | false => rfl
            | true =>
              obtain ⟨f1, f2, f3⟩ := in_num (a := 0) (b := 1) (by omega) (by omega) (by omega) (by omega) hz
              rcases (show z.toInt = 0 ∨ z.toInt = 1 by omega) with q | q
              · exact absurd (f1.trans (by rw [q]; rfl)) z0
              · exact absurd (f1.trans (by rw [q]; rfl)) z1
          rw [hz]
          exact ⟨-1002, by rw [if_pos (by decide)], by rw [if_neg z0, if_neg z1]⟩
end E2
