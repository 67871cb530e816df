/-! crossings, shared -/
def crB (v w : RV) (i j : Nat) : Bool := !(lvB v i == lvB w j) && (decide (loS v i < liS w j) && decide (liS w j < hiS v i)) && (decide (loS w j < liS v i) && decide (liS v i < hiS w j))
def cmI (v w : RV) (i j : Nat) : Int := if lvB v i = lvB w j ∧ liS v i = liS w j then max (min (hiS v i) (hiS w j) - max (loS v i) (loS w j)) 0 else 0
/-- a sum over pairs, up to a place -/
def prS (g : Nat → Nat → Int32) (m i j : Nat) : Int32 := sumN (fun i' => sumN (g i') m) i + sumN (g i) j
theorem prS_S (g : Nat → Nat → Int32) (m i j : Nat) : prS g m i j + g i j = prS g m i (j + 1) := Int32.add_assoc _ _ _
theorem prS_E (g : Nat → Nat → Int32) (m i : Nat) : prS g m i m = prS g m (i + 1) 0 := (Int32.add_zero _).symm
theorem prS_0 (g : Nat → Nat → Int32) (m : Nat) : prS g m 0 0 = 0 := rfl
section X1
variable {F : Nat} {σ : CSt} {τ : MS} {v w : RV} {a b : Nat}
theorem sc_inside (hv : RtI v) {s : Nat} (hs : s + 1 < v.2.1) {x : Int} (hx : 0 ≤ x ∧ x ≤ 99) : fc_X6_isInside F σ v (I x) (I s) = some (b2 (decide (loS v s < x) && decide (x < hiS v s))) := by
  obtain ⟨-, l1, l2, l3, l4, -⟩ := hi_lo hv hs
  have e1 : (I x ≤ I (loS v s)) = (x ≤ loS v s) := I_le (by omega) (by omega) (by omega) (by omega)
  have e2 : (I (hiS v s) ≤ I x) = (hiS v s ≤ x) := I_le (by omega) (by omega) (by omega) (by omega)
  simp only [fc_X6_isInside, fc_X6_isInside_L22, fc_X6_isInside_L23, sc_lo hv hs, sc_hi hv hs, bd_s, e1, e2]
  by_cases q1 : x ≤ loS v s
  · rw [if_pos q1, decide_eq_false (by omega)]; rfl
  · rw [if_neg q1, decide_eq_true (by omega)]
    by_cases q2 : hiS v s ≤ x
    · rw [if_pos q2, decide_eq_false (by omega)]; rfl
    · rw [if_neg q2, decide_eq_true (by omega)]; rfl
theorem b2_eq {p q : Bool} : (b2 p = b2 q) = (p = q) := by cases p <;> cases q <;> decide
theorem sc_cross (hF : 1000 ≤ F) (hv : RtI v) (hw : RtI w) : fc_X6_crossingsWith F σ v w = some (prS (fun i j => b2 (crB v w i j)) (w.2.1 - 1) (v.2.1 - 1) 0) := by
  have v66 := hv.2.1
  have w66 := hw.2.1
  refine lp_r (fun i => (v, w, prS (fun i j => b2 (crB v w i j)) (w.2.1 - 1) i 0, I i)) _ (v.2.1 - 1) rfl (by omega) (fun i rec hi => ?_) (fun rec => ?_)
  · have z1 : ¬ I ((v.2.1 - 1 : Nat) : Int) ≤ I i := by rw [I_le] <;> omega
    have hi1 : i + 1 < v.2.1 := by omega
    simp only [fc_X6_crossingsWith_L4_c, eseg_ hv, bd_s, z1, if_false]
    refine lp_r (fun j => (v, w, prS (fun i j => b2 (crB v w i j)) (w.2.1 - 1) i j, I i, I j)) _ (w.2.1 - 1) rfl (by omega) (fun j rec2 hj => ?_) (fun rec2 => ?_)
    · have z2 : ¬ I ((w.2.1 - 1 : Nat) : Int) ≤ I j := by rw [I_le] <;> omega
      have hj1 : j + 1 < w.2.1 := by omega
      obtain ⟨-, -, -, -, -, -, b1⟩ := hi_lo hv hi1
      obtain ⟨-, -, -, -, -, -, b2'⟩ := hi_lo hw hj1
      simp only [fc_X6_crossingsWith_L15_c, fc_X6_crossingsWith_L69, eseg_ hw, bd_s, z2, if_false, sc_lvl hv hi1, sc_lvl hw hj1, sc_li hv hi1, sc_li hw hj1, sc_inside hv hi1 b2', sc_inside hw hj1 b1, lt_r, I_S, b2_eq, b2_0]
      rw [← prS_S]
      unfold crB
      by_cases q1 : lvB v i = lvB w j
      · rw [if_pos q1, q1]
        simp only [beq_self_eq_true, Bool.not_true, Bool.false_and, b2_f, Int32.add_zero]
      · have q1' : (lvB v i == lvB w j) = false := by simpa using q1
        rw [if_neg q1, q1']
        cases (decide (loS v i < liS w j) && decide (liS w j < hiS v i)) with
        | false => simp only [if_true, Bool.not_false, Bool.true_and, Bool.false_and, b2_f, Int32.add_zero]
        | true =>
          cases (decide (loS w j < liS v i) && decide (liS v i < hiS w j)) with
          | false => simp only [Bool.true_eq_false, if_false, if_true, Bool.not_false, Bool.true_and, b2_f, Int32.add_zero]
          | true => simp only [Bool.true_eq_false, if_false, Bool.not_false, Bool.true_and]; rfl
    · have z2 : I ((w.2.1 - 1 : Nat) : Int) ≤ I ((w.2.1 - 1 : Nat) : Int) := i_rf _
      simp only [fc_X6_crossingsWith_L15_c, eseg_ hw, bd_s, z2, if_true, lt_r, I_S, prS_E]
  · have z1 : I ((v.2.1 - 1 : Nat) : Int) ≤ I ((v.2.1 - 1 : Nat) : Int) := i_rf _
    simp only [fc_X6_crossingsWith_L4_c, eseg_ hv, bd_s, z1, if_true]
theorem lv_y (hl : lvB v a = true) : loS v a = min (rX v a) (rX v (a + 1)) ∧ hiS v a = max (rX v a) (rX v (a + 1)) ∧ liS v a = rY v a := ⟨if_pos hl, if_pos hl, if_pos hl⟩
theorem lv_n (hl : lvB v a = false) : loS v a = min (rY v a) (rY v (a + 1)) ∧ hiS v a = max (rY v a) (rY v (a + 1)) ∧ liS v a = rX v a := ⟨if_neg (by rw [hl]; simp), if_neg (by rw [hl]; simp), if_neg (by rw [hl]; simp)⟩
theorem sm_cross (hF : 1000 ≤ F) (hv : RtI v) (hw : RtI w) (rv : RdR F τ a v) (rw_ : RdR F τ b w) : fm_crossingsOf F τ (I a) (I b) = some (prS (fun i j => b2 (crB v w i j)) (w.2.1 - 1) (v.2.1 - 1) 0) := by
  have v66 := hv.2.1
  have w66 := hw.2.1
  refine lp_r (fun i => (I a, I b, prS (fun i j => b2 (crB v w i j)) (w.2.1 - 1) i 0, I i)) _ (v.2.1 - 1) rfl (by omega) (fun i rec hi => ?_) (fun rec => ?_)
  · have z1 : ¬ I ((v.2.1 - 1 : Nat) : Int) ≤ I i := by rw [I_le] <;> omega
    have hi1 : i + 1 < v.2.1 := by omega
    simp only [fm_crossingsOf_L5_c, sm_segs rv hv, bd_s, z1, if_false]
    refine lp_r (fun j => (I a, I b, prS (fun i j => b2 (crB v w i j)) (w.2.1 - 1) i j, I i, I j)) _ (w.2.1 - 1) rfl (by omega) (fun j rec2 hj => ?_) (fun rec2 => ?_)
    · have z2 : ¬ I ((w.2.1 - 1 : Nat) : Int) ≤ I j := by rw [I_le] <;> omega
      have hj1 : j + 1 < w.2.1 := by omega
      have bv := hv.2.2.1 i (by omega)
      have bv1 := hv.2.2.1 (i + 1) hi1
      have bw := hw.2.2.1 j (by omega)
      have bw1 := hw.2.2.1 (j + 1) hj1
      obtain ⟨lxv, hxv⟩ := sm_lx rv hv hi1
      obtain ⟨lyv, hyv⟩ := sm_ly rv hv hi1
      obtain ⟨lxw, hxw⟩ := sm_lx rw_ hw hj1
      obtain ⟨lyw, hyw⟩ := sm_ly rw_ hw hj1
      obtain ⟨cxv, cyv⟩ := rv.2.2.2.2 i (by omega)
      obtain ⟨cxw, cyw⟩ := rw_.2.2.2.2 j (by omega)
      simp only [fm_crossingsOf_L18_c, fm_crossingsOf_L181, sm_segs rw_ hw, bd_s, z2, if_false, sm_flat rv hv hi1, sm_flat rw_ hw hj1, lt_r, I_S, b2_eq]
      rw [← prS_S]
      -- what is added
      have l99 : ∀ (A B C D X Y : Int) (x7 x8 x9 s : Int32), 0 ≤ A → A ≤ 99 → 0 ≤ B → B ≤ 99 → 0 ≤ C → C ≤ 99 → 0 ≤ D → D ≤ 99 → 0 ≤ X → X ≤ 99 → 0 ≤ Y → Y ≤ 99 → fm_cornerX F τ x9 s = some (I X) → fm_cornerY F τ x7 x8 = some (I Y) → fm_lowX F τ x7 x8 = some (I A) → fm_highX F τ x7 x8 = some (I B) → fm_lowY F τ x9 s = some (I C) → fm_highY F τ x9 s = some (I D) → ∀ t, fm_crossingsOf_L99 F τ (fun a b c d => rec (a, b, c, d)) (fun a b c d e => rec2 (a, b, c, d, e)) (I a) (I b) t (I i) (I j) x7 x8 x9 s = rec2 (I a, I b, t + b2 (decide (A < X) && decide (X < B) && (decide (C < Y) && decide (Y < D))), I i, I ((j + 1 : Nat) : Int)) := fun A B C D X Y x7 x8 x9 s a1 a2 b1 b2_ c1 c2 d1 d2 x1 x2 y1 y2 g1 g2 g3 g4 g5 g6 t => by
        have e1 : (I X ≤ I A) = (X ≤ A) := I_le (by omega) (by omega) (by omega) (by omega)
        have e2 : (I B ≤ I X) = (B ≤ X) := I_le (by omega) (by omega) (by omega) (by omega)
        have e3 : (I Y ≤ I C) = (Y ≤ C) := I_le (by omega) (by omega) (by omega) (by omega)
        have e4 : (I D ≤ I Y) = (D ≤ Y) := I_le (by omega) (by omega) (by omega) (by omega)
        simp only [fm_crossingsOf_L99, fm_crossingsOf_L178, fm_crossingsOf_L179, fm_crossingsOf_L181, g1, g2, g3, g4, g5, g6, bd_s, lt_r, I_S, e1, e2, e3, e4]
        by_cases q1 : X ≤ A
        · rw [if_pos q1, decide_eq_false (show ¬ A < X by omega)]; rfl
        · rw [if_neg q1, decide_eq_true (show A < X by omega)]
          by_cases q2 : B ≤ X
          · rw [if_pos q2, decide_eq_false (show ¬ X < B by omega)]; rfl
          · rw [if_neg q2, decide_eq_true (show X < B by omega)]
            by_cases q3 : Y ≤ C
            · rw [if_pos q3, decide_eq_false (show ¬ C < Y by omega)]; rfl
            · rw [if_neg q3, decide_eq_true (show C < Y by omega)]
              by_cases q4 : D ≤ Y
              · rw [if_pos q4, decide_eq_false (show ¬ Y < D by omega)]; rfl
              · rw [if_neg q4, decide_eq_true (show Y < D by omega)]; rfl
      unfold crB
      by_cases q1 : lvB v i = lvB w j
      · rw [if_pos q1, q1]
        simp only [beq_self_eq_true, Bool.not_true, Bool.false_and, b2_f, Int32.add_zero]
      · have q1' : (lvB v i == lvB w j) = false := by simpa using q1
        rw [if_neg q1, q1']
        simp only [b2_0, Bool.not_false, Bool.true_and]
        cases hl : lvB v i with
        | true =>
          have hl2 : lvB w j = false := by
            cases hz : lvB w j with
            | false => rfl
            | true => rw [hl, hz] at q1; exact absurd rfl q1
          obtain ⟨u1, u2, u3⟩ := lv_y hl
          obtain ⟨u4, u5, u6⟩ := lv_n hl2
          simp only [Bool.true_eq_false, if_false, fm_crossingsOf_L59, fm_crossingsOf_L73, fm_crossingsOf_L85, show ¬ b2 true = 0 by decide]
          rw [l99 (min (rX v i) (rX v (i + 1))) (max (rX v i) (rX v (i + 1))) (min (rY w j) (rY w (j + 1))) (max (rY w j) (rY w (j + 1))) (rX w j) (rY v i) _ _ _ _ (by omega) (by omega) (by omega) (by omega) (by omega) (by omega) (by omega) (by omega) (by omega) (by omega) (by omega) (by omega) cxw cyv lxv hxv lyw hyw, u1, u2, u3, u4, u5, u6]
        | false =>
          have hl2 : lvB w j = true := by
            cases hz : lvB w j with
            | true => rfl
            | false => rw [hl, hz] at q1; exact absurd rfl q1
          obtain ⟨u1, u2, u3⟩ := lv_n hl
          obtain ⟨u4, u5, u6⟩ := lv_y hl2
          simp only [if_true, fm_crossingsOf_L59, fm_crossingsOf_L73, fm_crossingsOf_L85, show b2 false = 0 by decide]
          rw [l99 (min (rX w j) (rX w (j + 1))) (max (rX w j) (rX w (j + 1))) (min (rY v i) (rY v (i + 1))) (max (rY v i) (rY v (i + 1))) (rX v i) (rY w j) _ _ _ _ (by omega) (by omega) (by omega) (by omega) (by omega) (by omega) (by omega) (by omega) (by omega) (by omega) (by omega) (by omega) cxv cyw lxw hxw lyv hyv, u1, u2, u3, u4, u5, u6]
          rw [Bool.and_comm (decide (min (rX w j) (rX w (j + 1)) < rX v i) && decide (rX v i < max (rX w j) (rX w (j + 1))))]
    · have z2 : I ((w.2.1 - 1 : Nat) : Int) ≤ I ((w.2.1 - 1 : Nat) : Int) := i_rf _
      simp only [fm_crossingsOf_L18_c, sm_segs rw_ hw, bd_s, z2, if_true, lt_r, I_S, prS_E]
  · have z1 : I ((v.2.1 - 1 : Nat) : Int) ≤ I ((v.2.1 - 1 : Nat) : Int) := i_rf _
    simp only [fm_crossingsOf_L5_c, sm_segs rv hv, bd_s, z1, if_true]
/-- crossings of two connectors -/
def crO (o o' : Option RV) : Int32 := match o, o' with
  | some v, some w => prS (fun i j => b2 (crB v w i j)) (w.2.1 - 1) (v.2.1 - 1) 0
  | _, _ => 0
theorem cr_ok (hF : 2000 ≤ F) {nl c d : Nat} (hC : Core σ τ) (hcc : cs_cc σ = I nl) (hnl : nl ≤ 10) (hc : c < nl) (hd : d < nl) : fc_X1_crossingsOf F σ (I c) (I d) = some (crO (cs_cr σ c) (cs_cr σ d)) ∧ fm_crossingsOf F τ (I c) (I d) = some (crO (cs_cr σ c) (cs_cr σ d)) := by
  have ixc : ix (I c) 10 = true := of_eq_true (I_ix (by omega) (by omega) (by omega))
  have n6 : (I c).toNatClampNeg = c := by rw [I_cl (by omega) (by omega)]; omega
  have ixd : ix (I d) 10 = true := of_eq_true (I_ix (by omega) (by omega) (by omega))
  have n7 : (I d).toNatClampNeg = d := by rw [I_cl (by omega) (by omega)]; omega
  unfold fc_X1_crossingsOf fc_X1_crossingsOf_L24 fc_X1_crossingsOf_L34
  simp only [eq_true ixc, eq_true ixd, gd_T, n6, n7]
  have seg0 : ∀ x, fm_hasRoute F τ x = some 0 → fm_segments F τ x = some 0 := fun x hx => by
    unfold fm_segments fm_segments_L21
    rw [hx, bd_s, if_pos rfl]
  rcases rt_get (F := F) hC hcc hnl hc with ⟨w1, w2, w3⟩ | ⟨v, w1, w2, w3, w4⟩
  · rw [w1, mo_N]
    refine ⟨?_, ?_⟩
    · cases cs_cr σ d with
      | none => rfl
      | some w => rfl
    · refine lp_r (fun _ => (I c, I d, 0, 0)) _ 0 rfl (by omega) (fun k rec hk => absurd hk (Nat.not_lt_zero _)) (fun rec => ?_)
      simp only [fm_crossingsOf_L5_c, seg0 _ w2, bd_s, show (0 : Int32) ≤ 0 from i_rf 0, if_true]
      rfl
  · rw [w1, mo_S]
    rcases rt_get (F := F) hC hcc hnl hd with ⟨u1, u2, u3⟩ | ⟨w, u1, u2, u3, u4⟩
    · rw [u1, mo_N]
      refine ⟨rfl, ?_⟩
      have h66 := w2.2.1
      refine lp_r (fun i => (I c, I d, 0, I i)) _ (v.2.1 - 1) rfl (by omega) (fun i rec hi => ?_) (fun rec => ?_)
      · have z1 : ¬ I ((v.2.1 - 1 : Nat) : Int) ≤ I i := by rw [I_le] <;> omega
        simp only [fm_crossingsOf_L5_c, sm_segs w4 w2, bd_s, z1, if_false]
        refine lp_r (fun _ => (I c, I d, 0, I i, 0)) _ 0 rfl (by omega) (fun k rec hk => absurd hk (Nat.not_lt_zero _)) (fun rec2 => ?_)
        simp only [fm_crossingsOf_L18_c, seg0 _ u2, bd_s, show (0 : Int32) ≤ 0 from i_rf 0, if_true, lt_r, I_S]
      · have z1 : I ((v.2.1 - 1 : Nat) : Int) ≤ I ((v.2.1 - 1 : Nat) : Int) := i_rf _
        simp only [fm_crossingsOf_L5_c, sm_segs w4 w2, bd_s, z1, if_true]
        rfl
    · rw [u1, mo_S, sc_cross (by omega) w2 u2, bd_s]
      exact ⟨rfl, sm_cross (by omega) w2 u2 w4 u4⟩
theorem op_crossings (hF : 2000 ≤ F) (hC : Core σ τ) (x y : Int32) : ∃ r : Int32, fc_X9_crossings F σ x y = some r ∧ fm_crossings F τ x y = some r := by
  unfold fc_X9_crossings fm_crossings fc_X9_crossings_L22 fc_X9_crossings_L44 fm_crossings_L16 fm_crossings_L35
  rcases lk_ok (F := F) hC x with ⟨a1, a2⟩ | ⟨nl, c, h1, h2, h3, rfl, a1, a2⟩
  · rw [a1, a2]
    exact ⟨-1001, by rw [bd_s, if_pos rfl], by rw [bd_s, if_pos rfl]⟩
  · rw [a1, a2, bd_s, bd_s, if_neg (show ¬ (1 : Int32) = 0 by decide), if_neg (show ¬ (1 : Int32) = 0 by decide)]
    rcases lk_ok (F := F) hC y with ⟨b1, b2_⟩ | ⟨nl2, d, g1, g2, g3, rfl, b1, b2_⟩
    · rw [b1, b2_]
      exact ⟨-1001, by rw [bd_s, if_pos rfl], by rw [bd_s, if_pos rfl]⟩
    · have hnn : nl2 = nl := by
        have := g3.symm.trans h3
        rw [I_eq (by omega) (by omega) (by omega) (by omega)] at this
        omega
      subst hnn
      obtain ⟨k1, k2⟩ := cr_ok (F := F) hF hC h3 h1 h2 g2
      rw [b1, b2_, k1, k2]
      simp only [bd_s, show ¬ (1 : Int32) = 0 by decide, if_false]
      by_cases q : I c = I d
      · rw [if_pos q]; exact ⟨_, rfl, rfl⟩
      · rw [if_neg q]; exact ⟨_, rfl, rfl⟩
end X1
