/-! shared, count -/
theorem sumN_cg {f g : Nat → Int32} : ∀ n, (∀ i, i < n → f i = g i) → sumN f n = sumN g n
  | 0, _ => rfl
  | n + 1, h => by
    show sumN f n + f n = sumN g n + g n
    rw [sumN_cg n (fun i hi => h i (by omega)), h n (by omega)]
theorem sumN_add {f g : Nat → Int32} : ∀ n, sumN (fun i => f i + g i) n = sumN f n + sumN g n
  | 0 => rfl
  | n + 1 => by
    show sumN (fun i => f i + g i) n + (f n + g n) = sumN f n + f n + (sumN g n + g n)
    rw [sumN_add n, Int32.add_assoc, Int32.add_assoc, ← Int32.add_assoc (sumN g n), Int32.add_comm (sumN g n) (f n), Int32.add_assoc (f n)]
theorem sumN_z : ∀ n, sumN (fun _ => 0) n = 0
  | 0 => rfl
  | n + 1 => by
    show sumN (fun _ => 0) n + 0 = 0
    rw [sumN_z n]
    rfl
theorem sumN_sw {g : Nat → Nat → Int32} {m : Nat} : ∀ n, sumN (fun i => sumN (g i) m) n = sumN (fun j => sumN (fun i => g i j) n) m
  | 0 => (sumN_z m).symm
  | n + 1 => by
    show sumN (fun i => sumN (g i) m) n + sumN (g n) m = sumN (fun j => sumN (fun i => g i j) n + g n j) m
    rw [sumN_sw n, sumN_add]
theorem crB_sym {v w : RV} {i j : Nat} : crB v w i j = crB w v j i := by
  unfold crB
  rw [show (lvB v i == lvB w j) = (lvB w j == lvB v i) from by cases lvB v i <;> cases lvB w j <;> rfl]
  generalize (decide (loS v i < liS w j) && decide (liS w j < hiS v i)) = p
  generalize (decide (loS w j < liS v i) && decide (liS v i < hiS w j)) = q
  generalize (lvB w j == lvB v i) = e
  cases e <;> cases p <;> cases q <;> rfl
theorem crO_sym (o o' : Option RV) : crO o o' = crO o' o := by
  cases o with
  | none => cases o' <;> rfl
  | some v =>
    cases o' with
    | none => rfl
    | some w =>
      show prS (fun i j => b2 (crB v w i j)) (w.2.1 - 1) (v.2.1 - 1) 0 = prS (fun i j => b2 (crB w v i j)) (v.2.1 - 1) (w.2.1 - 1) 0
      unfold prS
      show sumN _ _ + 0 = sumN _ _ + 0
      rw [Int32.add_zero, Int32.add_zero, sumN_sw]
      refine sumN_cg _ fun j _ => sumN_cg _ fun i _ => ?_
      show b2 (crB v w i j) = b2 (crB w v j i)
      rw [crB_sym]
theorem pair_sum {x : Nat → Nat → Int32} (hs : ∀ i j, x i j = x j i) : ∀ n, sumN (fun i => sumN (fun t => x i (i + 1 + t)) (n - 1 - i)) n = sumN (fun c => sumN (x c) c) n
  | 0 => rfl
  | n + 1 => by
    show sumN (fun i => sumN (fun t => x i (i + 1 + t)) (n + 1 - 1 - i)) n + sumN (fun t => x n (n + 1 + t)) (n + 1 - 1 - n) = sumN (fun c => sumN (x c) c) n + sumN (x n) n
    rw [show n + 1 - 1 - n = 0 by omega, ← pair_sum hs n]
    have h1 : sumN (fun i => sumN (fun t => x i (i + 1 + t)) (n + 1 - 1 - i)) n = sumN (fun i => sumN (fun t => x i (i + 1 + t)) (n - 1 - i) + x i n) n := sumN_cg _ fun i hi => by
      rw [show n + 1 - 1 - i = n - 1 - i + 1 by omega]
      show sumN (fun t => x i (i + 1 + t)) (n - 1 - i) + x i (i + 1 + (n - 1 - i)) = _
      rw [show i + 1 + (n - 1 - i) = n by omega]
    rw [h1, sumN_add, sumN_cg (f := fun i => x i n) (g := x n) n (fun i _ => hs i n)]
    exact Int32.add_zero _
section Q1
variable {F : Nat} {σ : CSt} {τ : MS} {v w : RV} {a b : Nat}
theorem sm_most {x y : Int} (h1 : -1000 ≤ x) (h2 : x ≤ 1000) (h3 : -1000 ≤ y) (h4 : y ≤ 1000) : fm_most F (I x) (I y) = some (I (max x y)) := by
  have e : (I x ≤ I y) = (x ≤ y) := I_le (by omega) (by omega) (by omega) (by omega)
  simp only [fm_most, fm_most_L10, e]
  by_cases q : x ≤ y
  · rw [if_pos q]; exact congrArg (fun z => some (I z)) (by omega)
  · rw [if_neg q]; exact congrArg (fun z => some (I z)) (by omega)
theorem sm_common (hv : RtI v) (hw : RtI w) (rv : RdR F τ a v) (rw_ : RdR F τ b w) {i j : Nat} (hi1 : i + 1 < v.2.1) (hj1 : j + 1 < w.2.1) : fm_common F τ (I a) (I i) (I b) (I j) = some (I (cmI v w i j)) := by
  have bv := hv.2.2.1 i (by omega)
  have bv1 := hv.2.2.1 (i + 1) hi1
  have bw := hw.2.2.1 j (by omega)
  have bw1 := hw.2.2.1 (j + 1) hj1
  obtain ⟨lxv, hxv⟩ := sm_lx rv hv hi1
  obtain ⟨lyv, hyv⟩ := sm_ly rv hv hi1
  obtain ⟨lxw, hxw⟩ := sm_lx rw_ hw hj1
  obtain ⟨lyw, hyw⟩ := sm_ly rw_ hw hj1
  obtain ⟨cxv, cyv⟩ := rv.2.2.2.2 i (by omega)
  obtain ⟨cxw, cyw⟩ := rw_.2.2.2.2 j (by omega)
  have fv := sm_flat rv hv hi1
  have fw := sm_flat rw_ hw hj1
  have l150 : ∀ L H : Int, -1000 ≤ L → L ≤ 1000 → -1000 ≤ H → H ≤ 1000 → fm_common_L150 F τ (I L) (I H) = some (I (max (H - L) 0)) := fun L H a1 a2 b1 b2 => by
    have e : (I H ≤ I L) = (H ≤ L) := I_le (by omega) (by omega) (by omega) (by omega)
    simp only [fm_common_L150, fm_common_L168, e, I_sub]
    by_cases q : H ≤ L
    · rw [if_pos q]; exact congrArg (fun z => some (I z)) (show (0 : Int) = _ by omega)
    · rw [if_neg q]; exact congrArg (fun z => some (I z)) (by omega)
  unfold fm_common fm_common_L60
  rw [fv, bd_s, fw, bd_s]
  simp only [b2_eq, b2_0]
  unfold cmI
  by_cases q1 : lvB v i = lvB w j
  · rw [if_pos q1]
    cases hl : lvB v i with
    | false =>
      have hl2 : lvB w j = false := by rw [← q1]; exact hl
      obtain ⟨u1, u2, u3⟩ := lv_n hl
      obtain ⟨u4, u5, u6⟩ := lv_n hl2
      have e : (I (rX v i) = I (rX w j)) = (rX v i = rX w j) := I_eq (by omega) (by omega) (by omega) (by omega)
      rw [if_pos rfl, cxv, bd_s, cxw, bd_s, hl2, u1, u2, u3, u4, u5, u6]
      simp only [e, true_and]
      by_cases q2 : rX v i = rX w j
      · rw [if_pos q2, if_pos q2]
        unfold fm_common_L62 fm_common_L102
        rw [if_pos (by decide), lyv, bd_s, lyw, bd_s, sm_most (by omega) (by omega) (by omega) (by omega), bd_s, if_pos (by decide), hyv, bd_s, hyw, bd_s, I_neg, I_neg, sm_most (by omega) (by omega) (by omega) (by omega), bd_s, I_neg, l150 _ _ (by omega) (by omega) (by omega) (by omega)]
        exact congrArg (fun z => some (I z)) (by omega)
      · rw [if_neg q2, if_neg q2]; rfl
    | true =>
      have hl2 : lvB w j = true := by rw [← q1]; exact hl
      obtain ⟨u1, u2, u3⟩ := lv_y hl
      obtain ⟨u4, u5, u6⟩ := lv_y hl2
      have e : (I (rY v i) = I (rY w j)) = (rY v i = rY w j) := I_eq (by omega) (by omega) (by omega) (by omega)
      rw [if_neg (by simp), cyv, bd_s, cyw, bd_s, hl2, u1, u2, u3, u4, u5, u6]
      simp only [e, true_and]
      by_cases q2 : rY v i = rY w j
      · rw [if_pos q2, if_pos q2]
        unfold fm_common_L62 fm_common_L102
        rw [if_neg (by decide), lxv, bd_s, lxw, bd_s, sm_most (by omega) (by omega) (by omega) (by omega), bd_s, if_neg (by decide), hxv, bd_s, hxw, bd_s, I_neg, I_neg, sm_most (by omega) (by omega) (by omega) (by omega), bd_s, I_neg, l150 _ _ (by omega) (by omega) (by omega) (by omega)]
        exact congrArg (fun z => some (I z)) (by omega)
      · rw [if_neg q2, if_neg q2]; rfl
  · rw [if_neg q1, if_neg (fun q => q1 q.1)]; rfl
theorem I_lt0 {z : Int} (h1 : -1000 ≤ z) (h2 : z ≤ 1000) : (I z < (0 : Int32)) = (z < 0) := I_lt (b := 0) (by omega) (by omega) (by omega) (by omega)
theorem I_max0 {z : Int} (h1 : -1000 ≤ z) (h2 : z ≤ 1000) : (if I z < (0 : Int32) then (0 : Int32) else I z) = I (max z 0) := by
  have e := I_lt0 h1 h2
  by_cases q : z < 0
  · rw [if_pos (e.mpr q), show max z 0 = 0 by omega]
    rfl
  · rw [if_neg (fun y => q (e.mp y)), show max z 0 = z by omega]
theorem sc_share (hF : 1000 ≤ F) (hv : RtI v) (hw : RtI w) : fc_X6_sharedLengthWith F σ v w = some (prS (fun i j => I (cmI v w i j)) (w.2.1 - 1) (v.2.1 - 1) 0) := by
  have v66 := hv.2.1
  have w66 := hw.2.1
  refine lp_r (fun i => (v, w, prS (fun i j => I (cmI v w i j)) (w.2.1 - 1) i 0, I i)) _ (v.2.1 - 1) (by rw [prS_0] <;> rfl) (by omega) (fun i rec hi => ?_) (fun rec => ?_)
  · have z1 : ¬ I ((v.2.1 - 1 : Nat) : Int) ≤ I i := by rw [I_le] <;> omega
    have hi1 : i + 1 < v.2.1 := by omega
    simp only [fc_X6_sharedLengthWith_L4_c, eseg_ hv, bd_s, z1, if_false]
    refine lp_r (fun j => (v, w, prS (fun i j => I (cmI v w i j)) (w.2.1 - 1) i j, I i, I j)) _ (w.2.1 - 1) rfl (by omega) (fun j rec2 hj => ?_) (fun rec2 => ?_)
    · have z2 : ¬ I ((w.2.1 - 1 : Nat) : Int) ≤ I j := by rw [I_le] <;> omega
      have hj1 : j + 1 < w.2.1 := by omega
      obtain ⟨-, k1, k2, k3, k4, -, b1, b1'⟩ := hi_lo hv hi1
      obtain ⟨-, m1, m2, m3, m4, -, b2', b2''⟩ := hi_lo hw hj1
      have e1 : (if I (hiS w j) < I (hiS v i) then I (hiS w j) else I (hiS v i)) = I (min (hiS v i) (hiS w j)) := I_min k3 k4 m3 m4
      have e2 : (if I (loS v i) < I (loS w j) then I (loS w j) else I (loS v i)) = I (max (loS v i) (loS w j)) := I_max k1 k2 m1 m2
      have e4 : (I (liS v i) = I (liS w j)) = (liS v i = liS w j) := I_eq (by omega) (by omega) (by omega) (by omega)
      simp only [fc_X6_sharedLengthWith_L15_c, fc_X6_sharedLengthWith_L92, eseg_ hw, bd_s, z2, if_false, sc_lvl hv hi1, sc_lvl hw hj1, sc_li hv hi1, sc_li hw hj1, sc_lo hv hi1, sc_lo hw hj1, sc_hi hv hi1, sc_hi hw hj1, lt_r, I_S, b2_eq, e1, e2, I_sub, e4]
      rw [I_max0 (by omega) (by omega), ← prS_S]
      have hcm : cmI v w i j = if lvB v i = lvB w j ∧ liS v i = liS w j then max (min (hiS v i) (hiS w j) - max (loS v i) (loS w j)) 0 else 0 := rfl
      rw [hcm]
      by_cases q1 : lvB v i = lvB w j
      · rw [if_pos q1]
        by_cases q2 : liS v i = liS w j
        · rw [if_pos q2, if_pos ⟨q1, q2⟩]
        · rw [if_neg q2, if_neg (fun q => q2 q.2), ← I_0, Int32.add_zero]
      · rw [if_neg q1, if_neg (fun q => q1 q.1), ← I_0, Int32.add_zero]
    · have z2 : I ((w.2.1 - 1 : Nat) : Int) ≤ I ((w.2.1 - 1 : Nat) : Int) := i_rf _
      show fc_X6_sharedLengthWith_L15_c F σ (fun a b c d => rec (a, b, c, d)) (fun a b c d e => rec2 (a, b, c, d, e)) v w (prS (fun i j => I (cmI v w i j)) (w.2.1 - 1) i (w.2.1 - 1)) (I i) (I ((w.2.1 - 1 : Nat) : Int)) = _
      unfold fc_X6_sharedLengthWith_L15_c
      rw [eseg_ hw, bd_s, if_pos z2, lt_r, I_S, prS_E]
  · have z1 : I ((v.2.1 - 1 : Nat) : Int) ≤ I ((v.2.1 - 1 : Nat) : Int) := i_rf _
    simp only [fc_X6_sharedLengthWith_L4_c, eseg_ hv, bd_s, z1, if_true]
theorem sm_share (hF : 1000 ≤ F) (hv : RtI v) (hw : RtI w) (rv : RdR F τ a v) (rw_ : RdR F τ b w) : fm_shared_L48 F τ F (I a) (I b) 0 0 = some (prS (fun i j => I (cmI v w i j)) (w.2.1 - 1) (v.2.1 - 1) 0) := by
  have v66 := hv.2.1
  have w66 := hw.2.1
  refine lp_r (fun i => (I a, I b, prS (fun i j => I (cmI v w i j)) (w.2.1 - 1) i 0, I i)) _ (v.2.1 - 1) (by rw [prS_0] <;> rfl) (by omega) (fun i rec hi => ?_) (fun rec => ?_)
  · have z1 : ¬ I ((v.2.1 - 1 : Nat) : Int) ≤ I i := by rw [I_le] <;> omega
    simp only [fm_shared_L48_c, sm_segs rv hv, bd_s, z1, if_false]
    refine lp_r (fun j => (I a, I b, prS (fun i j => I (cmI v w i j)) (w.2.1 - 1) i j, I i, I j)) _ (w.2.1 - 1) rfl (by omega) (fun j rec2 hj => ?_) (fun rec2 => ?_)
    · have z2 : ¬ I ((w.2.1 - 1 : Nat) : Int) ≤ I j := by rw [I_le] <;> omega
      simp only [fm_shared_L61_c, sm_segs rw_ hw, bd_s, z2, if_false, sm_common hv hw rv rw_ (show i + 1 < v.2.1 by omega) (show j + 1 < w.2.1 by omega), lt_r, I_S]
      rw [← prS_S]
    · have z2 : I ((w.2.1 - 1 : Nat) : Int) ≤ I ((w.2.1 - 1 : Nat) : Int) := i_rf _
      simp only [fm_shared_L61_c, sm_segs rw_ hw, bd_s, z2, if_true, lt_r, I_S, prS_E]
  · have z1 : I ((v.2.1 - 1 : Nat) : Int) ≤ I ((v.2.1 - 1 : Nat) : Int) := i_rf _
    simp only [fm_shared_L48_c, sm_segs rv hv, bd_s, z1, if_true]
theorem op_shared (hF : 2000 ≤ F) (hC : Core σ τ) (x y : Int32) : ∃ r : Int32, fc_X9_shared F σ x y = some r ∧ fm_shared F τ x y = some r := by
  unfold fc_X9_shared fm_shared fc_X9_shared_L22 fc_X9_shared_L56 fc_X9_shared_L76 fm_shared_L16 fm_shared_L42
  rcases lk_ok (F := F) hC x with ⟨a1, a2⟩ | ⟨nl, c, h1, h2, h3, rfl, a1, a2⟩
  · rw [a1, a2]
    exact ⟨-1001, by rw [bd_s, if_pos rfl], by rw [bd_s, if_pos rfl]⟩
  · rw [a1, a2, bd_s, bd_s, if_neg (show ¬ (1 : Int32) = 0 by decide), if_neg (show ¬ (1 : Int32) = 0 by decide)]
    rcases lk_ok (F := F) hC y with ⟨b1, b2_⟩ | ⟨nl2, d, g1, g2, g3, rfl, b1, b2_⟩
    · rw [b1, b2_]
      exact ⟨-1001, by rw [bd_s, if_pos rfl], by rw [bd_s, if_pos rfl]⟩
    · have hnn : nl2 = nl := by
        have := g3.symm.trans h3
        rw [I_eq (by omega) (by omega) (by omega) (by omega)] at this
        omega
      subst hnn
      have ixc : ix (I c) 10 = true := of_eq_true (I_ix (by omega) (by omega) (by omega))
      have n6 : (I c).toNatClampNeg = c := by rw [I_cl (by omega) (by omega)]; omega
      have ixd : ix (I d) 10 = true := of_eq_true (I_ix (by omega) (by omega) (by omega))
      have n7 : (I d).toNatClampNeg = d := by rw [I_cl (by omega) (by omega)]; omega
      have ecd : (I c = I d) = (c = d) := by
        rw [I_eq (by omega) (by omega) (by omega) (by omega)]
        exact propext ⟨fun q => by omega, fun q => by omega⟩
      have seg0 : ∀ x, fm_hasRoute F τ x = some 0 → fm_segments F τ x = some 0 := fun x hx => by
        unfold fm_segments fm_segments_L21
        rw [hx, bd_s, if_pos rfl]
      simp only [b1, b2_, bd_s, show ¬ (1 : Int32) = 0 by decide, if_false, eq_true ixc, eq_true ixd, gd_T, n6, n7, ecd]
      rcases rt_get (F := F) hC h3 h1 h2 with ⟨w1, w2, w3⟩ | ⟨v, w1, w2, w3, w4⟩
      · rw [w1, mo_N, w2, bd_s, if_pos rfl]
        refine ⟨0, ?_, ?_⟩
        · cases cs_cr σ d with
          | none => rfl
          | some w => rfl
        · by_cases q : c = d
          · rw [if_pos q]
          · rw [if_neg q]
            refine lp_r (fun _ => (I c, I d, 0, 0)) _ 0 rfl (by omega) (fun k rec hk => absurd hk (Nat.not_lt_zero _)) (fun rec => ?_)
            simp only [fm_shared_L48_c, seg0 _ w2, bd_s, show (0 : Int32) ≤ 0 from i_rf 0, if_true]
      · rw [w1, mo_S, w4.1, bd_s, if_neg (show ¬ (1 : Int32) = 0 by decide), sm_length (by omega) w2 w4, bd_s]
        rcases rt_get (F := F) hC h3 h1 g2 with ⟨u1, u2, u3⟩ | ⟨w, u1, u2, u3, u4⟩
        · rw [u1, mo_N]
          have hne : ¬ c = d := fun q => by subst q; rw [w1] at u1; cases u1
          rw [if_neg hne]
          refine ⟨0, rfl, ?_⟩
          have h66 := w2.2.1
          refine lp_r (fun i => (I c, I d, 0, I i)) _ (v.2.1 - 1) rfl (by omega) (fun i rec hi => ?_) (fun rec => ?_)
          · have z1 : ¬ I ((v.2.1 - 1 : Nat) : Int) ≤ I i := by rw [I_le] <;> omega
            simp only [fm_shared_L48_c, sm_segs w4 w2, bd_s, z1, if_false]
            refine lp_r (fun _ => (I c, I d, 0, I i, 0)) _ 0 rfl (by omega) (fun k rec hk => absurd hk (Nat.not_lt_zero _)) (fun rec2 => ?_)
            simp only [fm_shared_L61_c, seg0 _ u2, bd_s, show (0 : Int32) ≤ 0 from i_rf 0, if_true, lt_r, I_S]
          · have z1 : I ((v.2.1 - 1 : Nat) : Int) ≤ I ((v.2.1 - 1 : Nat) : Int) := i_rf _
            simp only [fm_shared_L48_c, sm_segs w4 w2, bd_s, z1, if_true]
        · rw [u1, mo_S]
          by_cases q : c = d
          · rw [if_pos q, if_pos q, sc_length (by omega) w2, bd_s]
            exact ⟨_, rfl, rfl⟩
          · rw [if_neg q, if_neg q, sc_share (by omega) w2 u2, bd_s, sm_share (by omega) w2 u2 w4 u4]
            exact ⟨_, rfl, rfl⟩
def csO : Option RV → Int32
  | none => 0
  | some v => v.1
theorem op_count (hF : 2000 ≤ F) (hC : Core σ τ) (x : Int32) : ∃ r : Int32, fc_X9_count F σ x = some r ∧ fm_count F τ x = some r := by
  obtain ⟨nb, nl, h1, h2, h3, h4, h5, h6, hP, hV⟩ := hC.num
  obtain ⟨T, hT, t1, -⟩ := tn_ok (F := F) (by omega) hC h4 h2
  generalize hg : (fun c => if x = 3 then b2 (T c) else if x = 4 then csO (cs_cr σ c) else if x = 5 then sumN (fun d => crO (cs_cr σ c) (cs_cr σ d)) c else 0) = g
  have hm : fm_count F τ x = bd (fm_in F x 0 5) (fun r97 => if r97 = 0 then some (-1002) else (if x ≤ 2 then (if x = 0 then some (I nb) else (if x = 1 then some (I nl) else some (cs_cp σ))) else some (sumN g nl))) := by
    refine lp_r (fun c => (x, sumN g c, I c)) _ nl rfl (by omega) (fun c rec hc => ?_) (fun rec => ?_)
    · have z1 : ¬ I nl ≤ I c := by rw [I_le] <;> omega
      have l61 : ∀ s, (¬ x = 5 → fm_count_L61 F τ (fun a b c => rec (a, b, c)) F x s (I c) 0 = rec (x, s, I ((c + 1 : Nat) : Int))) ∧ (x = 5 → fm_count_L61 F τ (fun a b c => rec (a, b, c)) F x s (I c) 0 = rec (x, s + sumN (fun d => crO (cs_cr σ c) (cs_cr σ d)) c, I ((c + 1 : Nat) : Int))) := fun s => by
        constructor
        · intro hx
          refine lp_r (fun _ => (x, s, I c, 0)) _ 0 rfl (by omega) (fun k rec hk => absurd hk (Nat.not_lt_zero _)) (fun rec2 => ?_)
          simp only [fm_count_L61_c, fm_count_L88, hx, if_false, lt_r, I_S]
          split <;> rfl
        · intro hx
          refine lp_r (fun d => (x, s + sumN (fun d => crO (cs_cr σ c) (cs_cr σ d)) d, I c, I d)) _ c (by rw [show s + sumN (fun d => crO (cs_cr σ c) (cs_cr σ d)) 0 = s from Int32.add_zero s]; rfl) (by omega) (fun d rec2 hd => ?_) (fun rec2 => ?_)
          · have z2 : ¬ I c ≤ I d := by rw [I_le] <;> omega
            have k2 := (cr_ok (F := F) hF hC h4 h2 hc (show d < nl by omega)).2
            simp only [fm_count_L61_c, z2, if_false, hx, if_true, k2, bd_s, lt_r, I_S]
            rw [Int32.add_assoc]
            rfl
          · simp only [fm_count_L61_c, fm_count_L88, i_rf, if_true, lt_r, I_S]
      show fm_count_L4_c F τ (fun a b c => rec (a, b, c)) x (sumN g c) (I c) = rec (x, sumN g c + g c, I ((c + 1 : Nat) : Int))
      unfold fm_count_L4_c fm_count_L32 fm_count_L55 fm_count_L56
      rw [gd_t (of_eq_true (ix1_ (n := 8625) (by decide))), cN1, h6, if_neg z1, (hT c hc).2.1, bd_s, ← hg]
      by_cases x3 : x = 3
      · subst x3
        rw [if_pos rfl, if_neg (show ¬ (3 : Int32) = 4 by decide), lt_r, lt_r, (l61 _).1 (by decide), (l61 _).1 (by decide)]
        simp only [if_true]
        cases T c with
        | false => rw [if_pos (by decide)]; rfl
        | true => rw [if_neg (by decide)]; rfl
      · rw [if_neg x3]
        simp only [x3, if_false]
        by_cases x4 : x = 4
        · subst x4
          rw [if_pos rfl]
          simp only [if_true]
          rcases rt_get (F := F) hC h4 h2 hc with ⟨w1, w2, w3⟩ | ⟨v, w1, w2, w3, w4⟩
          · rw [w1, w2, bd_s, if_pos rfl, lt_r, (l61 _).1 (by decide)]
            rfl
          · rw [w1, w4.1, bd_s, if_neg (show ¬ (1 : Int32) = 0 by decide), w4.2.2.1, bd_s, lt_r, (l61 _).1 (by decide)]
            rfl
        · rw [if_neg x4, lt_r, Int32.add_zero]
          simp only [x4, if_false]
          by_cases x5 : x = 5
          · rw [(l61 _).2 x5]
            simp only [x5, if_true]
          · rw [(l61 _).1 x5]
            simp only [x5, if_false, Int32.add_zero]
    · have e5 : ms_row τ 2 = cs_cp σ := hP.2.2.2.2.1
      simp only [fm_count_L4_c, fm_count_L151, ix1_ (n := 8625) (by decide), ixz (n := 8625) (by decide), ix28, gd_T, cN0, cN1, cN2, h5, h6, e5, i_rf, if_true]
  rw [hm, sm_in, bd_s]
  unfold fc_X9_count
  by_cases x0 : x = 0
  · subst x0; exact ⟨I nb, by rw [if_pos rfl, h3], by rfl⟩
  · by_cases x1 : x = 1
    · subst x1; exact ⟨I nl, by rw [if_neg x0, if_pos rfl, h4], by rfl⟩
    · by_cases x2 : x = 2
      · subst x2; exact ⟨cs_cp σ, by rw [if_neg x0, if_neg x1, if_pos rfl], by rfl⟩
      · by_cases x3 : x = 3
        · subst x3
          refine ⟨I (cntN T nl), by rw [if_neg x0, if_neg x1, if_neg x2, if_pos rfl, t1, bd_s], ?_⟩
          rw [← sum_I]
          show some (sumN g nl) = _
          rw [← hg]
          exact congrArg some (sumN_cg _ fun i _ => if_pos rfl)
        · by_cases x4 : x = 4
          · subst x4
            refine ⟨sumN (fun c => csO (cs_cr σ c)) nl, ?_, ?_⟩
            · rw [if_neg x0, if_neg x1, if_neg x2, if_neg x3, if_pos rfl]
              have : fc_X1_costOfRoutes F σ = some (sumN (fun c => csO (cs_cr σ c)) nl) := by
                refine lp_r (fun c => (sumN (fun c => csO (cs_cr σ c)) c, I c)) _ nl rfl (by omega) (fun c rec hc => ?_) (fun rec => ?_)
                · have z1 : ¬ I nl ≤ I c := by rw [I_le] <;> omega
                  have n6 : ((c : Nat) : Int).toNat = c := by omega
                  simp (disch := omega) only [fc_X1_costOfRoutes_L4_c, fc_X1_costOfRoutes_L32, h4, z1, if_false, I_ix, gd_T, I_cl, n6, lt_r, I_S]
                  show _ = rec (sumN (fun c => csO (cs_cr σ c)) c + csO (cs_cr σ c), I ((c + 1 : Nat) : Int))
                  cases cs_cr σ c with
                  | none => rfl
                  | some v => rfl
                · simp only [fc_X1_costOfRoutes_L4_c, h4, i_rf, if_true]
              rw [this, bd_s]
            · show some (sumN g nl) = _
              rw [← hg]
              exact congrArg some (sumN_cg _ fun i _ => by show (if (4 : Int32) = 3 then _ else if (4 : Int32) = 4 then _ else _) = _; rw [if_neg (by decide), if_pos rfl])
          · by_cases x5 : x = 5
            · subst x5
              refine ⟨sumN (fun i => sumN (fun t => crO (cs_cr σ i) (cs_cr σ (i + 1 + t))) (nl - 1 - i)) nl, ?_, ?_⟩
              · rw [if_neg x0, if_neg x1, if_neg x2, if_neg x3, if_neg x4, if_pos rfl]
                have : fc_X1_crossingsOfPairs F σ = some (sumN (fun i => sumN (fun t => crO (cs_cr σ i) (cs_cr σ (i + 1 + t))) (nl - 1 - i)) nl) := by
                  refine lp_r (fun i => (sumN (fun i => sumN (fun t => crO (cs_cr σ i) (cs_cr σ (i + 1 + t))) (nl - 1 - i)) i, I i)) _ nl rfl (by omega) (fun i rec hi => ?_) (fun rec => ?_)
                  · have z1 : ¬ I nl ≤ I i := by rw [I_le] <;> omega
                    simp only [fc_X1_crossingsOfPairs_L4_c, h4, z1, if_false, lt_r, I_S]
                    refine lp_r (fun t => (sumN (fun i => sumN (fun t => crO (cs_cr σ i) (cs_cr σ (i + 1 + t))) (nl - 1 - i)) i + sumN (fun t => crO (cs_cr σ i) (cs_cr σ (i + 1 + t))) t, I i, I ((i + 1 + t : Nat) : Int))) _ (nl - 1 - i) (by rw [show ∀ z : Int32, z + sumN (fun t => crO (cs_cr σ i) (cs_cr σ (i + 1 + t))) 0 = z from fun z => Int32.add_zero z] <;> rfl) (by omega) (fun t rec2 ht => ?_) (fun rec2 => ?_)
                    · have z2 : ¬ I nl ≤ I ((i + 1 + t : Nat) : Int) := by rw [I_le] <;> omega
                      have k1 := (cr_ok (F := F) hF hC h4 h2 hi (show i + 1 + t < nl by omega)).1
                      simp only [fc_X1_crossingsOfPairs_L16_c, h4, z2, if_false, k1, bd_s, lt_r, I_S]
                      rw [Int32.add_assoc]
                      rfl
                    · have z2 : I nl ≤ I ((i + 1 + (nl - 1 - i) : Nat) : Int) := by rw [I_le] <;> omega
                      simp only [fc_X1_crossingsOfPairs_L16_c, h4, z2, if_true, lt_r, I_S]
                      rfl
                  · simp only [fc_X1_crossingsOfPairs_L4_c, h4, i_rf, if_true]
                rw [this, bd_s]
              · show some (sumN g nl) = _
                rw [← hg, pair_sum (x := fun i j => crO (cs_cr σ i) (cs_cr σ j)) (fun i j => crO_sym _ _)]
                exact congrArg some (sumN_cg _ fun i _ => by show (if (5 : Int32) = 3 then _ else if (5 : Int32) = 4 then _ else if (5 : Int32) = 5 then _ else _) = _; rw [if_neg (by decide), if_neg (by decide), if_pos rfl])
            · refine ⟨-1002, by rw [if_neg x0, if_neg x1, if_neg x2, if_neg x3, if_neg x4, if_neg x5], ?_⟩
              have hz : (decide (0 ≤ x) && decide (x ≤ 5)) = false := by
                cases hz : (decide (0 ≤ x) && decide (x ≤ 5)) with
                | false => rfl
                | true =>
                  obtain ⟨f1, f2, f3⟩ := in_num (a := 0) (b := 5) (by omega) (by omega) (by omega) (by omega) hz
                  rcases (show x.toInt = 0 ∨ x.toInt = 1 ∨ x.toInt = 2 ∨ x.toInt = 3 ∨ x.toInt = 4 ∨ x.toInt = 5 by omega) with q | q | q | q | q | q
                  · exact absurd (f1.trans (by rw [q]; rfl)) x0
                  · exact absurd (f1.trans (by rw [q]; rfl)) x1
                  · exact absurd (f1.trans (by rw [q]; rfl)) x2
                  · exact absurd (f1.trans (by rw [q]; rfl)) x3
                  · exact absurd (f1.trans (by rw [q]; rfl)) x4
                  · exact absurd (f1.trans (by rw [q]; rfl)) x5
              rw [hz, if_pos (by decide)]
end Q1
