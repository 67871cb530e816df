/-! lanes: the reference gathers and closes -/
section N3
variable {F : Nat} {τ τ0 τ' : MS} {R : Nat → Option RV} {nl q q' : Nat}
theorem Kr_inner (v : Nat → Int32) : Kr τ (ms_inner_s τ v) := ⟨rfl, rfl, rfl, rfl, rfl, rfl, rfl⟩
theorem Kr_laneOf (v : Nat → Int32) : Kr τ (ms_laneOf_s τ v) := ⟨rfl, rfl, rfl, rfl, rfl, rfl, rfl⟩
theorem Kr_isIn (v : Nat → Int32) : Kr τ (ms_isIn_s τ v) := ⟨rfl, rfl, rfl, rfl, rfl, rfl, rfl⟩
theorem Kr_inners (v : Int32) : Kr τ (ms_inners_s τ v) := ⟨rfl, rfl, rfl, rfl, rfl, rfl, rfl⟩
def LnQ (F : Nat) (τ : MS) (R : Nat → Option RV) (nl : Nat) : Prop := nl ≤ 10 ∧ ms_row τ 1 = I nl ∧ ∀ c, c < nl → (R c = none ∧ fm_hasRoute F τ (I c) = some 0) ∨ ∃ v, R c = some v ∧ RtI v ∧ RdR F τ c v
theorem cd_1 : ∀ k : Fin 1100, I ((k.val : Nat) : Int) / 100 = I ((k.val / 100 : Nat) : Int) := by decide +kernel
theorem cd_2 : ∀ k : Fin 1100, I ((k.val : Nat) : Int) - I ((k.val : Nat) : Int) / 100 * 100 = I ((k.val % 100 : Nat) : Int) := by decide +kernel
theorem InQ.rd (h : LnQ F τ R nl) (hq : InQ R nl q) : q < 1000 ∧ rvq R q = rvq R q ∧ RtI (rvq R q) ∧ RdR F τ (q / 100) (rvq R q) ∧ 1 ≤ q % 100 ∧ q % 100 + 2 < (rvq R q).2.1 := by
  obtain ⟨h1, h2, h3⟩ := h
  obtain ⟨q1, v, q2, q3, q4⟩ := hq
  rcases h3 (q / 100) q1 with ⟨g1, -⟩ | ⟨w, g1, g2, g3⟩
  · rw [g1] at q2
    cases q2
  · rw [g1] at q2
    cases q2
    rw [rvq_s g1]
    exact ⟨by omega, rfl, g2, g3, q3, q4⟩
theorem cm_bd {v w : RV} {i j : Nat} (hv : RtI v) (hw : RtI w) (hi : i + 1 < v.2.1) (hj : j + 1 < w.2.1) : 0 ≤ cmI v w i j ∧ cmI v w i j ≤ 99 := by
  obtain ⟨-, k1, k2, k3, k4, -⟩ := hi_lo hv hi
  obtain ⟨-, m1, m2, m3, m4, -⟩ := hi_lo hw hj
  unfold cmI
  split <;> omega
theorem rm_col (h : LnQ F τ R nl) (hq : InQ R nl q) (hq' : InQ R nl q') : fm_collide F τ (I q) (I q') = some (b2 (coQ R q q')) := by
  obtain ⟨a1, -, a2, a3, a4, a5⟩ := hq.rd h
  obtain ⟨c1, -, c2, c3, c4, c5⟩ := hq'.rd h
  have e1 : I ((q : Nat) : Int) / 100 = I ((q / 100 : Nat) : Int) := cd_1 ⟨q, by omega⟩
  have e2 : I ((q : Nat) : Int) - I ((q : Nat) : Int) / 100 * 100 = I ((q % 100 : Nat) : Int) := cd_2 ⟨q, by omega⟩
  have e3 : I ((q' : Nat) : Int) / 100 = I ((q' / 100 : Nat) : Int) := cd_1 ⟨q', by omega⟩
  have e4 : I ((q' : Nat) : Int) - I ((q' : Nat) : Int) / 100 * 100 = I ((q' % 100 : Nat) : Int) := cd_2 ⟨q', by omega⟩
  unfold fm_collide fm_collide_L32 fm_collide_L33
  have e5 : (I ((q : Nat) : Int) = I ((q' : Nat) : Int)) = (q = q') := by
    rw [I_eq (by omega) (by omega) (by omega) (by omega)]
    exact propext ⟨fun z => by omega, fun z => by omega⟩
  unfold coQ
  by_cases hne : q = q'
  · rw [if_pos (e5.mpr hne), gd_t (Or.inl rfl), decide_eq_true hne]
    rfl
  · rw [if_neg (fun z => hne (e5.mp z)), e2, e4, e1, e3, sm_common a2 c2 a3 c3 (by omega) (by omega), bd_s, decide_eq_false hne]
    obtain ⟨g1, g2⟩ := cm_bd (i := q % 100) (j := q' % 100) a2 c2 (by omega) (by omega)
    have e6 : (I (cmI (rvq R q) (rvq R q') (q % 100) (q' % 100)) ≤ 0) = (cmI (rvq R q) (rvq R q') (q % 100) (q' % 100) ≤ 0) := I_le (b := 0) (by omega) (by omega) (by omega) (by omega)
    by_cases g : cmI (rvq R q) (rvq R q') (q % 100) (q' % 100) ≤ 0
    · rw [if_pos (e6.mpr g), gd_t (Or.inl rfl), decide_eq_false (by omega)]
      rfl
    · rw [if_neg (fun z => g (e6.mp z)), gd_t (Or.inr rfl), decide_eq_true (by omega)]
      rfl
theorem rm_pul (h : LnQ F τ R nl) (hq : InQ R nl q) : fm_pullOf F τ (I q) = some (I (puQ R q)) := by
  obtain ⟨a1, -, a2, a3, a4, a5⟩ := hq.rd h
  have e1 : I ((q : Nat) : Int) / 100 = I ((q / 100 : Nat) : Int) := cd_1 ⟨q, by omega⟩
  have e2 : I ((q : Nat) : Int) - I ((q : Nat) : Int) / 100 * 100 = I ((q % 100 : Nat) : Int) := cd_2 ⟨q, by omega⟩
  unfold fm_pullOf fm_pullOf_L74 puQ puV
  generalize hs : q % 100 = s at *
  generalize hv : rvq R q = v at *
  have e3 : I ((s : Nat) : Int) - 1 = I ((s - 1 : Nat) : Int) := by rw [I_1, I_sub]; exact congrArg I (by omega)
  have e4 : I ((s : Nat) : Int) + 2 = I ((s + 2 : Nat) : Int) := by rw [I_2, I_add]; exact congrArg I (by omega)
  rw [lt_r, lt_r, e2, e1, sm_flat a3 a2 (by omega), bd_s, e3, e4]
  obtain ⟨x1, y1⟩ := a3.2.2.2.2 (s - 1) (by omega)
  obtain ⟨x2, y2⟩ := a3.2.2.2.2 (s + 2) (by omega)
  obtain ⟨x3, y3⟩ := a3.2.2.2.2 s (by omega)
  cases hl : lvB v s with
  | false =>
    rw [if_pos (show b2 false = 0 from rfl), x1, bd_s, x2, bd_s, x3, bd_s, I_add, I_2, I_mul, I_sub, if_neg (by decide)]
  | true =>
    rw [if_neg (show ¬ b2 true = 0 by decide), y1, bd_s, y2, bd_s, y3, bd_s, I_add, I_2, I_mul, I_sub, if_pos rfl]
variable {q0 : Nat}
def RbL (τ0 : MS) (R : Nat → Option RV) (nl q0 : Nat) (τ : MS) (B : Nat → Nat) (n b : Nat) : Prop := Kr τ0 τ ∧ ms_inners τ = I n ∧ (∀ j, j < n → ms_inner τ j = I (B j)) ∧ (∀ j, j < n → ms_isIn τ j = b2 (decide (B j = q0))) ∧ LsT (InQ R nl) B n b
theorem rb_s (hF : 10000 ≤ F) (hM : ∀ τ9, Kr τ0 τ9 → LnQ F τ9 R nl) (hq0 : q0 < 1000) {c : Nat} {v : RV} (hc : c < nl) (hR : R c = some v) (k7 : MS → Int32 → Int32 → Option (Int32 × MS)) : ∀ (d s N : Nat) (τ : MS) (B : Nat → Nat) (n : Nat), v.2.1 - 2 - s = d → 1 ≤ s → s ≤ 66 → d < N → RbL τ0 R nl q0 τ B n (100 * c + s) → n ≤ 66 * c + s → ∃ (τ9 : MS) (B9 : Nat → Nat) (n9 : Nat), fm_bundles_L19 F k7 N τ (I q0) (I c) (I s) = k7 τ9 (I q0) (I ((c + 1 : Nat) : Int)) ∧ RbL τ0 R nl q0 τ9 B9 n9 (100 * (c + 1) + 1) ∧ n9 ≤ 66 * (c + 1) + 1 := by
  intro d
  induction d with
  | zero =>
    intro s N τ B n hd hs hs66 hN hL hn
    obtain ⟨N9, rfl⟩ : ∃ N9, N = N9 + 1 := ⟨N - 1, by omega⟩
    obtain ⟨k1, k2, k3, k4, k5⟩ := id hL
    obtain ⟨w1, w2, w3⟩ := hM τ k1
    rcases w3 c hc with ⟨g1, -⟩ | ⟨w, g1, g2, g3⟩
    · rw [g1] at hR
      cases hR
    · rw [g1] at hR
      cases hR
      have z1 : I ((v.2.1 - 1 : Nat) : Int) - 1 ≤ I ((s : Nat) : Int) := by
        have := g2.1
        have := g2.2.1
        rw [I_1, I_sub, I_le] <;> omega
      refine ⟨τ, B, n, ?_, ⟨k1, k2, k3, k4, k5.skip (by omega) fun z hz z1 z2 => ?_⟩, by omega⟩
      · show fm_bundles_L19_c F k7 (fm_bundles_L19 F k7 N9) τ (I q0) (I c) (I s) = _
        unfold fm_bundles_L19_c
        rw [sm_segs g3 g2, bd_s, if_pos z1, lt_r, I_S]
      · obtain ⟨r1, u, r2, r3, r4⟩ := hz
        have e : z / 100 = c := by omega
        rw [e, g1] at r2
        cases r2
        omega
  | succ d ih =>
    intro s N τ B n hd hs hs66 hN hL hn
    obtain ⟨N9, rfl⟩ : ∃ N9, N = N9 + 1 := ⟨N - 1, by omega⟩
    obtain ⟨k1, k2, k3, k4, k5⟩ := id hL
    obtain ⟨w1, w2, w3⟩ := hM τ k1
    rcases w3 c hc with ⟨g1, -⟩ | ⟨w, g1, g2, g3⟩
    · rw [g1] at hR
      cases hR
    · rw [g1] at hR
      cases hR
      have h66 := g2.2.1
      have z1 : ¬ I ((v.2.1 - 1 : Nat) : Int) - 1 ≤ I ((s : Nat) : Int) := by rw [I_1, I_sub, I_le] <;> omega
      have hin : InQ R nl (100 * c + s) := by
        have e1 : (100 * c + s) / 100 = c := by omega
        have e2 : (100 * c + s) % 100 = s := by omega
        unfold InQ
        rw [e1, e2]
        exact ⟨hc, v, g1, hs, by omega⟩
      have ixn : ix (I ((n : Nat) : Int)) 800 = true := of_eq_true (I_ix (by omega) (by omega) (by omega))
      have n6 : (I ((n : Nat) : Int)).toNatClampNeg = n := by rw [I_cl (by omega) (by omega)]; omega
      have e1 : 100 * I ((c : Nat) : Int) + I ((s : Nat) : Int) = I ((100 * c + s : Nat) : Int) := by rw [show (100 : Int32) = I 100 from rfl, I_mul, I_add]; exact congrArg I (by omega)
      have c1 : ms_inners (st_inner τ (I n) (I ((100 * c + s : Nat) : Int))) = I n := k2
      have c2 : ms_inner (st_inner τ (I n) (I ((100 * c + s : Nat) : Int))) n = I ((100 * c + s : Nat) : Int) := by
        show upd (ms_inner τ) (I ((n : Nat) : Int)).toNatClampNeg (I ((100 * c + s : Nat) : Int)) n = _
        rw [n6]
        exact if_pos rfl
      have e5 : (I ((100 * c + s : Nat) : Int) = I ((q0 : Nat) : Int)) = (100 * c + s = q0) := by
        rw [I_eq (by omega) (by omega) (by omega) (by omega)]
        exact propext ⟨fun z => by omega, fun z => by omega⟩
      have em : fm_bundles_L19 F k7 (N9 + 1) τ (I q0) (I c) (I s) = fm_bundles_L19 F k7 N9 (ms_inners_s (st_isIn (st_inner τ (I n) (I ((100 * c + s : Nat) : Int))) (I n) (b2 (decide (100 * c + s = q0)))) (I ((n + 1 : Nat) : Int))) (I q0) (I c) (I ((s + 1 : Nat) : Int)) := by
        show fm_bundles_L19_c F k7 (fm_bundles_L19 F k7 N9) τ (I q0) (I c) (I s) = _
        have c3 : ∀ w : Int32, ms_inners (st_isIn (st_inner τ (I n) (I ((100 * c + s : Nat) : Int))) (I n) w) = I n := fun _ => k2
        unfold fm_bundles_L19_c fm_bundles_L71
        rw [sm_segs g3 g2, bd_s, if_neg z1, k2, gd_t ixn, e1, lt_r, c1, gd_t ixn, n6, c2]
        by_cases g : 100 * c + s = q0
        · rw [if_pos (e5.mpr g), gd_t ixn, gd_t (Or.inr rfl), lt_r, lt_r, lt_r, c3, I_S, I_S, decide_eq_true g]
          rfl
        · rw [if_neg (fun z => g (e5.mp z)), gd_t ixn, gd_t (Or.inl rfl), lt_r, lt_r, lt_r, c3, I_S, I_S, decide_eq_false g]
          rfl
      rw [em]
      refine ih (s + 1) N9 _ (updN B n (100 * c + s)) (n + 1) (by omega) (by omega) (by omega) (by omega) ⟨?_, rfl, fun j hj => ?_, fun j hj => ?_, k5.add hin⟩ (by omega)
      · exact (((k1.tr (Kr_inner _)).tr (Kr_isIn _))).tr (Kr_inners _)
      · show upd (ms_inner τ) (I ((n : Nat) : Int)).toNatClampNeg (I ((100 * c + s : Nat) : Int)) j = I ((updN B n (100 * c + s) j : Nat) : Int)
        rw [n6]
        unfold upd updN
        by_cases ej : j = n
        · rw [if_pos ej, if_pos ej]
        · rw [if_neg ej, if_neg ej]
          exact k3 j (by omega)
      · show upd (ms_isIn τ) (I ((n : Nat) : Int)).toNatClampNeg (b2 (decide (100 * c + s = q0))) j = b2 (decide (updN B n (100 * c + s) j = q0))
        rw [n6]
        unfold upd updN
        by_cases ej : j = n
        · rw [if_pos ej, if_pos ej]
        · rw [if_neg ej, if_neg ej]
          exact k4 j (by omega)
theorem rb_c (hF : 10000 ≤ F) (hM : ∀ τ9, Kr τ0 τ9 → LnQ F τ9 R nl) (hq0 : q0 < 1000) : ∀ (d c N : Nat) (τ : MS) (B : Nat → Nat) (n : Nat), c + d = nl → d < N → RbL τ0 R nl q0 τ B n (100 * c + 1) → n ≤ 66 * c + 1 → ∃ (τ9 : MS) (B9 : Nat → Nat) (n9 : Nat), fm_bundles_L7 F N τ (I q0) (I c) = fm_bundles_L96 F F τ9 1 ∧ RbL τ0 R nl q0 τ9 B9 n9 (100 * nl + 1) ∧ n9 ≤ 66 * nl + 1 := by
  intro d
  induction d with
  | zero =>
    intro c N τ B n hd hN hL hn
    obtain ⟨N9, rfl⟩ : ∃ N9, N = N9 + 1 := ⟨N - 1, by omega⟩
    obtain ⟨w1, w2, w3⟩ := hM τ hL.1
    have e : c = nl := by omega
    subst e
    refine ⟨τ, B, n, ?_, hL, hn⟩
    show fm_bundles_L7_c F (fm_bundles_L7 F N9) τ (I q0) (I c) = _
    unfold fm_bundles_L7_c
    rw [gd_t (of_eq_true (ix1_ (n := 8625) (by decide))), cN1, w2, if_pos (i_rf _)]
  | succ d ih =>
    intro c N τ B n hd hN hL hn
    obtain ⟨N9, rfl⟩ : ∃ N9, N = N9 + 1 := ⟨N - 1, by omega⟩
    obtain ⟨w1, w2, w3⟩ := hM τ hL.1
    have z1 : ¬ I ((nl : Nat) : Int) ≤ I ((c : Nat) : Int) := by rw [I_le] <;> omega
    have em : fm_bundles_L7 F (N9 + 1) τ (I q0) (I c) = fm_bundles_L19 F (fm_bundles_L7 F N9) F τ (I q0) (I c) 1 := by
      show fm_bundles_L7_c F (fm_bundles_L7 F N9) τ (I q0) (I c) = _
      unfold fm_bundles_L7_c
      rw [gd_t (of_eq_true (ix1_ (n := 8625) (by decide))), cN1, w2, if_neg z1]
    rw [em]
    rcases w3 c (by omega) with ⟨g1, g2⟩ | ⟨v, g1, g2, g3⟩
    · have e2 : fm_bundles_L19 F (fm_bundles_L7 F N9) F τ (I q0) (I c) 1 = fm_bundles_L7 F N9 τ (I q0) (I ((c + 1 : Nat) : Int)) := by
        obtain ⟨K, hK⟩ : ∃ K, F = K + 1 := ⟨F - 1, by omega⟩
        have stp : ∀ K : Nat, fm_bundles_L19 F (fm_bundles_L7 F N9) (K + 1) τ (I q0) (I c) 1 = fm_bundles_L19_c F (fm_bundles_L7 F N9) (fm_bundles_L19 F (fm_bundles_L7 F N9) K) τ (I q0) (I c) 1 := fun _ => rfl
        have sg0 : fm_segments F τ (I c) = some 0 := by
          unfold fm_segments fm_segments_L21
          rw [g2, bd_s, if_pos rfl]
        have key : ∀ K : Nat, 1 ≤ K → fm_bundles_L19 F (fm_bundles_L7 F N9) K τ (I q0) (I c) 1 = fm_bundles_L7 F N9 τ (I q0) (I ((c + 1 : Nat) : Int)) := fun K hK => by
          obtain ⟨K9, rfl⟩ : ∃ K9, K = K9 + 1 := ⟨K - 1, by omega⟩
          rw [stp]
          unfold fm_bundles_L19_c
          rw [sg0, bd_s, if_pos (show (0 : Int32) - 1 ≤ 1 by decide), lt_r, I_S]
        exact key F (by omega)
      rw [e2]
      obtain ⟨k1, k2, k3, k4, k5⟩ := id hL
      refine ih (c + 1) N9 τ B n (by omega) (by omega) ⟨k1, k2, k3, k4, k5.skip (by omega) fun z hz z1 z2 => ?_⟩ (by omega)
      obtain ⟨r1, u, r2, r3, r4⟩ := hz
      have e : z / 100 = c := by omega
      rw [e, g1] at r2
      cases r2
    · obtain ⟨τ9, B9, n9, j1, j2, j3⟩ := rb_s (F := F) hF hM hq0 (c := c) (by omega) g1 (fm_bundles_L7 F N9) (v.2.1 - 2 - 1) 1 F τ B n rfl (by omega) (by omega) (by have := g2.2.1; omega) hL (by omega)
      have j1' : fm_bundles_L19 F (fm_bundles_L7 F N9) F τ (I q0) (I c) 1 = fm_bundles_L7 F N9 τ9 (I q0) (I ((c + 1 : Nat) : Int)) := j1
      rw [j1']
      exact ih (c + 1) N9 τ9 B9 n9 (by omega) (by omega) j2 (by omega)
theorem rb_list (hF : 10000 ≤ F) (hM : ∀ τ9, Kr τ0 τ9 → LnQ F τ9 R nl) (hq0 : q0 < 1000) : ∃ (τ9 : MS) (B9 : Nat → Nat) (n9 : Nat), fm_bundles F τ0 (I q0) = fm_bundles_L96 F F τ9 1 ∧ RbL τ0 R nl q0 τ9 B9 n9 (100 * nl + 1) ∧ n9 ≤ 700 := by
  have h10 := (hM τ0 Kr.rf).1
  have h0 : RbL τ0 R nl q0 (ms_inners_s τ0 0) (fun _ => 0) 0 (100 * 0 + 1) := ⟨Kr_inners _, rfl, fun j hj => absurd hj (Nat.not_lt_zero _), fun j hj => absurd hj (Nat.not_lt_zero _), fun k hk => absurd hk (Nat.not_lt_zero _), fun i j _ hj => absurd hj (Nat.not_lt_zero _), fun z hz z1 => by
    obtain ⟨r1, u, r2, r3, r4⟩ := hz
    omega⟩
  obtain ⟨τ9, B9, n9, j1, j2, j3⟩ := rb_c (F := F) hF hM hq0 nl 0 F (ms_inners_s τ0 0) (fun _ => 0) 0 (by omega) (by omega) h0 (by omega)
  refine ⟨τ9, B9, n9, ?_, j2, by omega⟩
  unfold fm_bundles
  rw [lt_r]
  exact j1
end N3
