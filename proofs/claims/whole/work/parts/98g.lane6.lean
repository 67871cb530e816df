/-! lanes: the class gathers, lays, closes -/
section N7
variable {F : Nat} {σ σ' σ'' σ0 : CSt} {R : Nat → Option RV} {nl q0 n b t o : Nat} {A : Nat → Nat} {V : Nat → Bool} {L : Nat → Int} {v : RV} {s : Nat}
theorem ga_c (hF : 10000 ≤ F) {lv : Bool} {ln : Int} {c0 s0 : Nat} (hnl : nl ≤ 10) (hcc : cs_cc σ0 = I nl) (hcr : cs_cr σ0 = R) (hRk : ∀ c, c < nl → ∀ v, R c = some v → RtI v ∧ RouteOk v) (hq0 : q0 = 100 * c0 + s0) (hs0 : s0 < 100) (hc0 : c0 < 10) (h0 : PlQ R nl lv ln q0) (hln : 0 ≤ ln ∧ ln ≤ 99) : ∀ (d c N : Nat) (σ : CSt) (A : Nat → Nat) (n o : Nat), c + d = nl → d < N → GaL σ0 R (PlQ R nl lv ln) q0 σ A n (100 * c + 1) o → n ≤ 18 * c → ∃ (σ9 : CSt) (A9 : Nat → Nat) (n9 o9 : Nat), fc_X0_gather_L42 F N σ (I c0) (I s0) (b2 lv) (I ln) (I c) = some σ9 ∧ GaL σ0 R (PlQ R nl lv ln) q0 σ9 A9 n9 (100 * nl + 1) o9 ∧ n9 ≤ 180 := by
  intro d
  induction d with
  | zero =>
    intro c N σ A n o hd hN hL hn
    obtain ⟨N9, rfl⟩ : ∃ N9, N = N9 + 1 := ⟨N - 1, by omega⟩
    have e : c = nl := by omega
    subst e
    refine ⟨σ, A, n, o, ?_, hL, by omega⟩
    show fc_X0_gather_L42_c F (fc_X0_gather_L42 F N9) σ (I c0) (I s0) (b2 lv) (I ln) (I c) = _
    unfold fc_X0_gather_L42_c
    rw [hL.1.cc, hcc, if_pos (i_rf _)]
  | succ d ih =>
    intro c N σ A n o hd hN hL hn
    obtain ⟨N9, rfl⟩ : ∃ N9, N = N9 + 1 := ⟨N - 1, by omega⟩
    have z1 : ¬ I ((nl : Nat) : Int) ≤ I ((c : Nat) : Int) := by rw [I_le] <;> omega
    have ixc : ix (I ((c : Nat) : Int)) 10 = true := of_eq_true (I_ix (by omega) (by omega) (by omega))
    have n6 : (I ((c : Nat) : Int)).toNatClampNeg = c := by rw [I_cl (by omega) (by omega)]; omega
    have em : fc_X0_gather_L42 F (N9 + 1) σ (I c0) (I s0) (b2 lv) (I ln) (I c) = mo (R c) (fc_X0_gather_L42 F N9 σ (I c0) (I s0) (b2 lv) (I ln) (I ((c + 1 : Nat) : Int))) (fun v57 => fc_X0_gather_L71 F (fc_X0_gather_L42 F N9) F σ (I c0) (I s0) (b2 lv) (I ln) (I c) v57 1) := by
      show fc_X0_gather_L42_c F (fc_X0_gather_L42 F N9) σ (I c0) (I s0) (b2 lv) (I ln) (I c) = _
      unfold fc_X0_gather_L42_c fc_X0_gather_L158
      rw [hL.1.cc, hcc, if_neg z1, gd_t ixc, n6, hL.1.cr, hcr, lt_r, I_S]
    rw [em]
    cases hR : R c with
    | none =>
      rw [mo_N]
      refine ih (c + 1) N9 σ A n o (by omega) (by omega) (hL.skip h0 (by omega) fun z hz z1 z2 => ?_) (by omega)
      obtain ⟨⟨r1, u, r2, r3, r4⟩, -, -⟩ := hz
      have e : z / 100 = c := by omega
      rw [e, hR] at r2
      cases r2
    | some v =>
      obtain ⟨hv, hk⟩ := hRk c (by omega) v hR
      rw [mo_S]
      obtain ⟨σ9, A9, n9, o9, j1, j2, j3⟩ := ga_s (F := F) hF hnl hq0 hs0 hc0 h0 hln (c := c) (by omega) hR hv hk (fc_X0_gather_L42 F N9) (v.2.1 - 2 - 1) 1 F σ A n o rfl (by omega) (by omega) (by have := hv.2.1; omega) hL (by omega)
      have j1' : fc_X0_gather_L71 F (fc_X0_gather_L42 F N9) F σ (I c0) (I s0) (b2 lv) (I ln) (I c) v 1 = fc_X0_gather_L42 F N9 σ9 (I c0) (I s0) (b2 lv) (I ln) (I ((c + 1 : Nat) : Int)) := j1
      rw [j1']
      exact ih (c + 1) N9 σ9 A9 n9 o9 (by omega) (by omega) j2 j3
theorem sc_rof {c0 : Nat} {v0 : RV} (hnl : nl ≤ 10) (hcc : cs_cc σ = I nl) (hc0 : c0 < nl) (hR0 : cs_cr σ c0 = some v0) : fc_X1_routeOf F σ (I c0) = some (some v0) := by
  have ixc : ix (I ((c0 : Nat) : Int)) 10 = true := of_eq_true (I_ix (by omega) (by omega) (by omega))
  have n6 : (I ((c0 : Nat) : Int)).toNatClampNeg = c0 := by rw [I_cl (by omega) (by omega)]; omega
  have z1 : (0 : Int32) ≤ I ((c0 : Nat) : Int) := by rw [I_0, I_le] <;> omega
  have z2 : I ((c0 : Nat) : Int) < I ((nl : Nat) : Int) := by rw [I_lt] <;> omega
  unfold fc_X1_routeOf fc_X1_routeOf_L18
  rw [sc_hasConnector hcc, bd_s, decide_eq_true z1, decide_eq_true z2, if_neg (show ¬ b2 (true && true) = 0 by decide), gd_t ixc, n6, hR0, mo_S]
theorem ga_all (hF : 10000 ≤ F) {c0 s0 : Nat} {v0 : RV} (hnl : nl ≤ 10) (hcc : cs_cc σ0 = I nl) (hcr : cs_cr σ0 = R) (hRk : ∀ c, c < nl → ∀ v, R c = some v → RtI v ∧ RouteOk v) (hc0 : c0 < nl) (hR0 : R c0 = some v0) (h1 : 1 ≤ s0) (h2 : s0 + 2 < v0.2.1) : ∃ (σ9 : CSt) (A : Nat → Nat) (n o : Nat), fc_X0_gather F σ0 (I c0) (I s0) = some σ9 ∧ GaL σ0 R (PlQ R nl (lvB v0 s0) (liS v0 s0)) (100 * c0 + s0) σ9 A n (100 * nl + 1) o ∧ n ≤ 180 := by
  obtain ⟨hv, hk⟩ := hRk c0 hc0 v0 hR0
  have h66 := hv.2.1
  have q1 : (100 * c0 + s0) / 100 = c0 := by omega
  have q2 : (100 * c0 + s0) % 100 = s0 := by omega
  have q3 : rvq R (100 * c0 + s0) = v0 := rvq_s (by rw [q1]; exact hR0)
  have h0 : PlQ R nl (lvB v0 s0) (liS v0 s0) (100 * c0 + s0) := by
    refine ⟨?_, ?_, ?_⟩
    · unfold InQ
      rw [q1, q2]
      exact ⟨hc0, v0, hR0, h1, h2⟩
    · unfold lvQ
      rw [q2, q3]
    · unfold liQ
      rw [q2, q3]
  obtain ⟨-, l1, l2, l3, l4, -, l5, l6⟩ := hi_lo hv (s := s0) (by omega)
  have hL : GaL σ0 R (PlQ R nl (lvB v0 s0) (liS v0 s0)) (100 * c0 + s0) (cs_bo_s (cs_bs_s σ0 0) 0) (fun _ => 0) 0 (100 * 0 + 1) 0 := ⟨(Kq_bs _).tr (Kq_bo _), rfl, rfl, fun j hj => absurd hj (Nat.not_lt_zero _), ⟨fun k hk => absurd hk (Nat.not_lt_zero _), fun i j _ hj => absurd hj (Nat.not_lt_zero _), fun z hz z1 => by
    obtain ⟨⟨r1, u, r2, r3, r4⟩, -, -⟩ := hz
    omega⟩, fun z => by omega, fun _ => rfl⟩
  obtain ⟨σ9, A, n, o, j1, j2, j3⟩ := ga_c (F := F) hF hnl hcc hcr hRk rfl (by omega) (by omega) h0 ⟨l5, l6⟩ nl 0 F _ (fun _ => 0) 0 0 (by omega) (by omega) hL (by omega)
  refine ⟨σ9, A, n, o, ?_, j2, j3⟩
  have d1 : cs_cc (cs_bo_s (cs_bs_s σ0 0) 0) = I nl := hL.1.cc.trans hcc
  have d2 : cs_cr (cs_bo_s (cs_bs_s σ0 0) 0) c0 = some v0 := by rw [hL.1.cr, hcr]; exact hR0
  unfold fc_X0_gather
  rw [lt_r, lt_r, sc_rof hnl d1 hc0 d2, bd_s, mo_S, sc_lvl hv (by omega), bd_s, sc_li hv (by omega), bd_s]
  exact j1
/-- the class's rows -/
def AsL (σ0 : CSt) (R : Nat → Option RV) (A : Nat → Nat) (n o : Nat) (L : Nat → Int) (V : Nat → Bool) (σ : CSt) : Prop := Kq σ0 σ ∧ cs_bs σ = I n ∧ cs_bo σ = I o ∧ (∀ j, j < n → cs_bst σ j = I (loQ R (A j)) ∧ cs_ben σ j = I (hiQ R (A j)) ∧ cs_bpu σ j = I (puQ R (A j))) ∧ (∀ j, j < n → cs_bla σ j = I (L j)) ∧ (∀ j, j < n → cs_bre σ j = b2 (V j))
def RdA (R : Nat → Option RV) (A : Nat → Nat) (n : Nat) : Prop := ∀ j, j < n → RtI (rvq R (A j)) ∧ 1 ≤ A j % 100 ∧ A j % 100 + 2 < (rvq R (A j)).2.1
theorem RdA.bd (h : RdA R A n) {j : Nat} (hj : j < n) : (0 ≤ loQ R (A j) ∧ loQ R (A j) ≤ 99) ∧ (0 ≤ hiQ R (A j) ∧ hiQ R (A j) ≤ 99) ∧ -1000 ≤ puQ R (A j) ∧ puQ R (A j) ≤ 1000 := by
  obtain ⟨h1, h2, h3⟩ := h j hj
  obtain ⟨-, l1, l2, l3, l4, -⟩ := hi_lo h1 (s := A j % 100) (by omega)
  have k1 := h1.2.2.1 (A j % 100 - 1) (by omega)
  have k2 := h1.2.2.1 (A j % 100 + 2) (by omega)
  have k3 := h1.2.2.1 (A j % 100) (by omega)
  refine ⟨⟨l1, l2⟩, ⟨l3, l4⟩, ?_⟩
  unfold puQ puV
  split <;> omega
theorem sc_col (hn : n ≤ 180) (hs : AsL σ0 R A n o L V σ) (hr : RdA R A n) {i j : Nat} (hi : i < n) (hj : j < n) : fc_X0_collide F σ (I i) (I j) = some (b2 (ovI R (A i) (A j))) := by
  have ixi : ix (I ((i : Nat) : Int)) 180 = true := of_eq_true (I_ix (by omega) (by omega) (by omega))
  have ixj : ix (I ((j : Nat) : Int)) 180 = true := of_eq_true (I_ix (by omega) (by omega) (by omega))
  have n1 : (I ((i : Nat) : Int)).toNatClampNeg = i := by rw [I_cl (by omega) (by omega)]; omega
  have n2 : (I ((j : Nat) : Int)).toNatClampNeg = j := by rw [I_cl (by omega) (by omega)]; omega
  obtain ⟨a1, a2, a3⟩ := hs.2.2.2.1 i hi
  obtain ⟨b1, b2', b3⟩ := hs.2.2.2.1 j hj
  obtain ⟨⟨c1, c2⟩, ⟨c3, c4⟩, -⟩ := hr.bd hi
  obtain ⟨⟨d1, d2⟩, ⟨d3, d4⟩, -⟩ := hr.bd hj
  have e : (I (min (hiQ R (A i)) (hiQ R (A j))) ≤ I (max (loQ R (A i)) (loQ R (A j)))) = (min (hiQ R (A i)) (hiQ R (A j)) ≤ max (loQ R (A i)) (loQ R (A j))) := I_le (by omega) (by omega) (by omega) (by omega)
  unfold fc_X0_collide fc_X0_collide_L38
  rw [gd_t ixi, gd_t ixj, gd_t ixi, gd_t ixj, n1, n2, a1, a2, b1, b2', I_min c3 c4 d3 d4, I_max c1 c2 d1 d2, gd_t (Or.inl rfl), gd_t (Or.inr rfl)]
  unfold ovI
  by_cases g : min (hiQ R (A i)) (hiQ R (A j)) ≤ max (loQ R (A i)) (loQ R (A j))
  · rw [if_pos (e.mpr g), decide_eq_false (by omega)]
    rfl
  · rw [if_neg (fun z => g (e.mp z)), decide_eq_true (by omega)]
    rfl
def bsN (p L : Nat → Int) : Nat → Nat
  | 0 => 0
  | k + 1 => if L (k + 1) < 0 ∧ (0 ≤ L (bsN p L k) ∨ p (k + 1) < p (bsN p L k)) then k + 1 else bsN p L k
theorem bs_le {p L : Nat → Int} : ∀ k, bsN p L k ≤ k
  | 0 => Nat.le_refl _
  | k + 1 => by
    have h := bs_le (p := p) (L := L) k
    have eb : bsN p L (k + 1) = if L (k + 1) < 0 ∧ (0 ≤ L (bsN p L k) ∨ p (k + 1) < p (bsN p L k)) then k + 1 else bsN p L k := rfl
    rw [eb]
    by_cases g : L (k + 1) < 0 ∧ (0 ≤ L (bsN p L k) ∨ p (k + 1) < p (bsN p L k))
    · rw [if_pos g]
      exact Nat.le_refl _
    · rw [if_neg g]
      exact Nat.le_succ_of_le h
theorem bs_nx {p L : Nat → Int} : ∀ k, (nxN (fun _ => true) p L (k + 1) = none ∧ 0 ≤ L (bsN p L k)) ∨ (nxN (fun _ => true) p L (k + 1) = some (bsN p L k) ∧ L (bsN p L k) < 0)
  | 0 => by
    have e : nxN (fun _ => true) p L (0 + 1) = if true = true ∧ L 0 < 0 then some 0 else none := nxN_n rfl
    rw [e]
    by_cases g : L 0 < 0
    · rw [if_pos ⟨rfl, g⟩]
      exact Or.inr ⟨rfl, g⟩
    · rw [if_neg (fun z => g z.2)]
      exact Or.inl ⟨rfl, by show 0 ≤ L 0; omega⟩
  | k + 1 => by
    have eb : bsN p L (k + 1) = if L (k + 1) < 0 ∧ (0 ≤ L (bsN p L k) ∨ p (k + 1) < p (bsN p L k)) then k + 1 else bsN p L k := rfl
    rcases bs_nx (p := p) (L := L) k with ⟨h1, h2⟩ | ⟨h1, h2⟩
    · have e : nxN (fun _ => true) p L (k + 1 + 1) = if true = true ∧ L (k + 1) < 0 then some (k + 1) else none := nxN_n h1
      rw [e, eb]
      by_cases g : L (k + 1) < 0
      · rw [if_pos ⟨rfl, g⟩, if_pos ⟨g, Or.inl h2⟩]
        exact Or.inr ⟨rfl, g⟩
      · rw [if_neg (fun z => g z.2), if_neg (fun z => g z.1)]
        exact Or.inl ⟨rfl, h2⟩
    · have e : nxN (fun _ => true) p L (k + 1 + 1) = if true = true ∧ L (k + 1) < 0 ∧ p (k + 1) < p (bsN p L k) then some (k + 1) else some (bsN p L k) := nxN_s h1
      rw [e, eb]
      by_cases g : L (k + 1) < 0 ∧ p (k + 1) < p (bsN p L k)
      · rw [if_pos ⟨rfl, g⟩, if_pos ⟨g.1, Or.inr g.2⟩]
        exact Or.inr ⟨rfl, g.1⟩
      · rw [if_neg (fun z => g z.2), if_neg (fun z => g ⟨z.1, z.2.resolve_left (by omega)⟩)]
        exact Or.inr ⟨rfl, h2⟩
theorem sc_nxt (hF : 10000 ≤ F) (hn : n ≤ 180) (hn1 : 1 ≤ n) (hs : AsL σ0 R A n o L V σ) (hr : RdA R A n) (hL9 : ∀ j, j < n → -1 ≤ L j ∧ L j < 1000) : fc_X0_nextWithoutLane F σ = some (I ((bsN (puB R A) L (n - 1) : Nat) : Int)) := by
  obtain ⟨-, s2, s3, s4, s5, s6⟩ := id hs
  refine lp_r (fun k => (I ((bsN (puB R A) L k : Nat) : Int), I ((k + 1 : Nat) : Int))) _ (n - 1) rfl (by omega) (fun k rec hk => ?_) (fun rec => ?_)
  · have hbk := bs_le (p := puB R A) (L := L) k
    have eb : bsN (puB R A) L (k + 1) = if L (k + 1) < 0 ∧ (0 ≤ L (bsN (puB R A) L k) ∨ puB R A (k + 1) < puB R A (bsN (puB R A) L k)) then k + 1 else bsN (puB R A) L k := rfl
    generalize bsN (puB R A) L k = c at hbk eb ⊢
    have hc : c < n := by omega
    have hj : k + 1 < n := by omega
    have z1 : ¬ I ((n : Nat) : Int) ≤ I ((k + 1 : Nat) : Int) := by rw [I_le] <;> omega
    have ixj : ix (I ((k + 1 : Nat) : Int)) 180 = true := of_eq_true (I_ix (by omega) (by omega) (by omega))
    have ixc : ix (I ((c : Nat) : Int)) 180 = true := of_eq_true (I_ix (by omega) (by omega) (by omega))
    have n1 : (I ((k + 1 : Nat) : Int)).toNatClampNeg = k + 1 := by rw [I_cl (by omega) (by omega)]; omega
    have n2 : (I ((c : Nat) : Int)).toNatClampNeg = c := by rw [I_cl (by omega) (by omega)]; omega
    obtain ⟨-, -, p1, p2⟩ := hr.bd hj
    obtain ⟨-, -, p3, p4⟩ := hr.bd hc
    have q1 := hL9 (k + 1) hj
    have q2 := hL9 c hc
    have e1 : (I (L (k + 1)) = -1) = (L (k + 1) < 0) := by
      rw [show (-1 : Int32) = I (-1) from rfl, I_eq (by omega) (by omega) (by omega) (by omega)]
      exact propext ⟨fun z => by omega, fun z => by omega⟩
    have e2 : (I (L c) = -1) = (L c < 0) := by
      rw [show (-1 : Int32) = I (-1) from rfl, I_eq (by omega) (by omega) (by omega) (by omega)]
      exact propext ⟨fun z => by omega, fun z => by omega⟩
    have e3 : (I (puQ R (A c)) ≤ I (puQ R (A (k + 1)))) = (puQ R (A c) ≤ puQ R (A (k + 1))) := I_le (by omega) (by omega) (by omega) (by omega)
    show fc_X0_nextWithoutLane_L4_c F σ (fun a b => rec (a, b)) (I ((c : Nat) : Int)) (I ((k + 1 : Nat) : Int)) = rec (I ((bsN (puB R A) L (k + 1) : Nat) : Int), I ((k + 1 + 1 : Nat) : Int))
    rw [eb]
    unfold fc_X0_nextWithoutLane_L4_c fc_X0_nextWithoutLane_L47 fc_X0_nextWithoutLane_L49
    rw [s2, if_neg z1, gd_t ixj, n1, s5 (k + 1) hj, gd_t ixc, n2, s5 c hc, gd_t ixj, gd_t ixc, (s4 c hc).2.2, (s4 (k + 1) hj).2.2, lt_r, lt_r, I_S]
    by_cases g1 : L (k + 1) < 0
    · rw [if_pos (e1.mpr g1)]
      by_cases g2 : L c < 0
      · rw [if_pos (e2.mpr g2)]
        by_cases g3 : puQ R (A c) ≤ puQ R (A (k + 1))
        · rw [if_pos (e3.mpr g3), if_neg (fun z => by
            rcases z.2 with y | y
            · omega
            · exact absurd (show puQ R (A (k + 1)) < puQ R (A c) from y) (by omega))]
        · rw [if_neg (fun z => g3 (e3.mp z)), if_pos ⟨g1, Or.inr (show puQ R (A (k + 1)) < puQ R (A c) by omega)⟩]
      · rw [if_neg (fun z => g2 (e2.mp z)), if_pos ⟨g1, Or.inl (by omega)⟩]
    · rw [if_neg (fun z => g1 (e1.mp z)), if_neg (fun z => g1 z.1)]
  · have z1 : I ((n : Nat) : Int) ≤ I ((n - 1 + 1 : Nat) : Int) := by rw [I_le] <;> omega
    show fc_X0_nextWithoutLane_L4_c F σ (fun a b => rec (a, b)) (I ((bsN (puB R A) L (n - 1) : Nat) : Int)) (I ((n - 1 + 1 : Nat) : Int)) = _
    unfold fc_X0_nextWithoutLane_L4_c
    rw [s2, if_pos z1]
def ovA (R : Nat → Option RV) (A : Nat → Nat) (i j : Nat) : Bool := ovI R (A i) (A j)
theorem ovA_sym {i j : Nat} : ovA R A i j = ovA R A j i := ovI_sym
theorem as_ln (hF : 10000 ≤ F) (hn : n ≤ 180) (hs : AsL σ0 R A n o L V σ) (hr : RdA R A n) {a : Nat} (ha : a ≤ 800) (hL9 : ∀ j, j < n → -1 ≤ L j ∧ L j < a) (hln : ∀ m, m ≤ n → lnN (fun _ => true) (ovA R A) L t m ≤ a) (ht : t < n) (i : Nat) (k2 : CSt → Int32 → Option CSt) : fc_X0_assignLanes_L20 F k2 F σ (I i) (I t) 0 0 = k2 (sc_bla σ (I t) (I (lnN (fun _ => true) (ovA R A) L t n))) (I ((i + 1 : Nat) : Int)) := by
  obtain ⟨-, s2, s3, s4, s5, s6⟩ := id hs
  have ixt : ix (I ((t : Nat) : Int)) 180 = true := of_eq_true (I_ix (by omega) (by omega) (by omega))
  refine lp_r (fun j => (σ, I i, I t, I (lnN (fun _ => true) (ovA R A) L t j), I j)) _ n rfl (by omega) (fun j rec hj => ?_) (fun rec => ?_)
  · have z1 : ¬ I ((n : Nat) : Int) ≤ I ((j : Nat) : Int) := by rw [I_le] <;> omega
    have ixj : ix (I ((j : Nat) : Int)) 180 = true := of_eq_true (I_ix (by omega) (by omega) (by omega))
    have n6 : (I ((j : Nat) : Int)).toNatClampNeg = j := by rw [I_cl (by omega) (by omega)]; omega
    have hLj := hL9 j hj
    have hl1 := (lnN_ok (U := fun _ => true) (cl := ovA R A) (L := L) (t := t) j).1
    have hl2 := hln j (by omega)
    have eN : lnN (fun _ => true) (ovA R A) L t (j + 1) = if true = true ∧ 0 ≤ L j ∧ ovA R A j t = true ∧ lnN (fun _ => true) (ovA R A) L t j ≤ L j then L j + 1 else lnN (fun _ => true) (ovA R A) L t j := rfl
    have e1 : (I (L j) < I (lnN (fun _ => true) (ovA R A) L t j)) = (L j < lnN (fun _ => true) (ovA R A) L t j) := I_lt (by omega) (by omega) (by omega) (by omega)
    have ec : fc_X0_collide F σ (I t) (I j) = some (b2 (ovA R A j t)) := by
      rw [ovA_sym]
      exact sc_col hn hs hr ht hj
    show fc_X0_assignLanes_L20_c F k2 (fun a b c d e => rec (a, b, c, d, e)) σ (I i) (I t) (I (lnN (fun _ => true) (ovA R A) L t j)) (I j) = rec (σ, I i, I t, I (lnN (fun _ => true) (ovA R A) L t (j + 1)), I ((j + 1 : Nat) : Int))
    rw [eN]
    unfold fc_X0_assignLanes_L20_c fc_X0_assignLanes_L60
    rw [s2, if_neg z1, gd_t ixj, n6, s5 j hj, ec, bd_s, gd_t ixj, lt_r, lt_r, lt_r, I_S]
    by_cases g : L j < lnN (fun _ => true) (ovA R A) L t j
    · rw [if_pos (e1.mpr g), if_neg (fun z => absurd z.2.2.2 (by omega))]
    · rw [if_neg (fun z => g (e1.mp z))]
      cases hc : ovA R A j t with
      | false => rw [if_pos (show b2 false = 0 from rfl), if_neg (fun z => (by cases z.2.2.1))]
      | true => rw [if_neg (show ¬ b2 true = 0 by decide), if_pos ⟨rfl, by omega, rfl, by omega⟩, I_1, I_add]
  · show fc_X0_assignLanes_L20_c F k2 (fun a b c d e => rec (a, b, c, d, e)) σ (I i) (I t) (I (lnN (fun _ => true) (ovA R A) L t n)) (I n) = _
    unfold fc_X0_assignLanes_L20_c
    rw [s2, if_pos (i_rf _), gd_t ixt, lt_r, lt_r, I_S]
theorem cnt_all {f : Nat → Bool} (h : cntN f n = n) {j : Nat} (hj : j < n) : f j = true := by
  cases hf : f j with
  | true => rfl
  | false =>
    have h1 := cnt_flip (t := j) (b := f) (b' := updB f j) hf (if_pos rfl) (fun i hi => if_neg hi) n hj
    have h2 := cnt_le (updB f j) n
    omega
theorem as_lp (hF : 10000 ≤ F) (hn : n ≤ 180) (hr : RdA R A n) : ∀ (d i N : Nat) (σ : CSt) (L : Nat → Int), i + d = n → d < N → AsL σ0 R A n o L V σ → GI (fun _ => true) (puB R A) (ovA R A) n L (asN L n) → asN L n = i → ∃ (σ9 : CSt) (L9 : Nat → Int), fc_X0_assignLanes_L2 F N σ (I i) = some σ9 ∧ AsL σ0 R A n o L9 V σ9 ∧ GI (fun _ => true) (puB R A) (ovA R A) n L9 (asN L9 n) ∧ ∀ j, j < n → 0 ≤ L9 j := by
  intro d
  induction d with
  | zero =>
    intro i N σ L hd hN hs hG hi
    obtain ⟨N9, rfl⟩ : ∃ N9, N = N9 + 1 := ⟨N - 1, by omega⟩
    have e : i = n := by omega
    subst e
    refine ⟨σ, L, ?_, hs, hG, fun j hj => of_decide_eq_true (cnt_all (f := fun k => decide (0 ≤ L k)) hi hj)⟩
    show fc_X0_assignLanes_L2_c F (fc_X0_assignLanes_L2 F N9) σ (I i) = _
    unfold fc_X0_assignLanes_L2_c
    rw [hs.2.1, if_pos (i_rf _)]
  | succ d ih =>
    intro i N σ L hd hN hs hG hi
    obtain ⟨N9, rfl⟩ : ∃ N9, N = N9 + 1 := ⟨N - 1, by omega⟩
    have z1 : ¬ I ((n : Nat) : Int) ≤ I ((i : Nat) : Int) := by rw [I_le] <;> omega
    have hL9 : ∀ j, j < n → -1 ≤ L j ∧ L j < (asN L n : Int) := fun j hj => hG.1 j hj rfl
    have em : fc_X0_assignLanes_L2 F (N9 + 1) σ (I i) = fc_X0_assignLanes_L20 F (fc_X0_assignLanes_L2 F N9) F σ (I i) (I ((bsN (puB R A) L (n - 1) : Nat) : Int)) 0 0 := by
      show fc_X0_assignLanes_L2_c F (fc_X0_assignLanes_L2 F N9) σ (I i) = _
      unfold fc_X0_assignLanes_L2_c
      rw [hs.2.1, if_neg z1, sc_nxt hF hn (by omega) hs hr (fun j hj => by have := hL9 j hj; omega), bd_s]
    have hb := bs_nx (p := puB R A) (L := L) (n - 1)
    have hbl := bs_le (p := puB R A) (L := L) (n - 1)
    rw [show n - 1 + 1 = n by omega] at hb
    have hs9 := nxN_ok (U := fun _ => true) (p := puB R A) (L := L) n
    generalize bsN (puB R A) L (n - 1) = c at em hb hbl
    rcases hb with ⟨h1, -⟩ | ⟨h1, h2⟩
    · rw [h1] at hs9
      obtain ⟨j, j1, j2⟩ := cnt_ex (b := fun k => decide (0 ≤ L k)) n (by
        have : cntN (fun k => decide (0 ≤ L k)) n = i := hi
        omega)
      have := hs9 j j1 rfl
      exact absurd this (of_decide_eq_false j2)
    · rw [h1] at hs9
      obtain ⟨s1, s2, s3, s4⟩ := hs9
      have hln : ∀ m, m ≤ n → lnN (fun _ => true) (ovA R A) L c m ≤ (asN L n : Int) := lnN_le hG
      obtain ⟨x0, x1, x2⟩ := lnN_ok (U := fun _ => true) (cl := ovA R A) (L := L) (t := c) n
      have ey := as_ln (t := c) hF hn hs hr (a := asN L n) (by omega) hL9 hln s1 i (fc_X0_assignLanes_L2 F N9)
      rw [em, ey]
      generalize lnN (fun _ => true) (ovA R A) L c n = x at x0 x1 x2
      have hG2 := hG.step s1 s2 s3 s4 x0 x1 x2
      rw [← asN_up s1 s3 x0] at hG2
      have hup := asN_up (L := L) (x := x) s1 s3 x0
      have ut : updI L c x c = x := if_pos rfl
      have un : ∀ j, ¬ j = c → updI L c x j = L j := fun j hj => if_neg hj
      have n7 : (I ((c : Nat) : Int)).toNatClampNeg = c := by rw [I_cl (by omega) (by omega)]; omega
      have hi2 : asN (updI L c x) n = i + 1 := by rw [hup, hi]
      obtain ⟨k1, k2, k3, k4, k5, k6⟩ := hs
      refine ih (i + 1) N9 _ (updI L c x) (by omega) (by omega) ⟨k1.tr (Kq_bla _), k2, k3, k4, fun j hj => ?_, k6⟩ hG2 hi2
      show upd (cs_bla σ) (I ((c : Nat) : Int)).toNatClampNeg (I x) j = I (updI L c x j)
      rw [n7]
      unfold upd
      by_cases ej : j = c
      · rw [if_pos ej, ej, ut]
      · rw [if_neg ej, un j ej]
        exact k5 j hj
end N7
