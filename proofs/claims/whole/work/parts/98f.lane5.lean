/-! lanes: the class gathers a line -/
section N6
variable {F : Nat} {σ σ' σ'' σ0 : CSt} {R : Nat → Option RV} {nl q0 n b t : Nat} {A : Nat → Nat} {V : Nat → Bool} {L : Nat → Int} {v : RV} {s : Nat}
def Kq (σ σ' : CSt) : Prop := σ'.1 = σ.1 ∧ σ'.2.1 = σ.2.1 ∧ σ'.2.2.1 = σ.2.2.1 ∧ σ'.2.2.2.2.1 = σ.2.2.2.2.1 ∧ gtx σ' = gtx σ ∧ gsb σ' = gsb σ ∧ ggh σ' = ggh σ
theorem Kq.rf : Kq σ σ := ⟨rfl, rfl, rfl, rfl, rfl, rfl, rfl⟩
theorem Kq.tr (h1 : Kq σ σ') (h2 : Kq σ' σ'') : Kq σ σ'' := by
  obtain ⟨a1, a2, a3, a4, a5, a6, a7⟩ := h1
  obtain ⟨b1, b2, b3, b4, b5, b6, b7⟩ := h2
  exact ⟨b1.trans a1, b2.trans a2, b3.trans a3, b4.trans a4, b5.trans a5, b6.trans a6, b7.trans a7⟩
theorem Kq_bs (v : Int32) : Kq σ (cs_bs_s σ v) := ⟨rfl, rfl, rfl, rfl, rfl, rfl, rfl⟩
theorem Kq_bo (v : Int32) : Kq σ (cs_bo_s σ v) := ⟨rfl, rfl, rfl, rfl, rfl, rfl, rfl⟩
theorem Kq_bst (v : Nat → Int32) : Kq σ (cs_bst_s σ v) := ⟨rfl, rfl, rfl, rfl, rfl, rfl, rfl⟩
theorem Kq_ben (v : Nat → Int32) : Kq σ (cs_ben_s σ v) := ⟨rfl, rfl, rfl, rfl, rfl, rfl, rfl⟩
theorem Kq_bpu (v : Nat → Int32) : Kq σ (cs_bpu_s σ v) := ⟨rfl, rfl, rfl, rfl, rfl, rfl, rfl⟩
theorem Kq_bla (v : Nat → Int32) : Kq σ (cs_bla_s σ v) := ⟨rfl, rfl, rfl, rfl, rfl, rfl, rfl⟩
theorem Kq_bre (v : Nat → Int32) : Kq σ (cs_bre_s σ v) := ⟨rfl, rfl, rfl, rfl, rfl, rfl, rfl⟩
theorem Kq.cr (h : Kq σ σ') : cs_cr σ' = cs_cr σ := congrArg (fun q : CT_cv => q.2.2.2.2.2) h.1
theorem Kq.cc (h : Kq σ σ') : cs_cc σ' = cs_cc σ := congrArg (fun q : CT_cv => q.2.1) h.1
theorem sc_pul (hv : RtI v) (h1 : 1 ≤ s) (hs : s + 2 < v.2.1) : fc_X6_pullOf F σ v (I s) = some (I (puV v s)) := by
  have h66 := hv.2.1
  have ix0 : ix (I ((s : Nat) : Int)) v.2.1 = true := of_eq_true (I_ix (by omega) (by omega) (by omega))
  have ix1 : ix (I ((s - 1 : Nat) : Int)) v.2.1 = true := of_eq_true (I_ix (by omega) (by omega) (by omega))
  have ix2 : ix (I ((s + 2 : Nat) : Int)) v.2.1 = true := of_eq_true (I_ix (by omega) (by omega) (by omega))
  have n0 : (I ((s : Nat) : Int)).toNatClampNeg = s := by rw [I_cl (by omega) (by omega)]; omega
  have n1 : (I ((s - 1 : Nat) : Int)).toNatClampNeg = s - 1 := by rw [I_cl (by omega) (by omega)]; omega
  have n2 : (I ((s + 2 : Nat) : Int)).toNatClampNeg = s + 2 := by rw [I_cl (by omega) (by omega)]; omega
  have e3 : I ((s : Nat) : Int) - 1 = I ((s - 1 : Nat) : Int) := by rw [I_1, I_sub]; exact congrArg I (by omega)
  have e4 : I ((s : Nat) : Int) + 2 = I ((s + 2 : Nat) : Int) := by rw [I_2, I_add]; exact congrArg I (by omega)
  have key : ∀ f : Nat → Int32, fc_X6_pullOf_L19 F σ (I s) v.2.1 f = some (I ((f (s - 1)).toInt + (f (s + 2)).toInt - 2 * (f s).toInt)) := fun f => by
    unfold fc_X6_pullOf_L19
    rw [e3, e4, gd_t ix1, gd_t ix2, gd_t ix0, n0, n1, n2]
    have g1 : f (s - 1) = I (f (s - 1)).toInt := (I_of _).symm
    have g2 : f (s + 2) = I (f (s + 2)).toInt := (I_of _).symm
    have g3 : f s = I (f s).toInt := (I_of _).symm
    generalize (f (s - 1)).toInt = z1 at *
    generalize (f (s + 2)).toInt = z2 at *
    generalize (f s).toInt = z3 at *
    rw [g1, g2, g3, I_add, I_2, I_mul, I_sub]
  unfold fc_X6_pullOf puV
  rw [sc_lvl hv (by omega), bd_s, key, key]
  cases hl : lvB v s with
  | false =>
    rw [if_pos (show b2 false = 0 from rfl), if_neg (by decide)]
    rfl
  | true =>
    rw [if_neg (show ¬ b2 true = 0 by decide), if_pos rfl]
    rfl
theorem lnB_t {lv : Bool} {ln : Int} (h1 : 1 ≤ s) (hl : lvB v s = lv) (hi : liS v s = ln) : lnB v lv (I ln) s = true := by
  have e : (v.2.2.2 s = v.2.2.2 (s + 1)) = (rY v s = rY v (s + 1)) := propext Int32.toInt_inj.symm
  have e2 : decide (v.2.2.2 s = v.2.2.2 (s + 1)) = lvB v s := by
    unfold lvB
    rw [decide_eq_decide]
    exact iff_of_eq e
  unfold lnB
  rw [e2, hl, decide_eq_true h1]
  unfold liS at hi
  rw [hl] at hi
  cases lv with
  | false =>
    rw [if_neg (by decide)] at hi
    have : v.2.2.1 s = I ln := by rw [← hi]; exact (I_of _).symm
    rw [if_neg (by decide), decide_eq_true this]
    rfl
  | true =>
    rw [if_pos rfl] at hi
    have : v.2.2.2 s = I ln := by rw [← hi]; exact (I_of _).symm
    rw [if_pos rfl, decide_eq_true this]
    rfl
theorem ga_add (hv : RtI v) (h1 : 1 ≤ s) (hs : s + 2 < v.2.1) (hn : n < 180) (hb : cs_bs σ = I n) : ∃ σ9 : CSt, fc_X0_add F σ v (I s) = some σ9 ∧ Kq σ σ9 ∧ cs_bs σ9 = I ((n + 1 : Nat) : Int) ∧ cs_bo σ9 = cs_bo σ ∧ cs_bst σ9 = upd (cs_bst σ) n (I (loS v s)) ∧ cs_ben σ9 = upd (cs_ben σ) n (I (hiS v s)) ∧ cs_bpu σ9 = upd (cs_bpu σ) n (I (puV v s)) ∧ cs_bla σ9 = upd (cs_bla σ) n (-1) ∧ cs_bre σ9 = upd (cs_bre σ) n 0 := by
  have ixn : ix (I ((n : Nat) : Int)) 180 = true := of_eq_true (I_ix (by omega) (by omega) (by omega))
  have n6 : (I ((n : Nat) : Int)).toNatClampNeg = n := by rw [I_cl (by omega) (by omega)]; omega
  have c1 : ∀ (σ : CSt) (i x : Int32), cs_bs (sc_bst σ i x) = cs_bs σ := fun _ _ _ => rfl
  have c2 : ∀ (σ : CSt) (i x : Int32), cs_bs (sc_ben σ i x) = cs_bs σ := fun _ _ _ => rfl
  have c3 : ∀ (σ : CSt) (i x : Int32), cs_bs (sc_bpu σ i x) = cs_bs σ := fun _ _ _ => rfl
  have c4 : ∀ (σ : CSt) (i x : Int32), cs_bs (sc_bla σ i x) = cs_bs σ := fun _ _ _ => rfl
  have c5 : ∀ (σ : CSt) (i x : Int32), cs_bs (sc_bre σ i x) = cs_bs σ := fun _ _ _ => rfl
  unfold fc_X0_add
  rw [hb, sc_lo hv (by omega), bd_s, gd_t ixn, lt_r, sc_hi hv (by omega), bd_s, c1, hb, gd_t ixn, lt_r, sc_pul hv h1 hs, bd_s, c2, c1, hb, gd_t ixn, lt_r, c3, c2, c1, hb, gd_t ixn, lt_r, c4, c3, c2, c1, hb, gd_t ixn, lt_r, c5, c4, c3, c2, c1, hb, I_S, lt_r]
  refine ⟨_, rfl, ?_, rfl, rfl, ?_, ?_, ?_, ?_, ?_⟩
  · exact (((((Kq_bst _).tr (Kq_ben _)).tr (Kq_bpu _)).tr (Kq_bla _)).tr (Kq_bre _)).tr (Kq_bs _)
  · unfold sc_bre sc_bla sc_bpu sc_ben sc_bst
    rw [zc_bst_bs, zc_bst_bre, zc_bst_bla, zc_bst_bpu, zc_bst_ben, zc_bst_bst, n6]
  · unfold sc_bre sc_bla sc_bpu sc_ben sc_bst
    rw [zc_ben_bs, zc_ben_bre, zc_ben_bla, zc_ben_bpu, zc_ben_ben, zc_ben_bst, n6]
  · unfold sc_bre sc_bla sc_bpu sc_ben sc_bst
    rw [zc_bpu_bs, zc_bpu_bre, zc_bpu_bla, zc_bpu_bpu, zc_bpu_ben, zc_bpu_bst, n6]
  · unfold sc_bre sc_bla sc_bpu sc_ben sc_bst
    rw [zc_bla_bs, zc_bla_bre, zc_bla_bla, zc_bla_bpu, zc_bla_ben, zc_bla_bst, n6]
  · unfold sc_bre sc_bla sc_bpu sc_ben sc_bst
    rw [zc_bre_bs, zc_bre_bre, zc_bre_bla, zc_bre_bpu, zc_bre_ben, zc_bre_bst, n6]
def PlQ (R : Nat → Option RV) (nl : Nat) (lv : Bool) (ln : Int) (q : Nat) : Prop := InQ R nl q ∧ lvQ R q = lv ∧ liQ R q = ln
def GaL (σ0 : CSt) (R : Nat → Option RV) (P : Nat → Prop) (q0 : Nat) (σ : CSt) (A : Nat → Nat) (n b o : Nat) : Prop := Kq σ0 σ ∧ cs_bs σ = I n ∧ cs_bo σ = I o ∧ (∀ j, j < n → cs_bst σ j = I (loQ R (A j)) ∧ cs_ben σ j = I (hiQ R (A j)) ∧ cs_bpu σ j = I (puQ R (A j)) ∧ cs_bla σ j = -1 ∧ cs_bre σ j = 0) ∧ LsT P A n b ∧ (q0 < b → o < n ∧ A o = q0) ∧ (b ≤ q0 → o = 0)
theorem GaL.skip {P : Nat → Prop} {b' o : Nat} (h : GaL σ0 R P q0 σ A n b o) (h0 : P q0) (hbb : b ≤ b') (hno : ∀ q, P q → b ≤ q → q < b' → False) : GaL σ0 R P q0 σ A n b' o := by
  obtain ⟨k1, k2, k3, k4, k5, k6, k7⟩ := h
  refine ⟨k1, k2, k3, k4, k5.skip hbb hno, fun z => ?_, fun z => k7 (by omega)⟩
  rcases Nat.lt_or_ge q0 b with g | g
  · exact k6 g
  · exact absurd (hno q0 h0 g z) id
theorem ga_s (hF : 10000 ≤ F) {lv : Bool} {ln : Int} {c c0 s0 : Nat} (hnl : nl ≤ 10) (hq0 : q0 = 100 * c0 + s0) (hs0 : s0 < 100) (hc0 : c0 < 10) (h0 : PlQ R nl lv ln q0) (hln : 0 ≤ ln ∧ ln ≤ 99) (hc : c < nl) (hR : R c = some v) (hv : RtI v) (hk : RouteOk v) (k42 : CSt → Int32 → Int32 → Int32 → Int32 → Int32 → Option CSt) : ∀ (d s N : Nat) (σ : CSt) (A : Nat → Nat) (n o : Nat), v.2.1 - 2 - s = d → 1 ≤ s → s ≤ 66 → d < N → GaL σ0 R (PlQ R nl lv ln) q0 σ A n (100 * c + s) o → n ≤ 18 * c + cntN (lnB v lv (I ln)) (min s (v.2.1 - 2)) → ∃ (σ9 : CSt) (A9 : Nat → Nat) (n9 o9 : Nat), fc_X0_gather_L71 F k42 N σ (I c0) (I s0) (b2 lv) (I ln) (I c) v (I s) = k42 σ9 (I c0) (I s0) (b2 lv) (I ln) (I ((c + 1 : Nat) : Int)) ∧ GaL σ0 R (PlQ R nl lv ln) q0 σ9 A9 n9 (100 * (c + 1) + 1) o9 ∧ n9 ≤ 18 * (c + 1) := by
  have h66 := hv.2.1
  have h18 := hk.2.2.1 lv (I ln)
  have hmono : ∀ a m, a ≤ m → cntN (lnB v lv (I ln)) a ≤ cntN (lnB v lv (I ln)) m := fun a m hm => by
    induction m with
    | zero =>
      rw [show a = 0 by omega]
      exact Nat.le_refl _
    | succ m ihm =>
      by_cases e : a = m + 1
      · rw [e]
        exact Nat.le_refl _
      · exact Nat.le_trans (ihm (by omega)) (Nat.le_add_right _ _)
  intro d
  induction d with
  | zero =>
    intro s N σ A n o hd hs hs66 hN hL hn
    obtain ⟨N9, rfl⟩ : ∃ N9, N = N9 + 1 := ⟨N - 1, by omega⟩
    have hv2 := hv.1
    have z1 : I ((v.2.1 - 1 : Nat) : Int) - 1 ≤ I ((s : Nat) : Int) := by rw [I_1, I_sub, I_le] <;> omega
    refine ⟨σ, A, n, o, ?_, hL.skip h0 (by omega) fun z hz z1 z2 => ?_, ?_⟩
    · show fc_X0_gather_L71_c F k42 (fc_X0_gather_L71 F k42 N9) σ (I c0) (I s0) (b2 lv) (I ln) (I c) v (I s) = _
      unfold fc_X0_gather_L71_c fc_X0_gather_L158
      rw [eseg_ hv, bd_s, if_pos z1, lt_r, I_S]
    · obtain ⟨⟨r1, u, r2, r3, r4⟩, -, -⟩ := hz
      have e : z / 100 = c := by omega
      rw [e, hR] at r2
      cases r2
      omega
    · rw [show min s (v.2.1 - 2) = v.2.1 - 2 by omega] at hn
      omega
  | succ d ih =>
    intro s N σ A n o hd hs hs66 hN hL hn
    obtain ⟨N9, rfl⟩ : ∃ N9, N = N9 + 1 := ⟨N - 1, by omega⟩
    have z1 : ¬ I ((v.2.1 - 1 : Nat) : Int) - 1 ≤ I ((s : Nat) : Int) := by rw [I_1, I_sub, I_le] <;> omega
    have q1 : (100 * c + s) / 100 = c := by omega
    have q2 : (100 * c + s) % 100 = s := by omega
    have q3 : rvq R (100 * c + s) = v := rvq_s (by rw [q1]; exact hR)
    have q4 : lvQ R (100 * c + s) = lvB v s := by unfold lvQ; rw [q2, q3]
    have q5 : liQ R (100 * c + s) = liS v s := by unfold liQ; rw [q2, q3]
    have hin : InQ R nl (100 * c + s) := by
      unfold InQ
      rw [q1, q2]
      exact ⟨hc, v, hR, hs, by omega⟩
    obtain ⟨-, l1, l2, l3, l4, -, l5, l6⟩ := hi_lo hv (s := s) (by omega)
    have e2 : (I (liS v s) = I ln) = (liS v s = ln) := I_eq (by omega) (by omega) (by omega) (by omega)
    have e3 : (I ((c : Nat) : Int) = I ((c0 : Nat) : Int)) = (c = c0) := by
      rw [I_eq (by omega) (by omega) (by omega) (by omega)]
      exact propext ⟨fun z => by omega, fun z => by omega⟩
    have e4 : (I ((s : Nat) : Int) = I ((s0 : Nat) : Int)) = (s = s0) := by
      rw [I_eq (by omega) (by omega) (by omega) (by omega)]
      exact propext ⟨fun z => by omega, fun z => by omega⟩
    have hcnt : ∀ k, cntN (lnB v lv (I ln)) (k + 1) = cntN (lnB v lv (I ln)) k + (if lnB v lv (I ln) k then 1 else 0) := fun _ => rfl
    rw [show min s (v.2.1 - 2) = s by omega] at hn
    by_cases hfull : 180 ≤ n
    · have hn2 := hmono s (v.2.1 - 2) (by omega)
      have z2 : 180 ≤ cs_bs σ := by
        rw [hL.2.1, show (180 : Int32) = I 180 from rfl, I_le] <;> omega
      refine ⟨σ, A, n, o, ?_, hL.skip h0 (by omega) fun z hz y1 y2 => ?_, by omega⟩
      · show fc_X0_gather_L71_c F k42 (fc_X0_gather_L71 F k42 N9) σ (I c0) (I s0) (b2 lv) (I ln) (I c) v (I s) = _
        unfold fc_X0_gather_L71_c fc_X0_gather_L158
        rw [eseg_ hv, bd_s, if_neg z1, if_pos z2, lt_r, I_S]
      · obtain ⟨⟨r1, u, r2, r3, r4⟩, r5, r6⟩ := hz
        have e : z / 100 = c := by omega
        have e9 : rvq R z = v := rvq_s (by rw [e]; exact hR)
        rw [e, hR] at r2
        have e8 : v = u := Option.some.inj r2
        rw [← e8] at r4
        unfold lvQ at r5
        unfold liQ at r6
        rw [e9] at r5 r6
        have y3 := hmono s (z % 100) (by omega)
        have y4 := hmono (z % 100 + 1) (v.2.1 - 2) (by omega)
        rw [hcnt (z % 100), lnB_t r3 r5 r6, if_pos rfl] at y4
        omega
    have z2 : ¬ 180 ≤ cs_bs σ := by
      rw [hL.2.1, show (180 : Int32) = I 180 from rfl, I_le] <;> omega
    have em : fc_X0_gather_L71 F k42 (N9 + 1) σ (I c0) (I s0) (b2 lv) (I ln) (I c) v (I s) = if lvB v s = lv then (if liS v s = ln then (bd (fc_X0_add F (cs_bo_s σ (if c = c0 ∧ s = s0 then cs_bs σ else cs_bo σ)) v (I s)) (fun σ139 => fc_X0_gather_L71 F k42 N9 σ139 (I c0) (I s0) (b2 lv) (I ln) (I c) v (I ((s + 1 : Nat) : Int)))) else fc_X0_gather_L71 F k42 N9 σ (I c0) (I s0) (b2 lv) (I ln) (I c) v (I ((s + 1 : Nat) : Int))) else fc_X0_gather_L71 F k42 N9 σ (I c0) (I s0) (b2 lv) (I ln) (I c) v (I ((s + 1 : Nat) : Int)) := by
      show fc_X0_gather_L71_c F k42 (fc_X0_gather_L71 F k42 N9) σ (I c0) (I s0) (b2 lv) (I ln) (I c) v (I s) = _
      unfold fc_X0_gather_L71_c fc_X0_gather_L137 fc_X0_gather_L141 fc_X0_gather_L152
      rw [eseg_ hv, bd_s, if_neg z1, if_neg z2, sc_lvl hv (by omega), bd_s, sc_li hv (by omega), bd_s, lt_r, lt_r, I_S]
      simp only [b2_eq, e2, e3, e4, lt_r]
      by_cases g1 : c = c0
      · by_cases g2 : s = s0
        · rw [if_pos g1, if_pos g2, if_pos (show c = c0 ∧ s = s0 from ⟨g1, g2⟩)]
        · rw [if_pos g1, if_neg g2, if_neg (show ¬ (c = c0 ∧ s = s0) from fun z => g2 z.2)]
      · rw [if_neg g1, if_neg (show ¬ (c = c0 ∧ s = s0) from fun z => g1 z.1)]
    rw [em]
    by_cases hm : lvB v s = lv ∧ liS v s = ln
    · obtain ⟨hm1, hm2⟩ := hm
      rw [if_pos hm1, if_pos hm2]
      have hP : PlQ R nl lv ln (100 * c + s) := ⟨hin, q4.trans hm1, q5.trans hm2⟩
      obtain ⟨k1, k2, k3, k4, k5, k6, k7⟩ := hL
      have hm3 := hmono (s + 1) (v.2.1 - 2) (by omega)
      rw [hcnt s, lnB_t hs hm1 hm2, if_pos rfl] at hm3
      have hn180 : n < 180 := by omega
      obtain ⟨σ9, g1, g2, g3, g4, g5, g6, g7, g8, g9⟩ := ga_add (F := F) (σ := cs_bo_s σ (if c = c0 ∧ s = s0 then cs_bs σ else cs_bo σ)) (n := n) hv hs (by omega) hn180 k2
      rw [g1, bd_s]
      have f1 : cs_bst (cs_bo_s σ (if c = c0 ∧ s = s0 then cs_bs σ else cs_bo σ)) = cs_bst σ := rfl
      have f2 : cs_ben (cs_bo_s σ (if c = c0 ∧ s = s0 then cs_bs σ else cs_bo σ)) = cs_ben σ := rfl
      have f3 : cs_bpu (cs_bo_s σ (if c = c0 ∧ s = s0 then cs_bs σ else cs_bo σ)) = cs_bpu σ := rfl
      have f4 : cs_bla (cs_bo_s σ (if c = c0 ∧ s = s0 then cs_bs σ else cs_bo σ)) = cs_bla σ := rfl
      have f5 : cs_bre (cs_bo_s σ (if c = c0 ∧ s = s0 then cs_bs σ else cs_bo σ)) = cs_bre σ := rfl
      have f6 : cs_bo (cs_bo_s σ (if c = c0 ∧ s = s0 then cs_bs σ else cs_bo σ)) = (if c = c0 ∧ s = s0 then cs_bs σ else cs_bo σ) := rfl
      rw [f1] at g5
      rw [f2] at g6
      rw [f3] at g7
      rw [f4] at g8
      rw [f5] at g9
      rw [f6] at g4
      have w1 : loQ R (100 * c + s) = loS v s := by unfold loQ; rw [q2, q3]
      have w2 : hiQ R (100 * c + s) = hiS v s := by unfold hiQ; rw [q2, q3]
      have w3 : puQ R (100 * c + s) = puV v s := by unfold puQ; rw [q2, q3]
      refine ih (s + 1) N9 σ9 (updN A n (100 * c + s)) (n + 1) (if c = c0 ∧ s = s0 then n else o) (by omega) (by omega) (by omega) (by omega) ⟨(k1.tr (Kq_bo _)).tr g2, g3, ?_, fun j hj => ?_, k5.add hP, fun z => ?_, fun z => ?_⟩ ?_
      · rw [g4]
        by_cases g : c = c0 ∧ s = s0
        · rw [if_pos g, if_pos g, k2]
        · rw [if_neg g, if_neg g, k3]
      · rw [g5, g6, g7, g8, g9]
        unfold upd updN
        by_cases ej : j = n
        · rw [if_pos ej, if_pos ej, if_pos ej, if_pos ej, if_pos ej, if_pos ej, w1, w2, w3]
          exact ⟨rfl, rfl, rfl, rfl, rfl⟩
        · rw [if_neg ej, if_neg ej, if_neg ej, if_neg ej, if_neg ej, if_neg ej]
          exact k4 j (by omega)
      · by_cases g : c = c0 ∧ s = s0
        · rw [if_pos g]
          refine ⟨by omega, ?_⟩
          unfold updN
          rw [if_pos rfl]
          omega
        · rw [if_neg g]
          have : q0 < 100 * c + s := by omega
          obtain ⟨y1, y2⟩ := k6 this
          refine ⟨by omega, ?_⟩
          unfold updN
          rw [if_neg (by omega)]
          exact y2
      · rw [if_neg (fun g => by omega)]
        exact k7 (by omega)
      · rw [show min (s + 1) (v.2.1 - 2) = s + 1 by omega, hcnt s, lnB_t hs hm1 hm2, if_pos rfl]
        omega
    · have hskip : fc_X0_gather_L71 F k42 N9 σ (I c0) (I s0) (b2 lv) (I ln) (I c) v (I ((s + 1 : Nat) : Int)) = fc_X0_gather_L71 F k42 N9 σ (I c0) (I s0) (b2 lv) (I ln) (I c) v (I ((s + 1 : Nat) : Int)) := rfl
      have em2 : (if lvB v s = lv then (if liS v s = ln then (bd (fc_X0_add F (cs_bo_s σ (if c = c0 ∧ s = s0 then cs_bs σ else cs_bo σ)) v (I s)) (fun σ139 => fc_X0_gather_L71 F k42 N9 σ139 (I c0) (I s0) (b2 lv) (I ln) (I c) v (I ((s + 1 : Nat) : Int)))) else fc_X0_gather_L71 F k42 N9 σ (I c0) (I s0) (b2 lv) (I ln) (I c) v (I ((s + 1 : Nat) : Int))) else fc_X0_gather_L71 F k42 N9 σ (I c0) (I s0) (b2 lv) (I ln) (I c) v (I ((s + 1 : Nat) : Int))) = fc_X0_gather_L71 F k42 N9 σ (I c0) (I s0) (b2 lv) (I ln) (I c) v (I ((s + 1 : Nat) : Int)) := by
        by_cases g1 : lvB v s = lv
        · rw [if_pos g1, if_neg (fun g2 => hm ⟨g1, g2⟩)]
        · rw [if_neg g1]
      rw [em2]
      refine ih (s + 1) N9 σ A n o (by omega) (by omega) (by omega) (by omega) (hL.skip h0 (by omega) fun z hz z1 z2 => ?_) ?_
      · have e : z = 100 * c + s := by omega
        rw [e] at hz
        exact hm ⟨q4.symm.trans hz.2.1, q5.symm.trans hz.2.2⟩
      · rw [show min (s + 1) (v.2.1 - 2) = s + 1 by omega, hcnt s]
        omega
end N6
