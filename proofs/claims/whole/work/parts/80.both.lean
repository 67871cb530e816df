/-! both find the same way -/
def KT (σ σ' : CSt) : Prop := cs_cb σ' = cs_cb σ ∧ cs_cc σ' = cs_cc σ ∧ cs_cp σ' = cs_cp σ ∧ cs_ce σ' = cs_ce σ ∧ cs_cq σ' = cs_cq σ ∧ σ'.2.1 = σ.2.1 ∧ σ'.2.2.1 = σ.2.2.1 ∧ gtx σ' = gtx σ ∧ gsb σ' = gsb σ ∧ cs_goR σ' = cs_goR σ
theorem KT.rf {σ : CSt} : KT σ σ := ⟨rfl, rfl, rfl, rfl, rfl, rfl, rfl, rfl, rfl, rfl⟩
theorem KT.tr {a b c : CSt} (h : KT a b) (h' : KT b c) : KT a c := by
  obtain ⟨x1, x2, x3, x4, x5, x6, x7, x8, x9, x10⟩ := h
  obtain ⟨y1, y2, y3, y4, y5, y6, y7, y8, y9, y10⟩ := h'
  exact ⟨y1.trans x1, y2.trans x2, y3.trans x3, y4.trans x4, y5.trans x5, y6.trans x6, y7.trans x7, y8.trans x8, y9.trans x9, y10.trans x10⟩
section KT1
variable {σ : CSt} {f g : Nat → Int32} {v : Int32} {a b : Nat} {r : Nat → Option RV}
theorem KT_fcx : KT σ (cs_fcx_s σ f) := ⟨rfl, rfl, rfl, rfl, rfl, rfl, rfl, rfl, rfl, rfl⟩
theorem KT_fcy : KT σ (cs_fcy_s σ f) := ⟨rfl, rfl, rfl, rfl, rfl, rfl, rfl, rfl, rfl, rfl⟩
theorem KT_fcn : KT σ (cs_fcn_s σ v) := ⟨rfl, rfl, rfl, rfl, rfl, rfl, rfl, rfl, rfl, rfl⟩
theorem KT_nc : KT σ (cs_nc_s σ a) := ⟨rfl, rfl, rfl, rfl, rfl, rfl, rfl, rfl, rfl, rfl⟩
theorem KT_ns : KT σ (cs_ns_s σ a) := ⟨rfl, rfl, rfl, rfl, rfl, rfl, rfl, rfl, rfl, rfl⟩
theorem KT_cr : KT σ (cs_cr_s σ r) := ⟨rfl, rfl, rfl, rfl, rfl, rfl, rfl, rfl, rfl, rfl⟩
theorem KT_cSt : KT σ (cSt σ f g v) := (KT_fcx.tr KT_fcy).tr KT_fcn
theorem KT_bump : KT σ (bump σ a b) := KT_nc.tr KT_ns
theorem bu_cr : cs_cr (bump σ a b) = cs_cr σ := rfl
theorem bu_nc : cs_nc (bump σ a b) = cs_nc σ + a := rfl
theorem bu_ns : cs_ns (bump σ a b) = cs_ns σ + b := rfl
theorem cS_cr : cs_cr (cSt σ f g v) = cs_cr σ := rfl
theorem cS_nc : cs_nc (cSt σ f g v) = cs_nc σ := rfl
theorem cS_ns : cs_ns (cSt σ f g v) = cs_ns σ := rfl
end KT1
def TwR (σ σ' : CSt) (c : Nat) (v : RV) : Prop := KT σ σ' ∧ cs_cr σ' = va_up (cs_cr σ) c (some v)
/-- what was made -/
def GhR (σ σ' : CSt) (a b : Nat) : Prop := cs_nc σ ≤ cs_nc σ' ∧ cs_nc σ' ≤ cs_nc σ + a ∧ cs_ns σ ≤ cs_ns σ' ∧ cs_ns σ' ≤ cs_ns σ + b
section T3
variable {F : Nat} {σ : CSt} {c n : Nat} {X Y : Nat → Int} {fx fy : Nat → Int32}
theorem up_id {α : Type} {f : Nat → α} {k : Nat} {v : α} (h : f k = v) : va_up f k v = f := by
  funext j
  unfold va_up
  by_cases q : j = k
  · rw [if_pos q, q]; exact h.symm
  · rw [if_neg q]
theorem sc_tw (hF : 2000 ≤ F) (hw : fc_X8_walk F σ = some (cSt σ fx fy (I n))) (hx : ∀ k, k < n → fx k = I (X k)) (hy : ∀ k, k < n → fy k = I (Y k)) (hn : n ≤ 66) (hc : c < 10) (ho : ∀ v, cs_cr σ c = some v → v.2.1 ≤ 80) (cost : Int32) : ∃ v σ', fc_X9_takeWay F σ (I c) cost = some (b2 (!smB (cs_cr σ c) n X Y n), σ') ∧ RtV v cost n X Y ∧ TwR σ σ' c v ∧ GhR σ σ' 3 (3 + 2 * n) ∧ ∀ w, cs_cr σ c = some w → RtV w cost n X Y → GhR σ σ' 0 0 := by
  have ixc : ix (I c) 10 = true := of_eq_true (I_ix (by omega) (by omega) (by omega))
  have e6 : ((c : Nat) : Int).toNat = c := by omega
  have e7 : ((n : Nat) : Int).toNat = n := by omega
  have hcr : cs_cr (cSt σ fx fy (I n)) c = cs_cr σ c := rfl
  have l32 : ∃ v σ', fc_X9_takeWay_L32 F (cSt σ fx fy (I n)) (I c) cost = some (1, σ') ∧ RtV v cost n X Y ∧ TwR σ σ' c v ∧ GhR σ σ' 3 (3 + 2 * n) := by
    have ixn : ix (I n) 326 = true := of_eq_true (I_ix (by omega) (by omega) (by omega))
    generalize hv : (cost, n, va_cpy fx (fun _ => 0) 0 0 n, va_cpy fy (fun _ => 0) 0 0 n) = v
    refine ⟨v, cs_cr_s (bump (bump (bump (cSt σ fx fy (I n)) 1 3) 1 n) 1 n) (va_up (cs_cr σ) c (some v)), ?_, ?_, ⟨(((KT_cSt.tr KT_bump).tr KT_bump).tr KT_bump).tr KT_cr, zc_cr_cr _ _⟩, ?_⟩
    · unfold fc_X9_takeWay_L32 fc_X8_makeRoute
      rw [cSS_1, gd_t ixn, lt_r, bd2_s, gd_t ixc, lt_r, I_cl (by omega) (by omega), I_cl (by omega) (by omega), e6, e7, cSS_2, cSS_3, hv, bu_cr, bu_cr, bu_cr, cS_cr]
    · rw [← hv]
      exact ⟨rfl, rfl, fun k hk => ⟨(cpy0 fx (fun _ => 0) hk).trans (hx k hk), (cpy0 fy (fun _ => 0) hk).trans (hy k hk)⟩⟩
    · unfold GhR
      rw [zc_nc_cr, zc_ns_cr, bu_nc, bu_nc, bu_nc, bu_ns, bu_ns, bu_ns, cS_nc, cS_ns]
      omega
  unfold fc_X9_takeWay
  rw [hw, bd_s, gd_t ixc, I_cl (by omega) (by omega), e6, hcr]
  cases hq : cs_cr σ c with
  | none =>
    obtain ⟨v, σ', g1, g2, g3, g4⟩ := l32
    refine ⟨v, σ', ?_, g2, g3, g4, fun w hw => by cases hw⟩
    rw [show mo (none : Option RV) (fc_X9_takeWay_L32 F (cSt σ fx fy (I n)) (I c) cost) _ = fc_X9_takeWay_L32 F (cSt σ fx fy (I n)) (I c) cost from rfl, g1]
    rfl
  | some w =>
    have hal := sc_along (F := F) (σ := cSt σ fx fy (I n)) (n := n) (X := X) (Y := Y) (by omega) hn rfl hx hy (v := w) (ho w hq)
    show ∃ v σ', bd (fc_X8_walkedAlong F (cSt σ fx fy (I n)) w) _ = _ ∧ _
    rw [hal, bd_s]
    cases hs : smB (some w) n X Y n with
    | false =>
      obtain ⟨v, σ', g1, g2, g3, g4⟩ := l32
      refine ⟨v, σ', ?_, g2, g3, g4, fun w' hw' hv => ?_⟩
      · rw [if_pos (by decide), g1]
        rfl
      · cases hw'
        rw [smB_of hv.2.1 hv.2.2] at hs
        cases hs
    | true =>
      obtain ⟨s1, s2⟩ := smB_t hs
      rw [if_neg (by decide)]
      by_cases q : w.1 = cost
      · rw [if_pos q]
        refine ⟨w, cSt σ fx fy (I n), rfl, ⟨q, s1, s2⟩, ⟨KT_cSt, ?_⟩, ?_, fun _ _ _ => ?_⟩
        · rw [up_id hq, cS_cr]
        · unfold GhR
          rw [cS_nc, cS_ns]
          omega
        · unfold GhR
          rw [cS_nc, cS_ns]
          omega
      · rw [if_neg q]
        refine ⟨(cost, w.2.1, w.2.2.1, w.2.2.2), cs_cr_s (bump (cSt σ fx fy (I n)) 1 3) (va_up (cs_cr σ) c (some (cost, w.2.1, w.2.2.1, w.2.2.2))), ?_, ⟨rfl, s1, s2⟩, ⟨(KT_cSt.tr KT_bump).tr KT_cr, zc_cr_cr _ _⟩, ?_, fun w' hw' hv => ?_⟩
        · unfold fc_X9_takeWay_L84
          rw [lt_r, gd_t ixc, lt_r, bu_cr, cS_cr]
          rfl
        · unfold GhR
          rw [zc_nc_cr, zc_ns_cr, bu_nc, bu_ns, cS_nc, cS_ns]
          omega
        · cases hw'
          exact absurd hv.1 q
end T3
/-- boxes lie apart -/
def GpB (nb : Nat) (B : Nat → Int) : Prop := ∀ j k, j < nb → k < nb → j ≠ k → B (4 * k + 2) + 2 ≤ B (4 * j) ∨ B (4 * j + 2) + 2 ≤ B (4 * k) ∨ B (4 * k + 3) + 2 ≤ B (4 * j + 1) ∨ B (4 * j + 3) + 2 ≤ B (4 * k + 1)
/-- the best route of a connector -/
def FrS (nb : Nat) (B : Nat → Int) (p b0 s0 : Nat) (o0 : Int) (b1 s1 : Nat) (o1 : Int) (v : RV) : Prop := ∃ (st go : Nat) (N D V : Nat → Nat) (T : Nat), NdP (GDn nb B b0 s0 o0 b1 s1 o1) st b0 s0 o0 ∧ NdP (GDn nb B b0 s0 o0 b1 s1 o1) go b1 s1 o1 ∧ WkD (GDn nb B b0 s0 o0 b1 s1 o1) p go s1 st s0 N D V T ∧ RtV v (I ((2 + V 0 : Nat) : Int)) (nC (edir D s1 T) (T + 2)) (fun k => wyX (GDn nb B b0 s0 o0 b1 s1 o1) N T b0 s0 o0 b1 s1 o1 (cpF (edir D s1 T) (T + 2) k)) (fun k => wyY (GDn nb B b0 s0 o0 b1 s1 o1) N T b0 s0 o0 b1 s1 o1 (cpF (edir D s1 T) (T + 2) k))
section T4
variable {F : Nat} {σ : CSt} {τ : MS} {c nb : Nat} {B : Nat → Int} {p b0 s0 b1 s1 : Nat} {o0 o1 : Int}
theorem pt_diff (hD : CnD nb B p b0 s0 o0 b1 s1 o1) (hG : GpB nb B) (hne : ¬ (b0 = b1 ∧ s0 = s1 ∧ o0 = o1)) {A : GD} (hA : d_B A = B) {st : Nat} (h0 : NdP A st b0 s0 o0) (h1 : NdP A st b1 s1 o1) : s0 ≠ s1 := by
  intro hs
  subst hs
  obtain ⟨hnb, hB, hp, q0, q1⟩ := hD
  have k0 := (pt_bd q0 hB).2
  have k1 := (pt_bd q1 hB).2
  obtain ⟨-, x0, y0⟩ := h0
  obtain ⟨-, x1, y1⟩ := h1
  rw [hA] at x0 y0 x1 y1
  have ex := x0.symm.trans x1
  have ey := y0.symm.trans y1
  obtain ⟨p1, p2, p3, p4⟩ := q0
  obtain ⟨r1, r2, r3, r4⟩ := q1
  by_cases hb : b0 = b1
  · subst hb
    refine hne ⟨rfl, rfl, ?_⟩
    unfold ptX at ex
    unfold ptY at ey
    rcases (show s0 = 0 ∨ s0 = 1 ∨ s0 = 2 ∨ s0 = 3 by omega) with rfl | rfl | rfl | rfl <;> simp at ex ey <;> omega
  · have hg := hG b0 b1 p1 r1 hb
    unfold ptX at ex k0 k1
    unfold ptY at ey k0 k1
    rcases (show s0 = 0 ∨ s0 = 1 ∨ s0 = 2 ∨ s0 = 3 by omega) with rfl | rfl | rfl | rfl <;> simp at ex ey k0 k1 <;> omega
theorem wkd_ex (hD : CnD nb B p b0 s0 o0 b1 s1 o1) (hG : GpB nb B) (hne : ¬ (b0 = b1 ∧ s0 = s1 ∧ o0 = o1)) {st go v : Nat} (h0 : NdP (GDn nb B b0 s0 o0 b1 s1 o1) st b0 s0 o0) (h1 : NdP (GDn nb B b0 s0 o0 b1 s1 o1) go b1 s1 o1) (hV : IsV (GA (GDn nb B b0 s0 o0 b1 s1 o1) p go s1) st s0 v) : ∃ N D V T, WkD (GDn nb B b0 s0 o0 b1 s1 o1) p go s1 st s0 N D V T ∧ V 0 = v := by
  have hgk := hD.nd.1
  have hs0 := hD.2.2.2.1.2.1
  obtain ⟨N, D, V, T, w1, w2, w3, w4, w5⟩ := wlk_ex (GA_ok hgk p go s1) v st s0 hs0 hV
  refine ⟨N, D, V, T, ⟨hgk, w1, w2, w3, h0.1, w5, ?_, hD.1⟩, w4⟩
  refine wk_simple (GA_ok hgk p go s1) w1 ?_ ?_ ?_
  · rw [w2, w3]
    exact op_back hgk h0.1 hD.2.2.2.1 hD.2.1 h0.2.1 h0.2.2
  · exact op_back hgk h1.1 hD.2.2.2.2 hD.2.1 h1.2.1 h1.2.2
  · rintro ⟨z1, z2⟩
    rw [w2] at z1
    rw [w3] at z2
    have z1' : st = go := z1
    subst z1'
    exact pt_diff hD hG hne rfl h0 h1 z2
/-- a route along a best way is sound -/
theorem wkd_ok (hD : CnD nb B p b0 s0 o0 b1 s1 o1) {st go : Nat} {N D V : Nat → Nat} {T : Nat} (h0 : NdP (GDn nb B b0 s0 o0 b1 s1 o1) st b0 s0 o0) (h1 : NdP (GDn nb B b0 s0 o0 b1 s1 o1) go b1 s1 o1) (h : WkD (GDn nb B b0 s0 o0 b1 s1 o1) p go s1 st s0 N D V T) {cost : Int} {v : RV} (hv : RtV v (I cost) (nC (edir D s1 T) (T + 2)) (fun k => wyX (GDn nb B b0 s0 o0 b1 s1 o1) N T b0 s0 o0 b1 s1 o1 (cpF (edir D s1 T) (T + 2) k)) (fun k => wyY (GDn nb B b0 s0 o0 b1 s1 o1) N T b0 s0 o0 b1 s1 o1 (cpF (edir D s1 T) (T + 2) k))) : RouteOk v := by
  have hch := h.ch
  have k0 := (pt_bd hD.2.2.2.1 hD.2.1).1 0 (by omega) (by omega)
  have k1 := (pt_bd hD.2.2.2.2 hD.2.1).1 0 (by omega) (by omega)
  have hp0 := hD.2.2.2.1
  have hp1 := hD.2.2.2.2
  have hg := h.1
  obtain ⟨-, hB, -⟩ := id hD
  have hing := h.ing
  have hTgo : N T = go := h.2.1.2.2.1
  have hN0 := h.2.2.1
  have hD0 := h.2.2.2.1
  have hbx : ∀ i, i ≤ T → (0 ≤ d_X (GDn nb B b0 s0 o0 b1 s1 o1) (N i % 18) ∧ d_X (GDn nb B b0 s0 o0 b1 s1 o1) (N i % 18) ≤ 99) ∧ (0 ≤ d_Y (GDn nb B b0 s0 o0 b1 s1 o1) (N i / 18) ∧ d_Y (GDn nb B b0 s0 o0 b1 s1 o1) (N i / 18) ≤ 99) := fun i hi => by
    have kk0 := (pt_bd hD.2.2.2.1 hD.2.1).1 1 (by omega) (by omega)
    have kk1 := (pt_bd hD.2.2.2.2 hD.2.1).1 1 (by omega) (by omega)
    have lx := (lnL_ok (B := B) (nb := nb) (j0 := 0) (j1 := 2) (p := ptX B b0 s0 o0 1) (q := ptX B b1 s1 o1 1) (fun i hi => (hB i hi).x) (by omega) (by omega)).2.1
    have ly := (lnL_ok (B := B) (nb := nb) (j0 := 1) (j1 := 3) (p := ptY B b0 s0 o0 1) (q := ptY B b1 s1 o1 1) (fun i hi => (hB i hi).y) (by omega) (by omega)).2.1
    obtain ⟨g1, g2⟩ := hing i hi
    exact ⟨lx _ g1, ly _ g2⟩
  have hnx18 := hg.1
  have hny18 := hg.2.1
  have hbk : ∀ n m, n < d_nx (GDn nb B b0 s0 o0 b1 s1 o1) → m < d_nx (GDn nb B b0 s0 o0 b1 s1 o1) → d_X (GDn nb B b0 s0 o0 b1 s1 o1) n = d_X (GDn nb B b0 s0 o0 b1 s1 o1) m → n = m := fun n m a b e => gX_inj hg a b e
  have hbk2 : ∀ n m, n < d_ny (GDn nb B b0 s0 o0 b1 s1 o1) → m < d_ny (GDn nb B b0 s0 o0 b1 s1 o1) → d_Y (GDn nb B b0 s0 o0 b1 s1 o1) n = d_Y (GDn nb B b0 s0 o0 b1 s1 o1) m → n = m := fun n m a b e => gY_inj hg a b e
  have hxm : ∀ m, m ≤ T → wyX (GDn nb B b0 s0 o0 b1 s1 o1) N T b0 s0 o0 b1 s1 o1 (m + 1) = d_X (GDn nb B b0 s0 o0 b1 s1 o1) (N m % 18) := fun m hm => wyQ_m hm
  have hym : ∀ m, m ≤ T → wyY (GDn nb B b0 s0 o0 b1 s1 o1) N T b0 s0 o0 b1 s1 o1 (m + 1) = d_Y (GDn nb B b0 s0 o0 b1 s1 o1) (N m / 18) := fun m hm => wyQ_m hm
  have hx0 : wyX (GDn nb B b0 s0 o0 b1 s1 o1) N T b0 s0 o0 b1 s1 o1 0 = ptX B b0 s0 o0 0 := rfl
  have hy0 : wyY (GDn nb B b0 s0 o0 b1 s1 o1) N T b0 s0 o0 b1 s1 o1 0 = ptY B b0 s0 o0 0 := rfl
  have hxe : wyX (GDn nb B b0 s0 o0 b1 s1 o1) N T b0 s0 o0 b1 s1 o1 (T + 2) = ptX B b1 s1 o1 0 := wyQ_e
  have hye : wyY (GDn nb B b0 s0 o0 b1 s1 o1) N T b0 s0 o0 b1 s1 o1 (T + 2) = ptY B b1 s1 o1 0 := wyQ_e
  have hw := h.2.1
  have hsimp := h.2.2.2.2.2.2.1
  have hX0 : d_X (GDn nb B b0 s0 o0 b1 s1 o1) (N 0 % 18) = ptX B b0 s0 o0 1 := by rw [hN0]; exact h0.2.1
  have hY0 : d_Y (GDn nb B b0 s0 o0 b1 s1 o1) (N 0 / 18) = ptY B b0 s0 o0 1 := by rw [hN0]; exact h0.2.2
  have hXT : d_X (GDn nb B b0 s0 o0 b1 s1 o1) (N T % 18) = ptX B b1 s1 o1 1 := by rw [hTgo]; exact h1.2.1
  have hYT : d_Y (GDn nb B b0 s0 o0 b1 s1 o1) (N T / 18) = ptY B b1 s1 o1 1 := by rw [hTgo]; exact h1.2.2
  generalize wyX (GDn nb B b0 s0 o0 b1 s1 o1) N T b0 s0 o0 b1 s1 o1 = qx at hv hxm hx0 hxe ⊢
  generalize wyY (GDn nb B b0 s0 o0 b1 s1 o1) N T b0 s0 o0 b1 s1 o1 = qy at hv hym hy0 hye ⊢
  generalize GDn nb B b0 s0 o0 b1 s1 o1 = A at *
  have hDT : D T ≠ s1 := hw.2.2.2.1
  have hs0 := hp0.2.1
  have hs1 := hp1.2.1
  refine rts_ok (qx := qx) (qy := qy) (E := edir D s1 T) (M := T + 2) (c := cost) ⟨hv.1, hv.2.1, hv.2.2⟩ (by omega) ⟨fun j hj => ?_, fun j hj => ?_⟩ (fun j hj => ?_) (by show 2 + cntN (chE (edir D s1 T)) (T + 1) ≤ 66; omega) (fun j => N (j - 1) % 18) (fun j => N (j - 1) / 18) (fun j h1 h2 => ?_) (fun i j h1 h2 h3 h4 => ?_)
  · by_cases c0 : j = 0
    · subst c0
      rw [hx0, hy0, hxm 0 (by omega), hym 0 (by omega), hX0, hY0, ed_m (Nat.zero_le _), hD0]
      refine ⟨hs0, ?_⟩
      unfold MvD ptX ptY
      rcases (show s0 = 0 ∨ s0 = 1 ∨ s0 = 2 ∨ s0 = 3 by omega) with rfl | rfl | rfl | rfl <;> simp <;> omega
    · by_cases c1 : j = T + 1
      · subst c1
        rw [hxe, hye, hxm T (by omega), hym T (by omega), hXT, hYT, ed_e]
        refine ⟨opp_lt _, ?_⟩
        unfold MvD ptX ptY opp
        rcases (show s1 = 0 ∨ s1 = 1 ∨ s1 = 2 ∨ s1 = 3 by omega) with rfl | rfl | rfl | rfl <;> simp <;> omega
      · obtain ⟨i, rfl⟩ : ∃ i, j = i + 1 := ⟨j - 1, by omega⟩
        have hiT : i < T := by omega
        rw [hxm i (by omega), hym i (by omega), hxm (i + 1) (by omega), hym (i + 1) (by omega), ed_m (show i + 1 ≤ T by omega)]
        obtain ⟨z1, z2, z3, -⟩ := hw.2.1 i hiT
        have hd1 := (hw.1 (i + 1) (by omega)).1
        have z2' : opA A (N i) (D (i + 1)) = true := z2
        have z3' : N (i + 1) = tgA (N i) (D (i + 1)) := z3
        refine ⟨hd1, ?_⟩
        rw [z3']
        obtain ⟨r, cc, hcc, e⟩ := rc_of (N i)
        rw [e] at z2' ⊢
        generalize D (i + 1) = d at z2' hd1 ⊢
        unfold MvD
        rcases (show d = 0 ∨ d = 1 ∨ d = 2 ∨ d = 3 by omega) with rfl | rfl | rfl | rfl
        · obtain ⟨r', rfl, a1, a2, -⟩ := (op0_iff hcc).mp z2'
          have := gY hg (show r' < r' + 1 by omega) a2
          rw [tg0, show (18 * (r' + 1) + cc) % 18 = cc by omega, show (18 * (r' + 1) + cc) / 18 = r' + 1 by omega, show (18 * r' + cc) % 18 = cc by omega, show (18 * r' + cc) / 18 = r' by omega]
          simp
          omega
        · obtain ⟨a1, a2, -⟩ := (op1_iff hcc).mp z2'
          have := gX hg (show cc < cc + 1 by omega) a1
          rw [tg1, show (18 * r + cc) % 18 = cc by omega, show (18 * r + cc) / 18 = r by omega, show (18 * r + (cc + 1)) % 18 = cc + 1 by omega, show (18 * r + (cc + 1)) / 18 = r by omega]
          simp
          omega
        · obtain ⟨a1, a2, -⟩ := (op2_iff hcc).mp z2'
          have := gY hg (show r < r + 1 by omega) a2
          rw [tg2, show (18 * r + cc) % 18 = cc by omega, show (18 * r + cc) / 18 = r by omega, show (18 * (r + 1) + cc) % 18 = cc by omega, show (18 * (r + 1) + cc) / 18 = r + 1 by omega]
          simp
          omega
        · obtain ⟨c', rfl, a1, a2, -⟩ := (op3_iff hg hcc).mp z2'
          have := gX hg (show c' < c' + 1 by omega) a1
          rw [tg3, show (18 * r + (c' + 1)) % 18 = c' + 1 by omega, show (18 * r + (c' + 1)) / 18 = r by omega, show (18 * r + c') % 18 = c' by omega, show (18 * r + c') / 18 = r by omega]
          simp
          omega
  · by_cases c1 : j = T
    · subst c1
      rw [ed_e, ed_m (Nat.le_refl _)]
      intro z
      have hdT := (hw.1 j (Nat.le_refl _)).1
      refine hDT ?_
      have := congrArg opp z
      rw [opp_opp hs1, opp_opp hdT] at this
      exact this.symm
    · rw [ed_m (show j + 1 ≤ T by omega), ed_m (show j ≤ T by omega)]
      exact (hw.2.1 j (by omega)).1
  · by_cases c0 : j = 0
    · subst c0
      rw [hx0, hy0]
      omega
    · by_cases c1 : j = T + 2
      · subst c1
        rw [hxe, hye]
        omega
      · obtain ⟨i, rfl⟩ : ∃ i, j = i + 1 := ⟨j - 1, by omega⟩
        rw [hxm i (by omega), hym i (by omega)]
        exact hbx i (by omega)
  · obtain ⟨a1, a2⟩ := hing (j - 1) (by omega)
    exact ⟨by show N (j - 1) % 18 < 18; omega, by show N (j - 1) / 18 < 18; omega⟩
  · obtain ⟨i, rfl⟩ : ∃ i', i = i' + 1 := ⟨i - 1, by omega⟩
    obtain ⟨j, rfl⟩ : ∃ j', j = j' + 1 := ⟨j - 1, by omega⟩
    rw [hxm i (by omega), hym i (by omega), hxm j (by omega), hym j (by omega)]
    refine ⟨fun z => ?_, fun z => ?_, fun z1 z2 => ?_⟩
    · have z' : N i % 18 = N j % 18 := z
      rw [z']
    · have z' : N i / 18 = N j / 18 := z
      rw [z']
    · obtain ⟨a1, a2⟩ := hing i (by omega)
      obtain ⟨a3, a4⟩ := hing j (by omega)
      have e1 := hbk _ _ a1 a3 z1
      have e2 := hbk2 _ _ a2 a4 z2
      have e3 : N i = N j := by omega
      rcases Nat.lt_trichotomy i j with q | q | q
      · exact absurd e3 (hsimp i j q (by omega))
      · omega
      · exact absurd e3.symm (hsimp j i q (by omega))
end T4
