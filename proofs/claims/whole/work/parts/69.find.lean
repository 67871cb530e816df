/-! the class finds the cost -/
def Kf (σ σ' : CSt) : Prop := σ'.1 = σ.1 ∧ σ'.2.1 = σ.2.1 ∧ σ'.2.2.1 = σ.2.2.1 ∧ σ'.2.2.2.2.2.2 = σ.2.2.2.2.2.2
theorem Kf.rf {σ : CSt} : Kf σ σ := ⟨rfl, rfl, rfl, rfl⟩
theorem Kf.tr {a b c : CSt} (h : Kf a b) (h' : Kf b c) : Kf a c := ⟨h'.1.trans h.1, h'.2.1.trans h.2.1, h'.2.2.1.trans h.2.2.1, h'.2.2.2.trans h.2.2.2⟩
section K9
variable {σ : CSt} {f g : Nat → Int32} {v w : Int32}
theorem Kf_fpen : Kf σ (cs_fpen_s σ v) := ⟨rfl, rfl, rfl, rfl⟩
theorem Kf_fss : Kf σ (cs_fss_s σ v) := ⟨rfl, rfl, rfl, rfl⟩
theorem Kf_fgs : Kf σ (cs_fgs_s σ v) := ⟨rfl, rfl, rfl, rfl⟩
theorem Kf_fstart : Kf σ (cs_fstart_s σ v) := ⟨rfl, rfl, rfl, rfl⟩
theorem Kf_fgoal : Kf σ (cs_fgoal_s σ v) := ⟨rfl, rfl, rfl, rfl⟩
theorem Kf_gx : Kf σ (cs_gx_s σ f) := ⟨rfl, rfl, rfl, rfl⟩
theorem Kf_gy : Kf σ (cs_gy_s σ f) := ⟨rfl, rfl, rfl, rfl⟩
theorem Kf_gc : Kf σ (cs_gc_s σ v) := ⟨rfl, rfl, rfl, rfl⟩
theorem Kf_gr : Kf σ (cs_gr_s σ v) := ⟨rfl, rfl, rfl, rfl⟩
theorem Kf_goR : Kf σ (cs_goR_s σ f) := ⟨rfl, rfl, rfl, rfl⟩
theorem Kf_goD : Kf σ (cs_goD_s σ f) := ⟨rfl, rfl, rfl, rfl⟩
theorem Kf_rs : Kf σ (cs_frests_s σ f) := ⟨rfl, rfl, rfl, rfl⟩
theorem Kf_whd : Kf σ (cs_whd_s σ f) := ⟨rfl, rfl, rfl, rfl⟩
theorem Kf_wnx : Kf σ (cs_wnx_s σ f) := ⟨rfl, rfl, rfl, rfl⟩
theorem Kf_wpv : Kf σ (cs_wpv_s σ f) := ⟨rfl, rfl, rfl, rfl⟩
theorem Kf_wre : Kf σ (cs_wre_s σ v) := ⟨rfl, rfl, rfl, rfl⟩
theorem Kf_fcx : Kf σ (cs_fcx_s σ f) := ⟨rfl, rfl, rfl, rfl⟩
theorem Kf_fcy : Kf σ (cs_fcy_s σ f) := ⟨rfl, rfl, rfl, rfl⟩
theorem Kf_fcn : Kf σ (cs_fcn_s σ v) := ⟨rfl, rfl, rfl, rfl⟩
theorem Kf_gSt : Kf σ (gSt σ f g v w) := ((Kf_gx.tr Kf_gy).tr Kf_gc).tr Kf_gr
theorem Kf_jSt : Kf σ (jSt σ f g) := Kf_goR.tr Kf_goD
theorem Kf_wSt {rs hd nx pv : Nat → Int32} : Kf σ (wSt σ rs hd nx pv v) := (((Kf_rs.tr Kf_wre).tr Kf_whd).tr Kf_wnx).tr Kf_wpv
end K9
def GDc (nb : Nat) (B : Nat → Int) (px py qx qy : Int) : GD := ((lnL B nb 0 2 px qx).1, (lnL B nb 1 3 py qy).1, (lnL B nb 0 2 px qx).2, (lnL B nb 1 3 py qy).2, nb, B)
theorem GDc_ok {nb : Nat} {B : Nat → Int} {px py qx qy : Int} (hnb : nb ≤ 8) (hB : ∀ k, k < nb → BxB B k) (h1 : 0 ≤ px ∧ px ≤ 99) (h2 : 0 ≤ py ∧ py ≤ 99) (h3 : 0 ≤ qx ∧ qx ≤ 99) (h4 : 0 ≤ qy ∧ qy ≤ 99) : GrOk (GDc nb B px py qx qy) := by
  obtain ⟨x1, x2, x3, x4, -⟩ := lnL_ok (B := B) (nb := nb) (j0 := 0) (j1 := 2) (p := px) (q := qx) (fun i hi => (hB i hi).x) h1 h3
  obtain ⟨y1, y2, y3, y4, -⟩ := lnL_ok (B := B) (nb := nb) (j0 := 1) (j1 := 3) (p := py) (q := qy) (fun i hi => (hB i hi).y) h2 h4
  refine ⟨by show (lnL B nb 0 2 px qx).1 ≤ 18; omega, by show (lnL B nb 1 3 py qy).1 ≤ 18; omega, x1, y1, fun k hk => ?_⟩
  obtain ⟨⟨q2, q3, q4⟩, q5, q6, q7⟩ := hB k hk
  exact ⟨by show B (4 * k) ≤ B (4 * k + 2); omega, by show B (4 * k + 1) ≤ B (4 * k + 3); omega, (x4 k hk).1, (x4 k hk).2, (y4 k hk).1, (y4 k hk).2⟩
/-- the step back into the box is closed -/
theorem op_back {A : GD} (hg : GrOk A) {n b s : Nat} {o : Int} (hn : inG A n) (hp : PtI (d_nb A) (d_B A) b s o) (hB : ∀ k, k < d_nb A → BxB (d_B A) k) (hx : d_X A (n % 18) = ptX (d_B A) b s o 1) (hy : d_Y A (n / 18) = ptY (d_B A) b s o 1) : opA A n (opp s) = false := by
  have hbd := pt_bd hp hB
  obtain ⟨p1, p2, p3, p4⟩ := hp
  obtain ⟨⟨q2, q3, q4⟩, q5, q6, q7⟩ := hB b p1
  cases ho : opA A n (opp s) with
  | false => rfl
  | true =>
    exfalso
    obtain ⟨r, c, hc, rfl⟩ := rc_of n
    rw [show (18 * r + c) % 18 = c by omega] at hx
    rw [show (18 * r + c) / 18 = r by omega] at hy
    unfold ptX at hx
    unfold ptY at hy
    rcases (show s = 0 ∨ s = 1 ∨ s = 2 ∨ s = 3 by omega) with rfl | rfl | rfl | rfl
    · obtain ⟨h1, h2, h3⟩ := (op2_iff hc).mp ho
      have := gY hg (show r < r + 1 by omega) h2
      have := h3 b p1
      simp at hx hy p4
      omega
    · obtain ⟨c', rfl, h1, h2, h3⟩ := (op3_iff hg hc).mp ho
      have := gX hg (show c' < c' + 1 by omega) h1
      have := h3 b p1
      simp at hx hy p4
      omega
    · obtain ⟨r', rfl, h1, h2, h3⟩ := (op0_iff hc).mp ho
      have := gY hg (show r' < r' + 1 by omega) h2
      have := h3 b p1
      simp at hx hy p4
      omega
    · obtain ⟨h1, h2, h3⟩ := (op1_iff hc).mp ho
      have := gX hg (show c < c + 1 by omega) h1
      have := h3 b p1
      simp at hx hy p4
      omega
/-- a canvas and a connector of it -/
def CnD (nb : Nat) (B : Nat → Int) (p : Nat) (b0 s0 : Nat) (o0 : Int) (b1 s1 : Nat) (o1 : Int) : Prop := nb ≤ 8 ∧ (∀ k, k < nb → BxB B k) ∧ p ≤ 50 ∧ PtI nb B b0 s0 o0 ∧ PtI nb B b1 s1 o1
def GDn (nb : Nat) (B : Nat → Int) (b0 s0 : Nat) (o0 : Int) (b1 s1 : Nat) (o1 : Int) : GD := GDc nb B (ptX B b0 s0 o0 1) (ptY B b0 s0 o0 1) (ptX B b1 s1 o1 1) (ptY B b1 s1 o1 1)
def CnC (σ : CSt) (c nb : Nat) (B : Nat → Int) (p : Nat) (b0 s0 : Nat) (o0 : Int) (b1 s1 : Nat) (o1 : Int) : Prop := CnD nb B p b0 s0 o0 b1 s1 o1 ∧ c < 10 ∧ cs_cb σ = I nb ∧ bxI (cs_ce σ) = B ∧ cs_cp σ = I p ∧ cs_cq σ (6 * c) = I b0 ∧ cs_cq σ (6 * c + 1) = I s0 ∧ cs_cq σ (6 * c + 2) = I o0 ∧ cs_cq σ (6 * c + 3) = I b1 ∧ cs_cq σ (6 * c + 4) = I s1 ∧ cs_cq σ (6 * c + 5) = I o1
/-- the node of a port -/
def NdP (A : GD) (n b s : Nat) (o : Int) : Prop := inG A n ∧ d_X A (n % 18) = ptX (d_B A) b s o 1 ∧ d_Y A (n / 18) = ptY (d_B A) b s o 1
section F1
variable {F : Nat} {σ : CSt} {c nb : Nat} {B : Nat → Int} {p b0 s0 b1 s1 : Nat} {o0 o1 : Int}
theorem CnD.nd (h : CnD nb B p b0 s0 o0 b1 s1 o1) : GrOk (GDn nb B b0 s0 o0 b1 s1 o1) ∧ (∃ st, NdP (GDn nb B b0 s0 o0 b1 s1 o1) st b0 s0 o0) ∧ ∃ go, NdP (GDn nb B b0 s0 o0 b1 s1 o1) go b1 s1 o1 := by
  obtain ⟨hnb, hB, hp, h0, h1⟩ := h
  have k0 := (pt_bd h0 hB).1 1 (by omega) (by omega)
  have k1 := (pt_bd h1 hB).1 1 (by omega) (by omega)
  obtain ⟨x1, x2, x3, x4, x5, x6⟩ := lnL_ok (B := B) (nb := nb) (j0 := 0) (j1 := 2) (p := ptX B b0 s0 o0 1) (q := ptX B b1 s1 o1 1) (fun i hi => (hB i hi).x) (by omega) (by omega)
  obtain ⟨y1, y2, y3, y4, y5, y6⟩ := lnL_ok (B := B) (nb := nb) (j0 := 1) (j1 := 3) (p := ptY B b0 s0 o0 1) (q := ptY B b1 s1 o1 1) (fun i hi => (hB i hi).y) (by omega) (by omega)
  have mk : ∀ (i j : Nat) (b s : Nat) (o : Int), i < (lnL B nb 0 2 (ptX B b0 s0 o0 1) (ptX B b1 s1 o1 1)).1 → (lnL B nb 0 2 (ptX B b0 s0 o0 1) (ptX B b1 s1 o1 1)).2 i = ptX B b s o 1 → j < (lnL B nb 1 3 (ptY B b0 s0 o0 1) (ptY B b1 s1 o1 1)).1 → (lnL B nb 1 3 (ptY B b0 s0 o0 1) (ptY B b1 s1 o1 1)).2 j = ptY B b s o 1 → NdP (GDn nb B b0 s0 o0 b1 s1 o1) (18 * j + i) b s o := fun i j b s o hi ei hj ej => by
    have m1 : (18 * j + i) % 18 = i := by omega
    have m2 : (18 * j + i) / 18 = j := by omega
    unfold NdP inG
    rw [m1, m2]
    exact ⟨⟨hi, hj⟩, ei, ej⟩
  obtain ⟨i0, a1, a2⟩ := x5
  obtain ⟨j0, a3, a4⟩ := y5
  obtain ⟨i1, a5, a6⟩ := x6
  obtain ⟨j1, a7, a8⟩ := y6
  exact ⟨GDc_ok hnb hB (by omega) (by omega) (by omega) (by omega), ⟨_, mk i0 j0 b0 s0 o0 a1 a2 a3 a4⟩, _, mk i1 j1 b1 s1 o1 a5 a6 a7 a8⟩
def flF (v : Int32) (old : Nat → Int32) (k : Nat) : Nat → Int32 := fun j => if j < k then v else old j
theorem flF_S (v : Int32) (old : Nat → Int32) (k : Nat) : upd (flF v old k) k v = flF v old (k + 1) := by
  funext j
  unfold upd flF
  by_cases h : j = k
  · rw [if_pos h, if_pos (by omega)]
  · rw [if_neg h]
    by_cases h2 : j < k
    · rw [if_pos h2, if_pos (by omega)]
    · rw [if_neg h2, if_neg (by omega)]
theorem flF_0 (v : Int32) (old : Nat → Int32) : flF v old 0 = old := by
  funext j
  unfold flF
  rw [if_neg (by omega)]
theorem sc_fill24 (hF : 2000 ≤ F) (v : Int32) : fc_J7_fill_53178_24 F σ v = some (cs_frests_s σ (flF v (cs_frests σ) 1296)) := by
  refine lp_r (fun k => (cs_frests_s σ (flF v (cs_frests σ) k), v, I k, 1296)) _ 1296 (by rw [flF_0]; rfl) (by omega) (fun k rec hk => ?_) (fun rec => ?_)
  · have e1 : ¬ (1296 : Int32) ≤ I k := by rw [show (1296 : Int32) = I 1296 from rfl, I_le] <;> omega
    have e2 : ((k : Nat) : Int).toNat = k := by omega
    simp (disch := omega) only [fc_J7_fill_53178_24_L5_c, e1, if_false, I_ix, gd_T, lt_r, sc_frests, I_cl, e2, zc_frests_frests, flF_S, I_S]
    rfl
  · have e1 : (1296 : Int32) ≤ I ((1296 : Nat) : Int) := by decide
    simp only [fc_J7_fill_53178_24_L5_c, e1, if_true]
theorem sc_fill33 (hF : 2000 ≤ F) (v : Int32) : fc_J7_fill_53178_33 F σ v = some (cs_whd_s σ (flF v (cs_whd σ) 256)) := by
  refine lp_r (fun k => (cs_whd_s σ (flF v (cs_whd σ) k), v, I k, 256)) _ 256 (by rw [flF_0]; rfl) (by omega) (fun k rec hk => ?_) (fun rec => ?_)
  · have e1 : ¬ (256 : Int32) ≤ I k := by rw [show (256 : Int32) = I 256 from rfl, I_le] <;> omega
    have e2 : ((k : Nat) : Int).toNat = k := by omega
    simp (disch := omega) only [fc_J7_fill_53178_33_L5_c, e1, if_false, I_ix, gd_T, lt_r, sc_whd, I_cl, e2, zc_whd_whd, flF_S, I_S]
    rfl
  · have e1 : (256 : Int32) ≤ I ((256 : Nat) : Int) := by decide
    simp only [fc_J7_fill_53178_33_L5_c, e1, if_true]
theorem dj_start {A : GD} {go gs : Nat} {rs hd nx pv : Nat → Int32} (h1 : ∀ s, s < 1296 → rs s = 1000000) (h2 : ∀ l, l < 256 → hd l = -1) : DJ A p go gs rs hd nx pv 0 (fun _ => False) (fun _ => False) (fun _ => 1000000) 0 0 4 0 := by
  refine ⟨dj_0, rfl, fun s hs => h1 s hs, fun _ => none, fun _ => none, fun _ => none, fun _ => 0, 0, ⟨fun l s h => (by cases h), fun s h => h.elim, fun s t h => h.elim, fun s h => h.elim, fun s t h => h.elim⟩, fun l hl => h2 l hl, fun s h => h.elim⟩
set_option maxHeartbeats 4000000 in
theorem sc_prepare (hF : 2000 ≤ F) (h : CnC σ c nb B p b0 s0 o0 b1 s1 o1) (h17 : G17 σ) : ∃ (σ1 : CSt) (rs hd nx pv : Nat → Int32) (st go : Nat), fc_X8_prepare F σ (I c) = some (wSt σ1 rs hd nx pv 0) ∧ Kf σ σ1 ∧ G17 σ1 ∧ SrC σ1 (GDn nb B b0 s0 o0 b1 s1 o1) p go s1 ∧ cs_fstart σ1 = I st ∧ cs_fss σ1 = I s0 ∧ NdP (GDn nb B b0 s0 o0 b1 s1 o1) st b0 s0 o0 ∧ NdP (GDn nb B b0 s0 o0 b1 s1 o1) go b1 s1 o1 ∧ DJ (GDn nb B b0 s0 o0 b1 s1 o1) p go s1 rs hd nx pv 0 (fun _ => False) (fun _ => False) (fun _ => 1000000) 0 0 4 0 := by
  obtain ⟨hD, hc, e1, e2, e3, q0, q1, q2, q3, q4, q5⟩ := h
  obtain ⟨hgk, -, -⟩ := hD.nd
  obtain ⟨hnb, hB, hp, h0, h1⟩ := id hD
  subst e2
  generalize hBB : bxI (cs_ce σ) = B at hB h0 h1 hD hgk ⊢
  have k0 := (pt_bd h0 hB).1 1 (by omega) (by omega)
  have k1 := (pt_bd h1 hB).1 1 (by omega) (by omega)
  have hs0 := h0.2.1
  have hs1 := h1.2.1
  obtain ⟨x1, x2, x3, -⟩ := bxL_ok (B := B) (j0 := 0) (j1 := 2) nb (fun i hi => (hB i hi).x)
  obtain ⟨y1, y2, y3, -⟩ := bxL_ok (B := B) (j0 := 1) (j1 := 3) nb (fun i hi => (hB i hi).y)
  -- the base state
  generalize hσ5 : cs_fgs_s (cs_fss_s (cs_fpen_s σ (cs_cp σ)) (I s0)) (I s1) = σ5
  have c5 : σ5.1 = σ.1 := by rw [← hσ5]; rfl
  have ce5 : cs_ce σ5 = cs_ce σ := by rw [← hσ5]; rfl
  have cb5 : cs_cb σ5 = I nb := by rw [← hσ5]; exact e1
  have cq5 : cs_cq σ5 = cs_cq σ := by rw [← hσ5]; rfl
  obtain ⟨pX0, pY0⟩ := sc_port (F := F) (σ := σ5) (nb := nb) (c := c) (pt := 0) (b := b0) (s := s0) (o := o0) hc (by omega) hnb (by rw [cq5]; exact q0) (by rw [cq5]; exact q1) (by rw [cq5]; exact q2) (by rw [ce5, hBB]; exact h0)
  obtain ⟨pX1, pY1⟩ := sc_port (F := F) (σ := σ5) (nb := nb) (c := c) (pt := 1) (b := b1) (s := s1) (o := o1) hc (by omega) hnb (by rw [cq5]; exact q3) (by rw [cq5]; exact q4) (by rw [cq5]; exact q5) (by rw [ce5, hBB]; exact h1)
  rw [ce5, hBB] at pX0 pY0 pX1 pY1
  obtain ⟨⟨r1, u1, u2, -⟩, r2, u3, u4, -⟩ := sc_outer (F := F) (σ := σ5) (b := b0) (s := s0) (o := o0) (B := B) hs0
  obtain ⟨⟨r3, u5, u6, -⟩, r4, u7, u8, -⟩ := sc_outer (F := F) (σ := σ5) (b := b1) (s := s1) (o := o1) (B := B) hs1
  generalize hpx : ptX B b0 s0 o0 1 = px at u2 k0
  generalize hpy : ptY B b0 s0 o0 1 = py at u4 k0
  generalize hqx : ptX B b1 s1 o1 1 = qx at u6 k1
  generalize hqy : ptY B b1 s1 o1 1 = qy at u8 k1
  have a0 := ins_le (L := bxL B 0 2 nb) (z := px)
  have a1 := ins_le (L := bxL B 1 3 nb) (z := py)
  have a2 := ins_le (L := insL (bxL B 0 2 nb) px) (z := qx)
  have a3 := ins_le (L := insL (bxL B 1 3 nb) py) (z := qy)
  obtain ⟨fx1, fy1, g1, g2, g3⟩ := sc_around (F := F) (σ := σ5) (by omega) cb5 hnb (by rw [ce5, hBB]; exact hB) (cs_gx σ5) (cs_gy σ5)
  rw [ce5, hBB] at g1 g2 g3
  obtain ⟨fx2, fy2, g4, g5, g6⟩ := sc_through (F := F) (σ := σ5) (by omega) x1 (by omega) x2 g2 y1 (by omega) y2 g3 (x := px) (y := py) (by omega) (by omega)
  obtain ⟨fx3, fy3, g7, g8, g9⟩ := sc_through (F := F) (σ := σ5) (by omega) (ins_srt x1) (by omega) (ins_bd x2 (by omega)) g5 (ins_srt y1) (by omega) (ins_bd y2 (by omega)) g6 (x := qx) (y := qy) (by omega) (by omega)
  have hA : GDn nb B b0 s0 o0 b1 s1 o1 = GDc nb B px py qx qy := by
    unfold GDn
    rw [hpx, hpy, hqx, hqy]
  rw [hA] at hgk ⊢
  generalize hLx : insL (insL (bxL B 0 2 nb) px) qx = Lx at a2 g7 g8
  generalize hLy : insL (insL (bxL B 1 3 nb) py) qy = Ly at a3 g7 g9
  have hdX : d_X (GDc nb B px py qx qy) = Lx.2 := by rw [← hLx]; rfl
  have hdY : d_Y (GDc nb B px py qx qy) = Ly.2 := by rw [← hLy]; rfl
  have hnx : d_nx (GDc nb B px py qx qy) = Lx.1 := by rw [← hLx]; rfl
  have hny : d_ny (GDc nb B px py qx qy) = Ly.1 := by rw [← hLy]; rfl
  have sLx : SrtL Lx := by rw [← hLx]; exact ins_srt (ins_srt x1)
  have sLy : SrtL Ly := by rw [← hLy]; exact ins_srt (ins_srt y1)
  have bLx : BdL Lx := by rw [← hLx]; exact ins_bd (ins_bd x2 (by omega)) (by omega)
  have bLy : BdL Ly := by rw [← hLy]; exact ins_bd (ins_bd y2 (by omega)) (by omega)
  obtain ⟨i0, m1, m2⟩ : InL Lx px := by rw [← hLx]; exact (ins_mem _).mpr (Or.inr ((ins_mem _).mpr (Or.inl rfl)))
  obtain ⟨i1, m3, m4⟩ : InL Lx qx := by rw [← hLx]; exact (ins_mem _).mpr (Or.inl rfl)
  obtain ⟨j0, m5, m6⟩ : InL Ly py := by rw [← hLy]; exact (ins_mem _).mpr (Or.inr ((ins_mem _).mpr (Or.inl rfl)))
  obtain ⟨j1, m7, m8⟩ : InL Ly qy := by rw [← hLy]; exact (ins_mem _).mpr (Or.inl rfl)
  generalize hσ6 : gSt σ5 fx3 fy3 (I Lx.1) (I Ly.1) = σ6 at g7
  have hLn : LnC σ6 (GDc nb B px py qx qy) := by
    rw [← hσ6]
    refine ⟨cb5, hnb, hB, by show B = bxI (cs_ce σ5); rw [ce5, hBB], by rw [hnx]; rfl, by rw [hny]; rfl, by rw [hnx]; omega, by rw [hny]; omega, fun j hj => ?_, fun j hj => ?_⟩
    · rw [hnx] at hj
      rw [hdX]
      exact ⟨g8 j hj, bLx j hj⟩
    · rw [hny] at hj
      rw [hdY]
      exact ⟨g9 j hj, bLy j hj⟩
  have gj := sc_join (F := F) (by omega) hLn
  generalize hA' : GDc nb B px py qx qy = A at *
  generalize hσ7 : jSt σ6 (jnF (rtB A) (cs_goR σ6) (d_nx A) (d_ny A) 0) (jnF (dnB A) (cs_goD σ6) (d_nx A) (d_ny A) 0) = σ7 at gj
  have gx7 : RwL (cs_gx σ7) Lx := by rw [← hσ7, ← hσ6]; exact g8
  have gy7 : RwL (cs_gy σ7) Ly := by rw [← hσ7, ← hσ6]; exact g9
  have gc7 : cs_gc σ7 = I Lx.1 := by rw [← hσ7, ← hσ6]; rfl
  have gr7 : cs_gr σ7 = I Ly.1 := by rw [← hσ7, ← hσ6]; rfl
  have ix0 := sc_idx28 (F := F) (σ := σ7) (by omega) sLx (by omega) bLx gx7 m1
  have iy0 := sc_idx29 (F := F) (σ := σ7) (by omega) sLy (by omega) bLy gy7 m5
  have ix1 := sc_idx28 (F := F) (σ := cs_fstart_s σ7 (I ((18 * j0 + i0 : Nat) : Int))) (by omega) sLx (by omega) bLx gx7 m3
  have iy1 := sc_idx29 (F := F) (σ := cs_fstart_s σ7 (I ((18 * j0 + i0 : Nat) : Int))) (by omega) sLy (by omega) bLy gy7 m7
  rw [m2] at ix0
  rw [m6] at iy0
  rw [m4] at ix1
  rw [m8] at iy1
  have w0 : I j0 * 18 + I i0 = I ((18 * j0 + i0 : Nat) : Int) := by
    rw [show (18 : Int32) = I 18 from rfl, I_mul, I_add]
    exact congrArg I (by omega)
  have w1 : I j1 * 18 + I i1 = I ((18 * j1 + i1 : Nat) : Int) := by
    rw [show (18 : Int32) = I 18 from rfl, I_mul, I_add]
    exact congrArg I (by omega)
  have n0 : fc_X4_nodeAt F σ7 (I px) (I py) = some (I ((18 * j0 + i0 : Nat) : Int)) := by
    simp only [fc_X4_nodeAt, gc7, gr7, ix0, iy0, bd_s, w0]
  have n1 : fc_X4_nodeAt F (cs_fstart_s σ7 (I ((18 * j0 + i0 : Nat) : Int))) (I qx) (I qy) = some (I ((18 * j1 + i1 : Nat) : Int)) := by
    simp only [fc_X4_nodeAt, zc_gc_fstart, zc_gr_fstart, gc7, gr7, ix1, iy1, bd_s, w1]
  generalize hσ8 : cs_fgoal_s (cs_fstart_s σ7 (I ((18 * j0 + i0 : Nat) : Int))) (I ((18 * j1 + i1 : Nat) : Int)) = σ8
  have hnd0 : NdP A (18 * j0 + i0) b0 s0 o0 := by
    have z1 : (18 * j0 + i0) % 18 = i0 := by omega
    have z2 : (18 * j0 + i0) / 18 = j0 := by omega
    unfold NdP inG
    rw [z1, z2, hdX, hdY, hnx, hny, m2, m6, ← hA', ← hpx, ← hpy]
    exact ⟨⟨m1, m5⟩, rfl, rfl⟩
  have hnd1 : NdP A (18 * j1 + i1) b1 s1 o1 := by
    have z1 : (18 * j1 + i1) % 18 = i1 := by omega
    have z2 : (18 * j1 + i1) / 18 = j1 := by omega
    unfold NdP inG
    rw [z1, z2, hdX, hdY, hnx, hny, m4, m8, ← hA', ← hqx, ← hqy]
    exact ⟨⟨m3, m7⟩, rfl, rfl⟩
  have h17' : ∀ r, r < 18 → cs_goR σ6 (18 * r + 17) = 0 := fun r hr => by
    rw [← hσ6, ← hσ5]
    exact h17 r hr
  have hR7 : ∀ n, n < 324 → (inG A n ∨ n % 18 = 17) → cs_goR σ7 n = b2 (rtB A n) := fun n hn hor => by
    rw [← hσ7]
    show jnF (rtB A) (cs_goR σ6) (d_nx A) (d_ny A) 0 n = _
    unfold jnF
    by_cases z : n % 18 < d_nx A ∧ (n / 18 < d_ny A ∨ n / 18 = d_ny A ∧ n % 18 < 0)
    · rw [if_pos z]
    · rw [if_neg z]
      have z2 : n % 18 = 17 := by
        rcases hor with y | y
        · exact absurd ⟨y.1, Or.inl y.2⟩ z
        · exact y
      have z3 := h17' (n / 18) (by omega)
      rw [show 18 * (n / 18) + 17 = n by omega] at z3
      rw [z3]
      have z4 : rtB A n = false := by
        unfold rtB
        rw [decide_eq_false (show ¬ n % 18 + 1 < d_nx A by have := hgk.1; omega)]
        rfl
      rw [z4]
      rfl
  have hD7 : ∀ n, n < 324 → inG A n → cs_goD σ7 n = b2 (dnB A n) := fun n hn hin => by
    rw [← hσ7]
    show jnF (dnB A) (cs_goD σ6) (d_nx A) (d_ny A) 0 n = _
    unfold jnF
    rw [if_pos ⟨hin.1, Or.inl hin.2⟩]
  have hGr8 : GrC σ8 A := by
    rw [← hσ8]
    refine ⟨?_, hgk, hR7, hD7⟩
    rw [← hσ7]
    exact hLn
  refine ⟨σ8, flF 1000000 (cs_frests σ8) 1296, flF (-1) (cs_whd σ8) 256, cs_wnx σ8, cs_wpv σ8, 18 * j0 + i0, 18 * j1 + i1, ?_, ?_, ?_, ⟨hGr8, ?_, hp, ?_, hnd1.1, ?_, hs1⟩, ?_, ?_, hnd0, hnd1, dj_start (fun s hs => if_pos hs) (fun l hl => if_pos hl)⟩
  · have f1 : fc_X1_portSide F (cs_fpen_s σ (cs_cp σ)) (I c) 0 = some (I s0) := by
      rw [← q1]
      exact sc_side (F := F) (σ := cs_fpen_s σ (cs_cp σ)) c 0 hc (by omega)
    have f2 : fc_X1_portSide F (cs_fss_s (cs_fpen_s σ (cs_cp σ)) (I s0)) (I c) 1 = some (I s1) := by
      rw [← q4]
      exact sc_side (F := F) (σ := cs_fss_s (cs_fpen_s σ (cs_cp σ)) (I s0)) c 1 hc (by omega)
    have pX0' : fc_X1_portX F σ5 (I c) 0 = _ := pX0
    have pY0' : fc_X1_portY F σ5 (I c) 0 = _ := pY0
    have pX1' : fc_X1_portX F σ5 (I c) 1 = _ := pX1
    have pY1' : fc_X1_portY F σ5 (I c) 1 = _ := pY1
    have ss5 : cs_fss σ5 = I s0 := by rw [← hσ5]; rfl
    have gs5 : cs_fgs σ5 = I s1 := by rw [← hσ5]; rfl
    have cl : fc_X4_clear F σ5 = some (gSt σ5 (cs_gx σ5) (cs_gy σ5) 0 0) := rfl
    have fl := sc_fill24 (F := F) (σ := σ8) hF 1000000
    have f33 := sc_fill33 (F := F) (σ := cs_wre_s (cs_frests_s σ8 (flF 1000000 (cs_frests σ8) 1296)) 0) hF (-1)
    simp only [fc_X8_prepare, lt_r, f1, bd_s, f2, hσ5, pX0', pY0', pX1', pY1', ss5, gs5, u1, u3, u5, u7, u2, u4, u6, u8, cl, g1, g4, g7, gj, n0, n1, hσ8, fl, fc_X7_clear, f33]
    rfl
  · rw [← hσ8, ← hσ7, ← hσ6, ← hσ5]
    exact (((((Kf_fpen.tr Kf_fss).tr Kf_fgs).tr Kf_gSt).tr Kf_jSt).tr Kf_fstart).tr Kf_fgoal
  · intro r hr
    rw [← hσ8]
    show cs_goR σ7 (18 * r + 17) = 0
    rw [hR7 _ (by omega) (Or.inr (by omega))]
    have z4 : rtB A (18 * r + 17) = false := by
      unfold rtB
      rw [decide_eq_false (show ¬ (18 * r + 17) % 18 + 1 < d_nx A by have := hgk.1; omega)]
      rfl
    rw [z4]
    rfl
  · rw [← hσ8, ← hσ7, ← hσ6, ← hσ5]
    exact e3
  · rw [← hσ8]
    rfl
  · rw [← hσ8, ← hσ7, ← hσ6, ← hσ5]
    rfl
  · rw [← hσ8]
    rfl
  · rw [← hσ8, ← hσ7, ← hσ6, ← hσ5]
    rfl
end F1
