/-! boxes and ports in whole numbers -/
def bxI (E : Nat → Int32) : Nat → Int := fun j => (E j).toInt
theorem bxI_I (E : Nat → Int32) (j : Nat) : E j = I (bxI E j) := (I_of _).symm
theorem rgB_bd {a b : Int32} (h : rgB a b = true) : 2 ≤ a.toInt ∧ a.toInt < b.toInt ∧ b.toInt ≤ 97 := by
  simp only [rgB, Bool.and_eq_true, decide_eq_true_eq] at h
  obtain ⟨⟨h1, h2⟩, h3⟩ := h
  have a1 := Int32.le_iff_toInt_le.mp h1
  have a2 := Int32.lt_iff_toInt_lt.mp h2
  have a3 := Int32.le_iff_toInt_le.mp h3
  exact ⟨a1, a2, a3⟩
def BxB (B : Nat → Int) (k : Nat) : Prop := (2 ≤ B (4 * k) ∧ B (4 * k) < B (4 * k + 2) ∧ B (4 * k + 2) ≤ 97) ∧ (2 ≤ B (4 * k + 1) ∧ B (4 * k + 1) < B (4 * k + 3) ∧ B (4 * k + 3) ≤ 97)
theorem BoxOk.bd {E : Nat → Int32} {k : Nat} (h : BoxOk E k) : BxB (bxI E) k := ⟨rgB_bd h.1, rgB_bd h.2⟩
def ptX (B : Nat → Int) (b s : Nat) (o f : Int) : Int := if s = 1 then B (4 * b + 2) + f else if s = 3 then B (4 * b) - f else B (4 * b) + o
def ptY (B : Nat → Int) (b s : Nat) (o f : Int) : Int := if s = 0 then B (4 * b + 1) - f else if s = 2 then B (4 * b + 3) + f else B (4 * b + 1) + o
/-- a port in numbers -/
def PtI (nb : Nat) (B : Nat → Int) (b s : Nat) (o : Int) : Prop := b < nb ∧ s < 4 ∧ 0 ≤ o ∧ o ≤ (if s % 2 = 0 then B (4 * b + 2) - B (4 * b) else B (4 * b + 3) - B (4 * b + 1))
theorem PortOk.ex {nb p : Nat} {E Q : Nat → Int32} (h : PortOk nb E Q p) (hB : ∀ k, k < nb → BoxOk E k) : ∃ (b s : Nat) (o : Int), Q p = I b ∧ Q (p + 1) = I s ∧ Q (p + 2) = I o ∧ PtI nb (bxI E) b s o := by
  obtain ⟨b, s, h1, h2, h3, h4, h5, h6⟩ := h
  have q1 := (hB b h1).bd
  obtain ⟨⟨q2, q3, q4⟩, q5, q6, q7⟩ := q1
  have a5 := Int32.le_iff_toInt_le.mp h5
  refine ⟨b, s, (Q (p + 2)).toInt, h3, h4, (I_of _).symm, h1, h2, a5, ?_⟩
  by_cases hs : s % 2 = 0
  · rw [if_pos hs] at h6 ⊢
    rw [bxI_I E (4 * b + 2), bxI_I E (4 * b), I_sub] at h6
    have a6 := Int32.le_iff_toInt_le.mp h6
    rw [I_toInt (by omega) (by omega)] at a6
    exact a6
  · rw [if_neg hs] at h6 ⊢
    rw [bxI_I E (4 * b + 3), bxI_I E (4 * b + 1), I_sub] at h6
    have a6 := Int32.le_iff_toInt_le.mp h6
    rw [I_toInt (by omega) (by omega)] at a6
    exact a6
theorem pt_bd {nb : Nat} {B : Nat → Int} {b s : Nat} {o : Int} (h : PtI nb B b s o) (hB : ∀ k, k < nb → BxB B k) : (∀ f, 0 ≤ f → f ≤ 1 → (1 ≤ ptX B b s o f ∧ ptX B b s o f ≤ 98) ∧ (1 ≤ ptY B b s o f ∧ ptY B b s o f ≤ 98)) ∧ B (4 * b) ≤ ptX B b s o 0 ∧ ptX B b s o 0 ≤ B (4 * b + 2) ∧ B (4 * b + 1) ≤ ptY B b s o 0 ∧ ptY B b s o 0 ≤ B (4 * b + 3) := by
  obtain ⟨h1, h2, h3, h4⟩ := h
  obtain ⟨⟨q2, q3, q4⟩, q5, q6, q7⟩ := hB b h1
  unfold ptX ptY
  refine ⟨fun f h5 h6 => ?_, ?_⟩
  · rcases (show s = 0 ∨ s = 1 ∨ s = 2 ∨ s = 3 by omega) with rfl | rfl | rfl | rfl <;> simp at h4 ⊢ <;> omega
  · rcases (show s = 0 ∨ s = 1 ∨ s = 2 ∨ s = 3 by omega) with rfl | rfl | rfl | rfl <;> simp at h4 ⊢ <;> omega
def fbR (d : Int32) (nb : Nat) (p : Nat → Bool) : Int32 := if fstN p nb < nb then I (fstN p nb) else d
theorem fbR_no {d : Int32} {nb : Nat} {p : Nat → Bool} (hn : nb ≤ 8) (hd : d = -1 ∨ d = -1000) : (fbR d nb p = d) = (anyN p nb = false) := by
  have hle := fstN_le (p := p) (n := nb)
  unfold fbR
  rw [anyN_fst]
  by_cases h : fstN p nb < nb
  · rw [if_pos h]
    have h1 : ¬ I (fstN p nb) = d := by
      rcases hd with rfl | rfl
      · exact I_nm1 (by omega)
      · exact I_nm1000 (by omega)
    simp [h1, h]
  · rw [if_neg h]
    simp [h]
section P1
variable {F : Nat} {σ : CSt} {τ : MS} {nb nl : Nat} {cp : Int32} {E Q : Nat → Int32} {R : Nat → Option RV}
theorem sc_first (hF : 100 ≤ F) (h0 : cs_cb σ = I nb) (hnb : nb ≤ 8) (hB : ∀ k, k < nb → BxB (bxI (cs_ce σ)) k) {x0 y0 x1 y1 : Int} (b0 : -1000 ≤ x0 ∧ x0 ≤ 1000) (b1 : -1000 ≤ y0 ∧ y0 ≤ 1000) (b2 : -1000 ≤ x1 ∧ x1 ≤ 1000) (b3 : -1000 ≤ y1 ∧ y1 ≤ 1000) : fc_X1_firstBoxOn F σ (I x0) (I y0) (I x1) (I y1) = some (fbR (-1) nb (blk (bxI (cs_ce σ)) x0 y0 x1 y1)) := by
  generalize hp : blk (bxI (cs_ce σ)) x0 y0 x1 y1 = p
  have hle := fstN_le (p := p) (n := nb)
  have key : ∀ (k : Nat) (rec : Int32 → Int32 → Int32 → Int32 → Int32 → Option Int32), k < nb → fc_X1_firstBoxOn_L3_c F σ rec (I x0) (I y0) (I x1) (I y1) (I k) = if p k = true then some (I k) else rec (I x0) (I y0) (I x1) (I y1) (I ((k + 1 : Nat) : Int)) := fun k rec hk => by
    have e2 : ¬ (I nb ≤ I k) := by rw [I_le] <;> omega
    obtain ⟨⟨q2, q3, q4⟩, q5, q6, q7⟩ := hB k hk
    have i0 : (4 : Int32) * I k + 0 = I ((4 * k : Nat) : Int) := by rw [I_4, I_0, I_mul, I_add]; exact congrArg I (by omega)
    have i1 : (4 : Int32) * I k + 1 = I ((4 * k + 1 : Nat) : Int) := by rw [I_4, I_1, I_mul, I_add]; exact congrArg I (by omega)
    have i2 : (4 : Int32) * I k + 2 = I ((4 * k + 2 : Nat) : Int) := by rw [I_4, I_2, I_mul, I_add]; exact congrArg I (by omega)
    have i3 : (4 : Int32) * I k + 3 = I ((4 * k + 3 : Nat) : Int) := by rw [I_4, I_3, I_mul, I_add]; exact congrArg I (by omega)
    have n0 : ((4 * k : Nat) : Int).toNat = 4 * k := by omega
    have n1 : ((4 * k + 1 : Nat) : Int).toNat = 4 * k + 1 := by omega
    have n2 : ((4 * k + 2 : Nat) : Int).toNat = 4 * k + 2 := by omega
    have n3 : ((4 * k + 3 : Nat) : Int).toNat = 4 * k + 3 := by omega
    simp (disch := omega) only [fc_X1_firstBoxOn_L3_c, fc_X1_firstBoxOn_L74, h0, e2, if_false, lt_r, i0, i1, i2, i3, I_ix, gd_T, I_cl, n0, n1, n2, n3]
    rw [bxI_I (cs_ce σ) (4 * k), bxI_I (cs_ce σ) (4 * k + 1), bxI_I (cs_ce σ) (4 * k + 2), bxI_I (cs_ce σ) (4 * k + 3)]
    simp (disch := omega) only [I_lt, I_S]
    subst hp
    simp only [blk, Bool.and_eq_true, decide_eq_true_eq]
    by_cases c1 : x1 < bxI (cs_ce σ) (4 * k)
    · rw [if_pos c1, if_neg (by omega)]
    · rw [if_neg c1]
      by_cases c2 : bxI (cs_ce σ) (4 * k + 2) < x0
      · rw [if_pos c2, if_neg (by omega)]
      · rw [if_neg c2]
        by_cases c3 : y1 < bxI (cs_ce σ) (4 * k + 1)
        · rw [if_pos c3, if_neg (by omega)]
        · rw [if_neg c3]
          by_cases c4 : bxI (cs_ce σ) (4 * k + 3) < y0
          · rw [if_pos c4, if_neg (by omega)]
          · rw [if_neg c4, if_pos (by omega)]
  refine lp_r (fun k => (I x0, I y0, I x1, I y1, I k)) _ (fstN p nb) rfl (by omega) (fun k rec hk => ?_) (fun rec => ?_)
  · refine (key k _ (by omega)).trans ?_
    rw [fstN_no hk]
    rfl
  · rcases Nat.lt_or_ge (fstN p nb) nb with hm | hm
    · refine (key _ _ hm).trans ?_
      rw [fstN_at hm, fbR, if_pos hm]
      rfl
    · have e2 : (I nb ≤ I (fstN p nb)) := by rw [I_le] <;> omega
      simp only [fc_X1_firstBoxOn_L3_c, h0, e2, if_true]
      rw [fbR, if_neg (by omega)]
theorem sm_blockerOf (hF : 100 ≤ F) (h : Cpl (ms_row τ) nb nl cp E Q R) (hB : ∀ k, k < nb → BxB (bxI E) k) {x y : Int} (b0 : -1000 ≤ x ∧ x ≤ 1000) (b1 : -1000 ≤ y ∧ y ≤ 1000) : fm_blockerOf F τ (I x) (I y) = some (fbR (-1000) nb (blk (bxI E) x y x y)) := by
  have hnb := h.1
  have h0 := h.2.2.1
  generalize hp : blk (bxI E) x y x y = p
  have hle := fstN_le (p := p) (n := nb)
  have key : ∀ (k : Nat) (rec : Int32 → Int32 → Int32 → Option Int32), k < nb → fm_blockerOf_L2_c F τ rec (I x) (I y) (I k) = if p k = true then some (I k) else rec (I x) (I y) (I ((k + 1 : Nat) : Int)) := fun k rec hk => by
    have e2 : ¬ (I nb ≤ I k) := by rw [I_le] <;> omega
    obtain ⟨⟨q2, q3, q4⟩, q5, q6, q7⟩ := hB k hk
    have s0 : fm_side F τ (I k) 0 = _ := sm_side h k 0 (by omega) (by omega)
    have s1 : fm_side F τ (I k) 1 = _ := sm_side h k 1 (by omega) (by omega)
    have s2 : fm_side F τ (I k) 2 = _ := sm_side h k 2 (by omega) (by omega)
    have s3 : fm_side F τ (I k) 3 = _ := sm_side h k 3 (by omega) (by omega)
    simp only [fm_blockerOf_L2_c, fm_blockerOf_L52, ixz (n := 8625) (by decide), gd_T, cN0, h0, e2, if_false, s0, s1, s2, s3, bd_s, lt_r, sm_in, b2_0, I_S]
    rw [bxI_I E (4 * k + 0), bxI_I E (4 * k + 1), bxI_I E (4 * k + 2), bxI_I E (4 * k + 3)]
    simp only [Nat.add_zero]
    simp (disch := omega) only [I_le]
    subst hp
    simp only [blk, Bool.and_eq_true, decide_eq_true_eq, Bool.and_eq_false_iff, decide_eq_false_iff_not]
    by_cases c1 : ¬bxI E (4 * k) ≤ x ∨ ¬x ≤ bxI E (4 * k + 2)
    · rw [if_pos c1, if_neg (by omega)]
    · rw [if_neg c1]
      by_cases c2 : ¬bxI E (4 * k + 1) ≤ y ∨ ¬y ≤ bxI E (4 * k + 3)
      · rw [if_pos c2, if_neg (by omega)]
      · rw [if_neg c2, if_pos (by omega)]
  refine lp_r (fun k => (I x, I y, I k)) _ (fstN p nb) rfl (by omega) (fun k rec hk => ?_) (fun rec => ?_)
  · refine (key k _ (by omega)).trans ?_
    rw [fstN_no hk]
    rfl
  · rcases Nat.lt_or_ge (fstN p nb) nb with hm | hm
    · refine (key _ _ hm).trans ?_
      rw [fstN_at hm, fbR, if_pos hm]
      rfl
    · have e2 : (I nb ≤ I (fstN p nb)) := by rw [I_le] <;> omega
      simp only [fm_blockerOf_L2_c, ixz (n := 8625) (by decide), gd_T, cN0, h0, e2, if_true]
      rw [fbR, if_neg (by omega)]
theorem sm_portOf (h : Cpl (ms_row τ) nb nl cp E Q R) {c pt b s : Nat} {o f : Int} (hc : c < 10) (hpt : pt < 2) (e1 : Q (6 * c + 3 * pt) = I b) (e2 : Q (6 * c + 3 * pt + 1) = I s) (e3 : Q (6 * c + 3 * pt + 2) = I o) (hp : PtI nb (bxI E) b s o) : fm_portOf F τ (I c) (I pt) 1 (I f) = some (I (ptX (bxI E) b s o f)) ∧ fm_portOf F τ (I c) (I pt) 0 (I f) = some (I (ptY (bxI E) b s o f)) := by
  have hnb := h.1
  obtain ⟨p1, p2, p3, p4⟩ := hp
  have k0 : (3 : Int32) * I pt = I ((3 * pt : Nat) : Int) := by rw [I_3, I_mul]; exact congrArg I (by omega)
  have k1 : I ((3 * pt : Nat) : Int) + 1 = I ((3 * pt + 1 : Nat) : Int) := I_S _
  have k2 : I ((3 * pt : Nat) : Int) + 2 = I ((3 * pt + 2 : Nat) : Int) := by rw [I_2, I_add]; exact congrArg I (by omega)
  have o0 := sm_of (F := F) (τ := τ) c (3 * pt) hc (by omega)
  have o1 := sm_of (F := F) (τ := τ) c (3 * pt + 1) hc (by omega)
  have o2 := sm_of (F := F) (τ := τ) c (3 * pt + 2) hc (by omega)
  have g0 := h.2.2.2.2.2.2.1 c hc (3 * pt) (by omega)
  have g1 := h.2.2.2.2.2.2.1 c hc (3 * pt + 1) (by omega)
  have g2 := h.2.2.2.2.2.2.1 c hc (3 * pt + 2) (by omega)
  rw [g0, e1] at o0
  rw [g1, show 6 * c + (3 * pt + 1) = 6 * c + 3 * pt + 1 by omega, e2] at o1
  rw [g2, show 6 * c + (3 * pt + 2) = 6 * c + 3 * pt + 2 by omega, e3] at o2
  have s0 : fm_side F τ (I b) 0 = _ := sm_side h b 0 (by omega) (by omega)
  have s1 : fm_side F τ (I b) 1 = _ := sm_side h b 1 (by omega) (by omega)
  have s2 : fm_side F τ (I b) 2 = _ := sm_side h b 2 (by omega) (by omega)
  have s3 : fm_side F τ (I b) 3 = _ := sm_side h b 3 (by omega) (by omega)
  rw [bxI_I E (4 * b + 0)] at s0
  rw [bxI_I E (4 * b + 1)] at s1
  rw [bxI_I E (4 * b + 2)] at s2
  rw [bxI_I E (4 * b + 3)] at s3
  have t10 : ¬ (1 : Int32) = 0 := by decide
  rcases (show s = 0 ∨ s = 1 ∨ s = 2 ∨ s = 3 by omega) with rfl | rfl | rfl | rfl
  · have u1 : (I ((0 : Nat) : Int) = 1) = False := by decide
    have u3 : (I ((0 : Nat) : Int) = 3) = False := by decide
    have u0 : (I ((0 : Nat) : Int) = 0) = True := by decide
    constructor <;> simp only [fm_portOf, fm_portOf_L86, fm_portOf_L134, k0, k1, k2, o0, o1, o2, bd_s, t10, if_false, if_true, u0, u1, u3, s0, s1, s2, s3, I_add, I_sub, ptX, ptY] <;> rfl
  · have u1 : (I ((1 : Nat) : Int) = 1) = True := by decide
    have u2 : (I ((1 : Nat) : Int) = 2) = False := by decide
    have u0 : (I ((1 : Nat) : Int) = 0) = False := by decide
    constructor <;> simp only [fm_portOf, fm_portOf_L86, fm_portOf_L134, k0, k1, k2, o0, o1, o2, bd_s, t10, if_false, if_true, u0, u1, u2, s0, s1, s2, s3, I_add, I_sub, ptX, ptY] <;> rfl
  · have u1 : (I ((2 : Nat) : Int) = 1) = False := by decide
    have u2 : (I ((2 : Nat) : Int) = 2) = True := by decide
    have u3 : (I ((2 : Nat) : Int) = 3) = False := by decide
    have u0 : (I ((2 : Nat) : Int) = 0) = False := by decide
    constructor <;> simp only [fm_portOf, fm_portOf_L86, fm_portOf_L134, k0, k1, k2, o0, o1, o2, bd_s, t10, if_false, if_true, u0, u1, u2, u3, s0, s1, s2, s3, I_add, I_sub, ptX, ptY] <;> rfl
  · have u1 : (I ((3 : Nat) : Int) = 1) = False := by decide
    have u2 : (I ((3 : Nat) : Int) = 2) = False := by decide
    have u3 : (I ((3 : Nat) : Int) = 3) = True := by decide
    have u0 : (I ((3 : Nat) : Int) = 0) = False := by decide
    constructor <;> simp only [fm_portOf, fm_portOf_L86, fm_portOf_L134, k0, k1, k2, o0, o1, o2, bd_s, t10, if_false, if_true, u0, u1, u2, u3, s0, s1, s2, s3, I_add, I_sub, ptX, ptY] <;> rfl
theorem sc_detail (c j : Nat) (hc : c < 10) (hj : j < 6) : fc_X1_portDetail F σ (I c) (I j) = some (cs_cq σ (6 * c + j)) := by
  simp (disch := omega) only [fc_X1_portDetail, I_6, I_mul, I_add, I_ix, I_cl, gd_T]
  congr 2
theorem sc_side (c pt : Nat) (hc : c < 10) (hpt : pt < 2) : fc_X1_portSide F σ (I c) (I pt) = some (cs_cq σ (6 * c + 3 * pt + 1)) := by
  simp (disch := omega) only [fc_X1_portSide, I_6, I_3, I_1, I_mul, I_add, I_ix, I_cl, gd_T]
  congr 2
theorem sc_upr (s : Nat) (hs : s < 4) : fc_X3_isUpright F σ (I s) = some (b2 (decide (s % 2 = 0))) := by
  rcases (show s = 0 ∨ s = 1 ∨ s = 2 ∨ s = 3 by omega) with rfl | rfl | rfl | rfl <;> rfl
theorem sc_opp (s : Nat) (hs : s < 4) : fc_X3_opposite F σ (I s) = some (I (opp s)) := by
  rcases (show s = 0 ∨ s = 1 ∨ s = 2 ∨ s = 3 by omega) with rfl | rfl | rfl | rfl <;> rfl
theorem sc_port {c pt b s : Nat} {o : Int} (hc : c < 10) (hpt : pt < 2) (hnb : nb ≤ 8) (e1 : cs_cq σ (6 * c + 3 * pt) = I b) (e2 : cs_cq σ (6 * c + 3 * pt + 1) = I s) (e3 : cs_cq σ (6 * c + 3 * pt + 2) = I o) (hp : PtI nb (bxI (cs_ce σ)) b s o) : fc_X1_portX F σ (I c) (I pt) = some (I (ptX (bxI (cs_ce σ)) b s o 0)) ∧ fc_X1_portY F σ (I c) (I pt) = some (I (ptY (bxI (cs_ce σ)) b s o 0)) := by
  obtain ⟨p1, p2, p3, p4⟩ := hp
  have k0 : (3 : Int32) * I pt + 0 = I ((3 * pt : Nat) : Int) := by rw [I_3, I_0, I_mul, I_add]; exact congrArg I (by omega)
  have k2 : (3 : Int32) * I pt + 2 = I ((3 * pt + 2 : Nat) : Int) := by rw [I_3, I_2, I_mul, I_add]; exact congrArg I (by omega)
  have o0 := sc_detail (F := F) (σ := σ) c (3 * pt) hc (by omega)
  have o1 := sc_side (F := F) (σ := σ) c pt hc (by omega)
  have o2 := sc_detail (F := F) (σ := σ) c (3 * pt + 2) hc (by omega)
  rw [e1] at o0
  rw [e2] at o1
  rw [show 6 * c + (3 * pt + 2) = 6 * c + 3 * pt + 2 by omega, e3] at o2
  have s0 : fc_X1_edge F σ (I b) 0 = _ := sc_edge b 0 (by omega) (by omega)
  have s1 : fc_X1_edge F σ (I b) 1 = _ := sc_edge b 1 (by omega) (by omega)
  have s2 : fc_X1_edge F σ (I b) 2 = _ := sc_edge b 2 (by omega) (by omega)
  have s3 : fc_X1_edge F σ (I b) 3 = _ := sc_edge b 3 (by omega) (by omega)
  rw [bxI_I (cs_ce σ) (4 * b + 0)] at s0
  rw [bxI_I (cs_ce σ) (4 * b + 1)] at s1
  rw [bxI_I (cs_ce σ) (4 * b + 2)] at s2
  rw [bxI_I (cs_ce σ) (4 * b + 3)] at s3
  have hu := sc_upr (F := F) (σ := σ) s p2
  have t10 : ¬ (1 : Int32) = 0 := by decide
  have z0 : bxI (cs_ce σ) (4 * b) - 0 = bxI (cs_ce σ) (4 * b) := by omega
  have z1 : bxI (cs_ce σ) (4 * b + 1) - 0 = bxI (cs_ce σ) (4 * b + 1) := by omega
  have z2 : bxI (cs_ce σ) (4 * b + 2) + 0 = bxI (cs_ce σ) (4 * b + 2) := by omega
  have z3 : bxI (cs_ce σ) (4 * b + 3) + 0 = bxI (cs_ce σ) (4 * b + 3) := by omega
  rcases (show s = 0 ∨ s = 1 ∨ s = 2 ∨ s = 3 by omega) with rfl | rfl | rfl | rfl
  · have u2 : ¬ I ((0 : Nat) : Int) = 2 := by decide
    have hu0 : fc_X3_isUpright F σ (I ((0 : Nat) : Int)) = some 1 := hu
    constructor
    · simp only [fc_X1_portX, fc_X1_portX_L58, k0, k2, o0, o1, o2, bd_s, hu0, t10, if_false, s0, I_add]; rfl
    · simp only [fc_X1_portY, fc_X1_portY_L58, k0, k2, o0, o1, o2, bd_s, hu0, t10, if_false, u2, s1]; exact congrArg (fun q => some (I q)) z1.symm
  · have u1 : I ((1 : Nat) : Int) = 1 := by decide
    have hu0 : fc_X3_isUpright F σ (I ((1 : Nat) : Int)) = some 0 := hu
    constructor
    · simp only [fc_X1_portX, fc_X1_portX_L58, k0, k2, o0, o1, o2, bd_s, hu0, if_true, u1, s2]; exact congrArg (fun q => some (I q)) z2.symm
    · simp only [fc_X1_portY, fc_X1_portY_L58, k0, k2, o0, o1, o2, bd_s, hu0, if_true, s1, I_add]; rfl
  · have u2 : I ((2 : Nat) : Int) = 2 := by decide
    have hu0 : fc_X3_isUpright F σ (I ((2 : Nat) : Int)) = some 1 := hu
    constructor
    · simp only [fc_X1_portX, fc_X1_portX_L58, k0, k2, o0, o1, o2, bd_s, hu0, t10, if_false, s0, I_add]; rfl
    · simp only [fc_X1_portY, fc_X1_portY_L58, k0, k2, o0, o1, o2, bd_s, hu0, t10, if_false, u2, if_true, s3]; exact congrArg (fun q => some (I q)) z3.symm
  · have u1 : ¬ I ((3 : Nat) : Int) = 1 := by decide
    have hu0 : fc_X3_isUpright F σ (I ((3 : Nat) : Int)) = some 0 := hu
    constructor
    · simp only [fc_X1_portX, fc_X1_portX_L58, k0, k2, o0, o1, o2, bd_s, hu0, if_true, u1, if_false, s0]; exact congrArg (fun q => some (I q)) z0.symm
    · simp only [fc_X1_portY, fc_X1_portY_L58, k0, k2, o0, o1, o2, bd_s, hu0, if_true, s1, I_add]; rfl
theorem sc_outer {b s : Nat} {o : Int} {B : Nat → Int} (hs : s < 4) : (∃ r, fc_X3_stepX F σ (I s) = some r ∧ I (ptX B b s o 0) + r = I (ptX B b s o 1) ∧ I (ptX B b s o 1) - r = I (ptX B b s o 0)) ∧ ∃ r, fc_X3_stepY F σ (I s) = some r ∧ I (ptY B b s o 0) + r = I (ptY B b s o 1) ∧ I (ptY B b s o 1) - r = I (ptY B b s o 0) := by
  rcases (show s = 0 ∨ s = 1 ∨ s = 2 ∨ s = 3 by omega) with rfl | rfl | rfl | rfl
  · refine ⟨⟨0, rfl, ?_, ?_⟩, -1, rfl, ?_, ?_⟩ <;> simp only [ptX, ptY, I_0, show (-1 : Int32) = I (-1) from rfl, I_add, I_sub] <;> exact congrArg I (by simp <;> omega)
  · refine ⟨⟨1, rfl, ?_, ?_⟩, 0, rfl, ?_, ?_⟩ <;> simp only [ptX, ptY, I_0, I_1, I_add, I_sub] <;> exact congrArg I (by simp <;> omega)
  · refine ⟨⟨0, rfl, ?_, ?_⟩, 1, rfl, ?_, ?_⟩ <;> simp only [ptX, ptY, I_0, I_1, I_add, I_sub] <;> exact congrArg I (by simp <;> omega)
  · refine ⟨⟨-1, rfl, ?_, ?_⟩, 0, rfl, ?_, ?_⟩ <;> simp only [ptX, ptY, I_0, show (-1 : Int32) = I (-1) from rfl, I_add, I_sub] <;> exact congrArg I (by simp <;> omega)
end P1
