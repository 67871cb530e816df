/-! the reference's grid, whole -/
def GrM (τ : MS) (A : GD) : Prop := LnM τ A ∧ ∀ i j, i < d_nx A → j < d_ny A → ms_isNode τ (20 * i + j) = b2 (noB A (18 * j + i)) ∧ ms_right τ (20 * i + j) = b2 (rtB A (18 * j + i)) ∧ ms_down τ (20 * i + j) = b2 (dnB A (18 * j + i))
def KmF (τ τ' : MS) : Prop := ms_row τ' = ms_row τ ∧ ms_kept τ' = ms_kept τ ∧ Km τ τ'
theorem KmF.rf {τ : MS} : KmF τ τ := ⟨rfl, rfl, Km.rf⟩
theorem KmF.tr {a b c : MS} (h : KmF a b) (h' : KmF b c) : KmF a c := ⟨h'.1.trans h.1, h'.2.1.trans h.2.1, h.2.2.tr h'.2.2⟩
theorem KmF_xs {τ : MS} {v : Nat → Int32} : KmF τ (ms_xs_s τ v) := ⟨rfl, rfl, rfl, rfl, rfl, rfl, rfl, rfl, rfl, rfl⟩
theorem KmF_ys {τ : MS} {v : Nat → Int32} : KmF τ (ms_ys_s τ v) := ⟨rfl, rfl, rfl, rfl, rfl, rfl, rfl, rfl, rfl, rfl⟩
theorem KmF_isNode {τ : MS} {v : Nat → Int32} : KmF τ (ms_isNode_s τ v) := ⟨rfl, rfl, rfl, rfl, rfl, rfl, rfl, rfl, rfl, rfl⟩
theorem KmF_right {τ : MS} {v : Nat → Int32} : KmF τ (ms_right_s τ v) := ⟨rfl, rfl, rfl, rfl, rfl, rfl, rfl, rfl, rfl, rfl⟩
theorem KmF_down {τ : MS} {v : Nat → Int32} : KmF τ (ms_down_s τ v) := ⟨rfl, rfl, rfl, rfl, rfl, rfl, rfl, rfl, rfl, rfl⟩
theorem KmF_toEnd {τ : MS} {v : Nat → Int32} : KmF τ (ms_toEnd_s τ v) := ⟨rfl, rfl, rfl, rfl, rfl, rfl, rfl, rfl, rfl, rfl⟩
theorem KmF_wayX {τ : MS} {v : Nat → Int32} : KmF τ (ms_wayX_s τ v) := ⟨rfl, rfl, rfl, rfl, rfl, rfl, rfl, rfl, rfl, rfl⟩
theorem KmF_wayY {τ : MS} {v : Nat → Int32} : KmF τ (ms_wayY_s τ v) := ⟨rfl, rfl, rfl, rfl, rfl, rfl, rfl, rfl, rfl, rfl⟩
theorem KmF_xMany {τ : MS} {v : Int32} : KmF τ (ms_xMany_s τ v) := ⟨rfl, rfl, rfl, rfl, rfl, rfl, rfl, rfl, rfl, rfl⟩
theorem KmF_yMany {τ : MS} {v : Int32} : KmF τ (ms_yMany_s τ v) := ⟨rfl, rfl, rfl, rfl, rfl, rfl, rfl, rfl, rfl, rfl⟩
theorem KmF_wayMany {τ : MS} {v : Int32} : KmF τ (ms_wayMany_s τ v) := ⟨rfl, rfl, rfl, rfl, rfl, rfl, rfl, rfl, rfl, rfl⟩
section M5
variable {F : Nat} {τ : MS} {A : GD} {fn fr fd : Nat → Int32}
theorem sm_185 (hF : 1000 ≤ F) (hL : LnM τ A) (hBl : BlM F τ A) (hN : ∀ i j, i < d_nx A → j < d_ny A → fn (20 * i + j) = b2 (noB A (18 * j + i))) : fm_makesGrid_L185 F F (nSt τ fn fr fd) 0 = some (nSt τ fn (jmF (rtB A) fr (d_ny A) (d_nx A) 0) (jmF (dnB A) fd (d_ny A) (d_nx A) 0)) := by
  obtain ⟨hnx, hny, hxm, hym, hX, hY, hB, hnb, hg⟩ := id hL
  refine lp_r (fun i => (nSt τ fn (jmF (rtB A) fr (d_ny A) i 0) (jmF (dnB A) fd (d_ny A) i 0), I i)) _ (d_nx A) (by rw [jmF_0, jmF_0]; rfl) (by omega) (fun i rec hi => ?_) (fun rec => ?_)
  · have e1 : ¬ I (d_nx A) ≤ I i := by rw [I_le] <;> omega
    simp only [fm_makesGrid_L185_c, nS_9, hxm, e1, if_false]
    refine lp_r (fun j => (nSt τ fn (jmF (rtB A) fr (d_ny A) i j) (jmF (dnB A) fd (d_ny A) i j), I i, I j)) _ (d_ny A) rfl (by omega) (fun j rec2 hj => ?_) (fun rec2 => ?_)
    · have e2 : ¬ I (d_ny A) ≤ I j := by rw [I_le] <;> omega
      show fm_makesGrid_L195_c F (fun a b => rec (a, b)) (fun a b c => rec2 (a, b, c)) (nSt τ fn (jmF (rtB A) fr (d_ny A) i j) (jmF (dnB A) fd (d_ny A) i j)) (I i) (I j) = _
      unfold fm_makesGrid_L195_c
      rw [nS_10, hym, if_neg e2]
      refine (sm_r258 hF hL hBl hi hj hN _ _).trans ?_
      unfold fm_makesGrid_L307
      rw [e20, gd_t (of_eq_true (I_ix (by omega) (by omega) (by omega))), gd_t (b2_ne _), lt_r, st_right_at (by omega), jmF_S hj hny rfl, ← e20]
      refine (sm_d375 hF hL hBl hi hj hN _ _).trans ?_
      unfold fm_makesGrid_L424
      rw [e20, gd_t (of_eq_true (I_ix (by omega) (by omega) (by omega))), gd_t (b2_ne _), lt_r, st_down_at (by omega), jmF_S hj hny rfl, lt_r, I_S]
    · have e2 : I (d_ny A) ≤ I (d_ny A) := by rw [I_le] <;> omega
      simp only [fm_makesGrid_L195_c, nS_10, hym, e2, if_true, lt_r, I_S, jmF_E]
  · have e1 : I (d_nx A) ≤ I (d_nx A) := by rw [I_le] <;> omega
    simp only [fm_makesGrid_L185_c, nS_9, hxm, e1, if_true]
theorem sm_115 (hF : 1000 ≤ F) (hL : LnM τ A) (hBl : BlM F τ A) : fm_makesGrid_L115 F F (nSt τ fn fr fd) 0 = fm_makesGrid_L185 F F (nSt τ (jmF (noB A) fn (d_ny A) (d_nx A) 0) fr fd) 0 := by
  obtain ⟨hnx, hny, hxm, hym, hX, hY, hB, hnb, hg⟩ := id hL
  refine lp_r (fun i => (nSt τ (jmF (noB A) fn (d_ny A) i 0) fr fd, I i)) _ (d_nx A) (by rw [jmF_0]; rfl) (by omega) (fun i rec hi => ?_) (fun rec => ?_)
  · have e1 : ¬ I (d_nx A) ≤ I i := by rw [I_le] <;> omega
    simp only [fm_makesGrid_L115_c, nS_9, hxm, e1, if_false]
    refine lp_r (fun j => (nSt τ (jmF (noB A) fn (d_ny A) i j) fr fd, I i, I j)) _ (d_ny A) rfl (by omega) (fun j rec2 hj => ?_) (fun rec2 => ?_)
    · have e2 : ¬ I (d_ny A) ≤ I j := by rw [I_le] <;> omega
      obtain ⟨x1, x2, x3⟩ := hX i hi
      obtain ⟨y1, y2, y3⟩ := hY j hj
      have n1 : ((i : Nat) : Int).toNat = i := by omega
      have n2 : ((j : Nat) : Int).toNat = j := by omega
      have hb := hBl (nSt τ (jmF (noB A) fn (d_ny A) i j) fr fd) rfl (d_X A i) (d_Y A j) (by omega) (by omega) (by omega) (by omega)
      have hno1 : noB A (18 * j + i) = fre (d_B A) (d_nb A) (d_X A i) (d_Y A j) (d_X A i) (d_Y A j) := by
        unfold noB
        rw [show (18 * j + i) % 18 = i by omega, show (18 * j + i) / 18 = j by omega]
      have f170 : ∀ v, v = b2 (noB A (18 * j + i)) → fm_makesGrid_L170 F (fun a b => rec (a, b)) (fun a b c => rec2 (a, b, c)) (nSt τ (jmF (noB A) fn (d_ny A) i j) fr fd) (I i) (I j) v (I ((20 * i + j : Nat) : Int)) = rec2 (nSt τ (jmF (noB A) fn (d_ny A) i (j + 1)) fr fd, I i, I ((j + 1 : Nat) : Int)) := fun v hv => by
        unfold fm_makesGrid_L170
        rw [gd_t (of_eq_true (I_ix (by omega) (by omega) (by omega))), gd_t (by rw [hv]; exact b2_ne _), lt_r, st_isNode_at (by omega), jmF_S hj hny hv, lt_r, I_S]
      simp (disch := omega) only [fm_makesGrid_L125_c, nS_10, hym, e2, if_false, I_ix, gd_T, I_cl, n1, n2, nS_7, nS_8, x1, y1, hb, bd_s, fre_fb hnb, e20]
      rw [← hno1]
      cases hq : noB A (18 * j + i) with
      | true => rw [if_pos rfl]; exact f170 _ (by rw [hq]; rfl)
      | false => rw [if_neg (by simp)]; exact f170 _ (by rw [hq]; rfl)
    · have e2 : I (d_ny A) ≤ I (d_ny A) := by rw [I_le] <;> omega
      simp only [fm_makesGrid_L125_c, nS_10, hym, e2, if_true, lt_r, I_S, jmF_E]
  · have e1 : I (d_nx A) ≤ I (d_nx A) := by rw [I_le] <;> omega
    simp only [fm_makesGrid_L115_c, nS_9, hxm, e1, if_true]
theorem m_x {fx fy : Nat → Int32} {L : LT} {b : Int32} (hF : 100 ≤ F) (hs : SrtL L) (hn : L.1 ≤ 18) (hb : BdL L) {z : Int} (hz : 0 ≤ z ∧ z ≤ 99) (hR : RwL fx L) : ∃ f', fm_addsX F (mSt τ fx fy (I L.1) b) (I z) = some (mSt τ f' fy (I (insL L z).1) b) ∧ RwL f' (insL L z) := by
  obtain ⟨f', h1, h2⟩ := sm_addsX (F := F) (τ := mSt τ fx fy (I L.1) b) hF hs hn hb hz rfl hR
  exact ⟨f', h1, h2⟩
theorem m_y {fx fy : Nat → Int32} {L : LT} {a : Int32} (hF : 100 ≤ F) (hs : SrtL L) (hn : L.1 ≤ 18) (hb : BdL L) {z : Int} (hz : 0 ≤ z ∧ z ≤ 99) (hR : RwL fy L) : ∃ f', fm_addsY F (mSt τ fx fy a (I L.1)) (I z) = some (mSt τ fx f' a (I (insL L z).1)) ∧ RwL f' (insL L z) := by
  obtain ⟨f', h1, h2⟩ := sm_addsY (F := F) (τ := mSt τ fx fy a (I L.1)) hF hs hn hb hz rfl hR
  exact ⟨f', h1, h2⟩
/-- a connector as the reference holds it -/
def CnM (τ : MS) (c nb : Nat) (B : Nat → Int) (p : Nat) (b0 s0 : Nat) (o0 : Int) (b1 s1 : Nat) (o1 : Int) : Prop := CnD nb B p b0 s0 o0 b1 s1 o1 ∧ c < 10 ∧ ∃ (nl : Nat) (cp : Int32) (E Q : Nat → Int32) (R : Nat → Option RV), Cpl (ms_row τ) nb nl cp E Q R ∧ bxI E = B ∧ cp = I p ∧ Q (6 * c) = I b0 ∧ Q (6 * c + 1) = I s0 ∧ Q (6 * c + 2) = I o0 ∧ Q (6 * c + 3) = I b1 ∧ Q (6 * c + 4) = I s1 ∧ Q (6 * c + 5) = I o1
variable {c nb p b0 s0 b1 s1 : Nat} {B : Nat → Int} {o0 o1 : Int}
theorem CnM.bl (h : CnM τ c nb B p b0 s0 o0 b1 s1 o1) (hF : 100 ≤ F) : BlM F τ (GDn nb B b0 s0 o0 b1 s1 o1) := by
  intro τ' hr x y x1 x2 y1 y2
  obtain ⟨hD, hc, nl, cp, E, Q, R, hP, rfl, -⟩ := h
  rw [← hr] at hP
  exact sm_blockerOf hF hP hD.2.1 (by omega) (by omega)
theorem CnM.pt (h : CnM τ c nb B p b0 s0 o0 b1 s1 o1) : ∀ τ' : MS, ms_row τ' = ms_row τ → ∀ f : Int, (fm_portOf F τ' (I c) 0 1 (I f) = some (I (ptX B b0 s0 o0 f)) ∧ fm_portOf F τ' (I c) 0 0 (I f) = some (I (ptY B b0 s0 o0 f))) ∧ fm_portOf F τ' (I c) 1 1 (I f) = some (I (ptX B b1 s1 o1 f)) ∧ fm_portOf F τ' (I c) 1 0 (I f) = some (I (ptY B b1 s1 o1 f)) := by
  intro τ' hr f
  obtain ⟨hD, hc, nl, cp, E, Q, R, hP, rfl, -, q0, q1, q2, q3, q4, q5⟩ := h
  rw [← hr] at hP
  exact ⟨sm_portOf (F := F) (pt := 0) (f := f) hP hc (by omega) q0 q1 q2 hD.2.2.2.1, sm_portOf (F := F) (pt := 1) (f := f) hP hc (by omega) q3 q4 q5 hD.2.2.2.2⟩
theorem CnM.sd (h : CnM τ c nb B p b0 s0 o0 b1 s1 o1) : ∀ τ' : MS, ms_row τ' = ms_row τ → (∀ k j : Nat, k < nb → j < 4 → fm_side F τ' (I k) (I j) = some (I (B (4 * k + j)))) ∧ ms_row τ' 0 = I nb ∧ ms_row τ' 2 = I p ∧ fm_of F τ' (I c) 1 = some (I s0) ∧ fm_of F τ' (I c) 4 = some (I s1) := by
  intro τ' hr
  obtain ⟨hD, hc, nl, cp, E, Q, R, hP, rfl, e2, q0, q1, q2, q3, q4, q5⟩ := h
  rw [← hr] at hP
  refine ⟨fun k j hk hj => ?_, hP.2.2.1, hP.2.2.2.2.1.trans e2, ?_, ?_⟩
  · rw [sm_side hP k j (by have := hP.1; omega) hj]
    exact congrArg some (bxI_I _ _)
  · have := sm_of (F := F) (τ := τ') c 1 hc (by omega)
    rw [hP.2.2.2.2.2.2.1 c hc 1 (by omega), q1] at this
    exact this
  · have := sm_of (F := F) (τ := τ') c 4 hc (by omega)
    rw [hP.2.2.2.2.2.2.1 c hc 4 (by omega), q4] at this
    exact this
theorem sm_12 (hF : 1000 ≤ F) (h : CnM τ c nb B p b0 s0 o0 b1 s1 o1) (fx fy : Nat → Int32) : ∃ fx' fy', fm_makesGrid_L12 F F (mSt τ fx fy 0 0) (I c) 0 = fm_makesGrid_L78 F F (mSt τ fx' fy' (I (bxL B 0 2 nb).1) (I (bxL B 1 3 nb).1)) (I c) 0 ∧ RwL fx' (bxL B 0 2 nb) ∧ RwL fy' (bxL B 1 3 nb) := by
  have hB := h.1.2.1
  have hnb := h.1.1
  refine lp_inv (P := fun d a => d ≤ nb ∧ ∃ fx' fy', a = (mSt τ fx' fy' (I (bxL B 0 2 (nb - d)).1) (I (bxL B 1 3 (nb - d)).1), I c, I ((nb - d : Nat) : Int)) ∧ RwL fx' (bxL B 0 2 (nb - d)) ∧ RwL fy' (bxL B 1 3 (nb - d))) (Q := fun q => ∃ fx' fy', q = fm_makesGrid_L78 F F (mSt τ fx' fy' (I (bxL B 0 2 nb).1) (I (bxL B 1 3 nb).1)) (I c) 0 ∧ RwL fx' (bxL B 0 2 nb) ∧ RwL fy' (bxL B 1 3 nb)) (fun d a hp => ?_) F nb _ (by omega) ⟨Nat.le_refl _, fx, fy, by rw [Nat.sub_self]; rfl, by rw [Nat.sub_self]; exact fun j hj => absurd hj (Nat.not_lt_zero _), by rw [Nat.sub_self]; exact fun j hj => absurd hj (Nat.not_lt_zero _)⟩
  obtain ⟨hd, fx', fy', rfl, hx, hy⟩ := hp
  have sd := fun (fx fy : Nat → Int32) (a b : Int32) => h.sd (F := F) (mSt τ fx fy a b) rfl
  cases d with
  | zero =>
    refine Or.inl fun rec => ⟨fx', fy', ?_, hx, hy⟩
    have e2 : I nb ≤ I ((nb - 0 : Nat) : Int) := by rw [I_le] <;> omega
    simp only [fm_makesGrid_L12_c, ixz (n := 8625) (by decide), gd_T, cN0, (sd _ _ _ _).2.1, e2, if_true]
    rfl
  | succ d =>
    have hk1 : nb - d = nb - (d + 1) + 1 := by omega
    have hkn : nb - (d + 1) < nb := by omega
    generalize nb - (d + 1) = k at hx hy hk1 hkn ⊢
    obtain ⟨x1, x2, x3, -⟩ := bxL_ok (B := B) (j0 := 0) (j1 := 2) k (fun i hi => (hB i (by omega)).x)
    obtain ⟨y1, y2, y3, -⟩ := bxL_ok (B := B) (j0 := 1) (j1 := 3) k (fun i hi => (hB i (by omega)).y)
    obtain ⟨⟨q2, q3, q4⟩, q5, q6, q7⟩ := hB k hkn
    have l1 := ins_le (L := bxL B 0 2 k) (z := B (4 * k) - 1)
    have l2 := ins_le (L := bxL B 1 3 k) (z := B (4 * k + 1) - 1)
    have ed0 : ∀ (f1 f2 : Nat → Int32) (a b : Int32), fm_side F (mSt τ f1 f2 a b) (I k) 0 = some (I (B (4 * k))) := fun f1 f2 a b => (sd f1 f2 a b).1 k 0 hkn (by omega)
    have ed1 : ∀ (f1 f2 : Nat → Int32) (a b : Int32), fm_side F (mSt τ f1 f2 a b) (I k) 1 = some (I (B (4 * k + 1))) := fun f1 f2 a b => (sd f1 f2 a b).1 k 1 hkn (by omega)
    have ed2 : ∀ (f1 f2 : Nat → Int32) (a b : Int32), fm_side F (mSt τ f1 f2 a b) (I k) 2 = some (I (B (4 * k + 2))) := fun f1 f2 a b => (sd f1 f2 a b).1 k 2 hkn (by omega)
    have ed3 : ∀ (f1 f2 : Nat → Int32) (a b : Int32), fm_side F (mSt τ f1 f2 a b) (I k) 3 = some (I (B (4 * k + 3))) := fun f1 f2 a b => (sd f1 f2 a b).1 k 3 hkn (by omega)
    have w1 : I (B (4 * k)) - 1 = I (B (4 * k) - 1) := by rw [I_1, I_sub]
    have w2 : I (B (4 * k + 2)) + 1 = I (B (4 * k + 2) + 1) := by rw [I_1, I_add]
    have w3 : I (B (4 * k + 1)) - 1 = I (B (4 * k + 1) - 1) := by rw [I_1, I_sub]
    have w4 : I (B (4 * k + 3)) + 1 = I (B (4 * k + 3) + 1) := by rw [I_1, I_add]
    have e2 : ¬ I nb ≤ I k := by rw [I_le] <;> omega
    obtain ⟨f1, h1, k1⟩ := m_x (F := F) (τ := τ) (fy := fy') (b := I (bxL B 1 3 k).1) (by omega) x1 (by omega) x2 (z := B (4 * k) - 1) (by omega) hx
    obtain ⟨f2, h2, k2⟩ := m_x (F := F) (τ := τ) (fy := fy') (b := I (bxL B 1 3 k).1) (by omega) (ins_srt x1) (by omega) (ins_bd x2 (by omega)) (z := B (4 * k + 2) + 1) (by omega) k1
    obtain ⟨f3, h3, k3⟩ := m_y (F := F) (τ := τ) (fx := f2) (a := I (bxL B 0 2 (k + 1)).1) (by omega) y1 (by omega) y2 (z := B (4 * k + 1) - 1) (by omega) hy
    obtain ⟨f4, h4, k4⟩ := m_y (F := F) (τ := τ) (fx := f2) (a := I (bxL B 0 2 (k + 1)).1) (by omega) (ins_srt y1) (by omega) (ins_bd y2 (by omega)) (z := B (4 * k + 3) + 1) (by omega) k3
    refine Or.inr ⟨d, (mSt τ f2 f4 (I (bxL B 0 2 (k + 1)).1) (I (bxL B 1 3 (k + 1)).1), I c, I ((k + 1 : Nat) : Int)), by omega, ⟨by omega, f2, f4, by rw [hk1], by rw [hk1]; exact k2, by rw [hk1]; exact k4⟩, fun rec => ?_⟩
    have g2 : (insL (insL (bxL B 0 2 k) (B (4 * k) - 1)) (B (4 * k + 2) + 1)) = bxL B 0 2 (k + 1) := rfl
    have g4 : (insL (insL (bxL B 1 3 k) (B (4 * k + 1) - 1)) (B (4 * k + 3) + 1)) = bxL B 1 3 (k + 1) := rfl
    rw [g2] at h2
    rw [g4] at h4
    show fm_makesGrid_L12_c F (fun a b c => rec (a, b, c)) (mSt τ fx' fy' (I (bxL B 0 2 k).1) (I (bxL B 1 3 k).1)) (I c) (I k) = _
    unfold fm_makesGrid_L12_c
    rw [gd_t (of_eq_true (ixz (n := 8625) (by decide))), cN0, (sd _ _ _ _).2.1, if_neg e2, ed0, bd_s, w1, h1, bd_s, ed2, bd_s, w2, h2, bd_s, ed1, bd_s, w3, h3, bd_s, ed3, bd_s, w4, h4, bd_s, lt_r, I_S]
theorem sm_grid (hF : 1000 ≤ F) (h : CnM τ c nb B p b0 s0 o0 b1 s1 o1) : ∃ τ', fm_makesGrid F τ (I c) = some τ' ∧ KmF τ τ' ∧ GrM τ' (GDn nb B b0 s0 o0 b1 s1 o1) := by
  obtain ⟨hgk, -, -⟩ := h.1.nd
  obtain ⟨hnb, hB, hp, h0, h1⟩ := id h.1
  have hBl := h.bl (F := F) (by omega)
  have k0 := (pt_bd h0 hB).1 1 (by omega) (by omega)
  have k1 := (pt_bd h1 hB).1 1 (by omega) (by omega)
  obtain ⟨x1, x2, x3, -⟩ := bxL_ok (B := B) (j0 := 0) (j1 := 2) nb (fun i hi => (hB i hi).x)
  obtain ⟨y1, y2, y3, -⟩ := bxL_ok (B := B) (j0 := 1) (j1 := 3) nb (fun i hi => (hB i hi).y)
  obtain ⟨fx1, fy1, g1, g2, g3⟩ := sm_12 hF h (ms_xs τ) (ms_ys τ)
  have pt := fun (fx fy : Nat → Int32) (a b : Int32) => h.pt (F := F) (mSt τ fx fy a b) rfl 1
  have a0 := ins_le (L := bxL B 0 2 nb) (z := ptX B b0 s0 o0 1)
  have a1 := ins_le (L := bxL B 1 3 nb) (z := ptY B b0 s0 o0 1)
  have a2 := ins_le (L := insL (bxL B 0 2 nb) (ptX B b0 s0 o0 1)) (z := ptX B b1 s1 o1 1)
  have a3 := ins_le (L := insL (bxL B 1 3 nb) (ptY B b0 s0 o0 1)) (z := ptY B b1 s1 o1 1)
  obtain ⟨fx2, g4, g5⟩ := m_x (F := F) (τ := τ) (fy := fy1) (b := I (bxL B 1 3 nb).1) (by omega) x1 (by omega) x2 (z := ptX B b0 s0 o0 1) (by omega) g2
  obtain ⟨fy2, g6, g7⟩ := m_y (F := F) (τ := τ) (fx := fx2) (a := I (insL (bxL B 0 2 nb) (ptX B b0 s0 o0 1)).1) (by omega) y1 (by omega) y2 (z := ptY B b0 s0 o0 1) (by omega) g3
  obtain ⟨fx3, g8, g9⟩ := m_x (F := F) (τ := τ) (fy := fy2) (b := I (insL (bxL B 1 3 nb) (ptY B b0 s0 o0 1)).1) (by omega) (ins_srt x1) (by omega) (ins_bd x2 (by omega)) (z := ptX B b1 s1 o1 1) (by omega) g5
  obtain ⟨fy3, g10, g11⟩ := m_y (F := F) (τ := τ) (fx := fx3) (a := I (lnL B nb 0 2 (ptX B b0 s0 o0 1) (ptX B b1 s1 o1 1)).1) (by omega) (ins_srt y1) (by omega) (ins_bd y2 (by omega)) (z := ptY B b1 s1 o1 1) (by omega) g7
  have hLx : insL (insL (bxL B 0 2 nb) (ptX B b0 s0 o0 1)) (ptX B b1 s1 o1 1) = lnL B nb 0 2 (ptX B b0 s0 o0 1) (ptX B b1 s1 o1 1) := rfl
  have hLy : insL (insL (bxL B 1 3 nb) (ptY B b0 s0 o0 1)) (ptY B b1 s1 o1 1) = lnL B nb 1 3 (ptY B b0 s0 o0 1) (ptY B b1 s1 o1 1) := rfl
  rw [hLx] at g8 g9 a2
  rw [hLy] at g10 g11 a3
  have bLx : BdL (lnL B nb 0 2 (ptX B b0 s0 o0 1) (ptX B b1 s1 o1 1)) := ins_bd (ins_bd x2 (by omega)) (by omega)
  have bLy : BdL (lnL B nb 1 3 (ptY B b0 s0 o0 1) (ptY B b1 s1 o1 1)) := ins_bd (ins_bd y2 (by omega)) (by omega)
  generalize hτ3 : mSt τ fx3 fy3 (I (lnL B nb 0 2 (ptX B b0 s0 o0 1) (ptX B b1 s1 o1 1)).1) (I (lnL B nb 1 3 (ptY B b0 s0 o0 1) (ptY B b1 s1 o1 1)).1) = τ3 at g10
  have hr3 : ms_row τ3 = ms_row τ := by rw [← hτ3]; rfl
  have hL3 : LnM τ3 (GDn nb B b0 s0 o0 b1 s1 o1) := by
    rw [← hτ3]
    exact ⟨by show (lnL B nb 0 2 (ptX B b0 s0 o0 1) (ptX B b1 s1 o1 1)).1 ≤ 18; omega, by show (lnL B nb 1 3 (ptY B b0 s0 o0 1) (ptY B b1 s1 o1 1)).1 ≤ 18; omega, rfl, rfl, fun j hj => ⟨g9 j hj, bLx j hj⟩, fun j hj => ⟨g11 j hj, bLy j hj⟩, hB, hnb, hgk⟩
  have hBl3 : BlM F τ3 (GDn nb B b0 s0 o0 b1 s1 o1) := fun τ' hr => hBl τ' (hr.trans hr3)
  have h78 : fm_makesGrid_L78 F F (mSt τ fx1 fy1 (I (bxL B 0 2 nb).1) (I (bxL B 1 3 nb).1)) (I c) 0 = fm_makesGrid_L115 F F τ3 0 := by
    refine lp_r (fun k => match k with
      | 0 => (mSt τ fx1 fy1 (I (bxL B 0 2 nb).1) (I (bxL B 1 3 nb).1), I c, (0 : Int32))
      | 1 => (mSt τ fx2 fy2 (I (insL (bxL B 0 2 nb) (ptX B b0 s0 o0 1)).1) (I (insL (bxL B 1 3 nb) (ptY B b0 s0 o0 1)).1), I c, (1 : Int32))
      | _ => (τ3, I c, (2 : Int32))) _ 2 rfl (n := F) (by omega) (fun k rec hk => ?_) (fun rec => ?_)
    · rcases (show k = 0 ∨ k = 1 by omega) with rfl | rfl
      · show fm_makesGrid_L78_c F (fun a b c => rec (a, b, c)) (mSt τ fx1 fy1 (I (bxL B 0 2 nb).1) (I (bxL B 1 3 nb).1)) (I c) 0 = rec (mSt τ fx2 fy2 (I (insL (bxL B 0 2 nb) (ptX B b0 s0 o0 1)).1) (I (insL (bxL B 1 3 nb) (ptY B b0 s0 o0 1)).1), I c, 1)
        have p1 : ∀ (fx fy : Nat → Int32) (a b : Int32), fm_portOf F (mSt τ fx fy a b) (I c) 0 1 1 = some (I (ptX B b0 s0 o0 1)) := fun fx fy a b => (pt fx fy a b).1.1
        have p2 : ∀ (fx fy : Nat → Int32) (a b : Int32), fm_portOf F (mSt τ fx fy a b) (I c) 0 0 1 = some (I (ptY B b0 s0 o0 1)) := fun fx fy a b => (pt fx fy a b).1.2
        unfold fm_makesGrid_L78_c
        rw [if_neg (by decide), p1, bd_s, g4, bd_s, p2, bd_s, g6, bd_s, lt_r]
        rfl
      · show fm_makesGrid_L78_c F (fun a b c => rec (a, b, c)) (mSt τ fx2 fy2 (I (insL (bxL B 0 2 nb) (ptX B b0 s0 o0 1)).1) (I (insL (bxL B 1 3 nb) (ptY B b0 s0 o0 1)).1)) (I c) 1 = rec (τ3, I c, 2)
        have p1 : ∀ (fx fy : Nat → Int32) (a b : Int32), fm_portOf F (mSt τ fx fy a b) (I c) 1 1 1 = some (I (ptX B b1 s1 o1 1)) := fun fx fy a b => (pt fx fy a b).2.1
        have p2 : ∀ (fx fy : Nat → Int32) (a b : Int32), fm_portOf F (mSt τ fx fy a b) (I c) 1 0 1 = some (I (ptY B b1 s1 o1 1)) := fun fx fy a b => (pt fx fy a b).2.2
        unfold fm_makesGrid_L78_c
        rw [if_neg (by decide), p1, bd_s, g8, bd_s, p2, bd_s, g10, bd_s, lt_r]
        rfl
    · show fm_makesGrid_L78_c F (fun a b c => rec (a, b, c)) τ3 (I c) 2 = _
      unfold fm_makesGrid_L78_c
      rw [if_pos (by decide)]
  have hgk3 := hgk.2.1
  generalize hA : GDn nb B b0 s0 o0 b1 s1 o1 = A at *
  have f115 := sm_115 (F := F) (fn := ms_isNode τ3) (fr := ms_right τ3) (fd := ms_down τ3) hF hL3 hBl3
  have hN3 : ∀ i j, i < d_nx A → j < d_ny A → jmF (noB A) (ms_isNode τ3) (d_ny A) (d_nx A) 0 (20 * i + j) = b2 (noB A (18 * j + i)) := fun i j hi hj => jmF_at hi hj hL3.2.1
  have f185 := sm_185 (F := F) (fr := ms_right τ3) (fd := ms_down τ3) hF hL3 hBl3 hN3
  refine ⟨nSt τ3 (jmF (noB A) (ms_isNode τ3) (d_ny A) (d_nx A) 0) (jmF (rtB A) (ms_right τ3) (d_ny A) (d_nx A) 0) (jmF (dnB A) (ms_down τ3) (d_ny A) (d_nx A) 0), ?_, ?_, ⟨hL3, fun i j hi hj => ⟨hN3 i j hi hj, jmF_at hi hj hL3.2.1, jmF_at hi hj hL3.2.1⟩⟩⟩
  · have e1 : fm_makesGrid F τ (I c) = fm_makesGrid_L12 F F (mSt τ (ms_xs τ) (ms_ys τ) 0 0) (I c) 0 := rfl
    rw [e1, g1, h78]
    exact f115.trans f185
  · rw [← hτ3]
    exact (((((KmF_xs.tr KmF_ys).tr KmF_xMany).tr KmF_yMany).tr KmF_isNode).tr KmF_right).tr KmF_down
end M5
