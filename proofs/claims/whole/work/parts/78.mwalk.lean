/-! the reference's walk -/
def pSt (τ : MS) (fx fy : Nat → Int32) (n : Int32) : MS := ms_wayMany_s (ms_wayY_s (ms_wayX_s τ fx) fy) n
section Y1
variable {F : Nat} {τ : MS} {c nb p b0 s0 b1 s1 : Nat} {B : Nat → Int} {o0 o1 : Int} {st go : Nat} {N D V : Nat → Nat} {T : Nat} {z : Nat → Nat}
theorem pS_1 {f g : Nat → Int32} {n : Int32} : ms_wayMany (pSt τ f g n) = n := rfl
theorem wX_M {f : Nat → Int32} {n : Int32} : ms_wayX_s (ms_wayMany_s τ n) f = ms_wayMany_s (ms_wayX_s τ f) n := rfl
theorem wX_Y {f g : Nat → Int32} : ms_wayX_s (ms_wayY_s τ g) f = ms_wayY_s (ms_wayX_s τ f) g := rfl
theorem wX_X {f g : Nat → Int32} : ms_wayX_s (ms_wayX_s τ g) f = ms_wayX_s τ f := rfl
theorem wY_M {f : Nat → Int32} {n : Int32} : ms_wayY_s (ms_wayMany_s τ n) f = ms_wayMany_s (ms_wayY_s τ f) n := rfl
theorem wY_Y {f g : Nat → Int32} : ms_wayY_s (ms_wayY_s τ g) f = ms_wayY_s τ f := rfl
theorem wM_M {n m : Int32} : ms_wayMany_s (ms_wayMany_s τ n) m = ms_wayMany_s τ m := rfl
theorem pS_2 {f g : Nat → Int32} {n : Int32} : ms_wayX (pSt τ f g n) = f := rfl
theorem pS_3 {f g : Nat → Int32} {n : Int32} : ms_wayY (pSt τ f g n) = g := rfl
theorem pS_4 {f g h : Nat → Int32} {n : Int32} : ms_wayX_s (pSt τ f g n) h = pSt τ h g n := by
  unfold pSt
  rw [wX_M, wX_Y, wX_X]
theorem pS_5 {f g h : Nat → Int32} {n : Int32} : ms_wayY_s (pSt τ f g n) h = pSt τ f h n := by
  unfold pSt
  rw [wY_M, wY_Y]
theorem pS_6 {f g : Nat → Int32} {n m : Int32} : ms_wayMany_s (pSt τ f g n) m = pSt τ f g m := by
  unfold pSt
  rw [wM_M]
theorem sm_point {fx fy : Nat → Int32} {n : Nat} (hn : n < 400) (x y : Int32) : fm_point F (pSt τ fx fy (I n)) x y = some (pSt τ (upd fx n x) (upd fy n y) (I ((n + 1 : Nat) : Int))) := by
  have e2 : ((n : Nat) : Int).toNat = n := by omega
  have e4 : ∀ v, st_wayX (pSt τ fx fy (I n)) (I n) v = pSt τ (upd fx n v) fy (I n) := fun v => by
    unfold st_wayX
    rw [I_cl (by omega) (by omega), e2, pS_2, pS_4]
  have e5 : ∀ f v, st_wayY (pSt τ f fy (I n)) (I n) v = pSt τ f (upd fy n v) (I n) := fun f v => by
    unfold st_wayY
    rw [I_cl (by omega) (by omega), e2, pS_3, pS_5]
  have e6 : ix (I n) 400 = true := of_eq_true (I_ix (by omega) (by omega) (by omega))
  unfold fm_point
  rw [pS_1, gd_t e6, lt_r, e4, pS_1, gd_t e6, lt_r, e5, lt_r, pS_1, I_S, pS_6]
theorem WkD.zv {A : GD} (h : WkD A p go s1 st s0 N D V T) (hM : MinZ A p go s1 z) (h0 : V 0 < 100000000) {i : Nat} (hi : i ≤ T) : z (4 * nd (N i) + D i) = V i := by
  have hin := h.ing i hi
  obtain ⟨hd, ⟨t, ht⟩, hmin⟩ := h.2.1.1 i hi
  have hv := (h.V0 i hi).1
  obtain ⟨m1, m2⟩ := hM (N i) (D i) hin hd
  have m3 := m2 t _ ht
  obtain ⟨t2, ht2⟩ := m1 (by omega)
  have := hmin _ _ ht2
  omega
/-- the first direction that keeps to the least cost -/
theorem WkD.gon {A : GD} (h : WkD A p go s1 st s0 N D V T) (hM : MinZ A p go s1 z) (h0 : V 0 < 100000000) {i : Nat} (hi : i < T) : gO A p z (N i) (D i) (D (i + 1)) = V i ∧ ∀ e, e < D (i + 1) → gO A p z (N i) (D i) e ≠ V i := by
  obtain ⟨k1, k2, k3, k4, k5⟩ := h.2.1.2.1 i hi
  have hv := (h.V0 i (by omega)).1
  have hv1 := (h.V0 (i + 1) (by omega)).1
  have hd1 := (h.2.1.1 (i + 1) (by omega)).1
  have hz1 := h.zv hM h0 (i := i + 1) (by omega)
  have k2' : opA A (N i) (D (i + 1)) = true := k2
  have k3' : N (i + 1) = tgA (N i) (D (i + 1)) := k3
  have k4' : V i = lnA A (N i) (D (i + 1)) + bnd p (D i) (D (i + 1)) + V (i + 1) := k4
  rw [k3'] at hz1
  unfold gO
  constructor
  · rw [if_neg k1, if_pos k2', hz1, if_pos (by omega)]
    exact k4'.symm
  · intro e he
    by_cases c1 : e = opp (D i)
    · rw [if_pos c1]; omega
    · rw [if_neg c1]
      by_cases c2 : opA A (N i) e = true
      · rw [if_pos c2]
        by_cases c3 : z (4 * nd (tgA (N i) e) + e) < 100000000
        · rw [if_pos c3]
          obtain ⟨t2, ht2⟩ := (hM (tgA (N i) e) e (op_in h.1 (by omega) c2).2 (by omega)).1 c3
          have : V i < lnA A (N i) e + bnd p (D i) e + z (4 * nd (tgA (N i) e) + e) := k5 e t2 _ he c1 c2 ht2
          omega
        · rw [if_neg c3]; omega
      · rw [if_neg c2]; omega
set_option maxHeartbeats 10000000 in
theorem sm_walk (hF : 2000 ≤ F) (hC : CgM τ c nb B p b0 s0 o0 b1 s1 o1) (hz : ∀ k, k < 1600 → ms_toEnd τ k = I (z k) ∧ z k ≤ 100000000) (hM : MinZ (GDn nb B b0 s0 o0 b1 s1 o1) p go s1 z) (hlt : V 0 < 100000000) (h : WkD (GDn nb B b0 s0 o0 b1 s1 o1) p go s1 st s0 N D V T) (hn0 : NdP (GDn nb B b0 s0 o0 b1 s1 o1) st b0 s0 o0) (hn1 : NdP (GDn nb B b0 s0 o0 b1 s1 o1) go b1 s1 o1) (cost : Int32) {fx0 fy0 : Nat → Int32} (hx0 : fx0 0 = I (ptX B b0 s0 o0 0)) (hy0 : fy0 0 = I (ptY B b0 s0 o0 0)) : ∃ fx fy, fm_finds_L68 F F (pSt τ fx0 fy0 (I ((1 : Nat) : Int))) (I c) cost (I (nd st : Nat)) (I (nd go : Nat)) (I s0) 1 = some (cost, pSt τ fx fy (I (nC (edir D s1 T) (T + 2) : Nat))) ∧ (∀ k, k < nC (edir D s1 T) (T + 2) → fx k = I (wyX (GDn nb B b0 s0 o0 b1 s1 o1) N T b0 s0 o0 b1 s1 o1 (cpF (edir D s1 T) (T + 2) k))) ∧ ∀ k, k < nC (edir D s1 T) (T + 2) → fy k = I (wyY (GDn nb B b0 s0 o0 b1 s1 o1) N T b0 s0 o0 b1 s1 o1 (cpF (edir D s1 T) (T + 2) k)) := by
  have hgs4 : s1 < 4 := hC.1.1.2.2.2.2.2.1
  have hch := h.ch
  have hT := h.len
  obtain ⟨-, -, t1, t2, t3⟩ := h.2.1
  have t1' : N T = go := t1
  have hgk := hC.2.1.2.2.2.2.2.2.2.2
  have hpt := fun (fx fy : Nat → Int32) (n : Int32) => (hC.1.pt (F := F) (pSt τ fx fy n) rfl 0).2
  have hof := fun (fx fy : Nat → Int32) (n : Int32) => (hC.1.sd (F := F) (pSt τ fx fy n) rfl).2.2.2.2
  have hen := fun (fx fy : Nat → Int32) (n : Int32) (d : Nat) hd => sm_ending (F := F) (τ := pSt τ fx fy n) (A := GDn nb B b0 s0 o0 b1 s1 o1) (go := go) (c := c) (B := B) (d := d) hC.1 hd
  have hgo := fun (fx fy : Nat → Int32) (n : Int32) (m b d : Nat) hm hb hd => sm_going (F := F) (τ := pSt τ fx fy n) (c := c) (B := B) (n := m) (b := b) (d := d) hC hz hm hb hd
  have hnx := fun (fx fy : Nat → Int32) (n : Int32) (m d : Nat) hm hd => sm_next (F := F) (τ := pSt τ fx fy n) (A := GDn nb B b0 s0 o0 b1 s1 o1) (n := m) (d := d) hC.2 hm hd
  obtain ⟨hnx18, hny18, hxm, hym, hX, hY, -⟩ := hC.2.1
  have hp50 := hC.1.1.2.2.1
  generalize hE : edir D s1 T = E at hch ⊢
  have hEm : ∀ i, i ≤ T → E i = D i := fun i hi => by rw [← hE]; exact ed_m hi
  have hEe : E (T + 1) = opp s1 := by rw [← hE]; exact ed_e
  have hcm : ∀ m, m ≤ T + 1 → cntN (chE E) m ≤ 64 := fun m hm => Nat.le_trans (cntN_mn hm) hch
  have hx0' : wyX (GDn nb B b0 s0 o0 b1 s1 o1) N T b0 s0 o0 b1 s1 o1 0 = ptX B b0 s0 o0 0 := rfl
  have hy0' : wyY (GDn nb B b0 s0 o0 b1 s1 o1) N T b0 s0 o0 b1 s1 o1 0 = ptY B b0 s0 o0 0 := rfl
  have hxm' : ∀ m, m ≤ T → wyX (GDn nb B b0 s0 o0 b1 s1 o1) N T b0 s0 o0 b1 s1 o1 (m + 1) = d_X (GDn nb B b0 s0 o0 b1 s1 o1) (N m % 18) := fun m hm => wyQ_m hm
  have hym' : ∀ m, m ≤ T → wyY (GDn nb B b0 s0 o0 b1 s1 o1) N T b0 s0 o0 b1 s1 o1 (m + 1) = d_Y (GDn nb B b0 s0 o0 b1 s1 o1) (N m / 18) := fun m hm => wyQ_m hm
  have hxe : wyX (GDn nb B b0 s0 o0 b1 s1 o1) N T b0 s0 o0 b1 s1 o1 (T + 2) = ptX B b1 s1 o1 0 := wyQ_e
  have hye : wyY (GDn nb B b0 s0 o0 b1 s1 o1) N T b0 s0 o0 b1 s1 o1 (T + 2) = ptY B b1 s1 o1 0 := wyQ_e
  generalize wyX (GDn nb B b0 s0 o0 b1 s1 o1) N T b0 s0 o0 b1 s1 o1 = qx at hx0' hxm' hxe ⊢
  generalize wyY (GDn nb B b0 s0 o0 b1 s1 o1) N T b0 s0 o0 b1 s1 o1 = qy at hy0' hym' hye ⊢
  rw [← hx0'] at hx0
  rw [← hy0'] at hy0
  generalize GDn nb B b0 s0 o0 b1 s1 o1 = A at *
  have hin := fun i hi => h.ing i hi
  have hndl := fun i hi => nd_lt hgk (h.ing i hi)
  have hD4 : ∀ i, i ≤ T → D i < 4 := fun i hi => (h.2.1.1 i hi).1
  have hzi := fun i hi => h.zv hM hlt (i := i) hi
  have hvi := fun i hi => (h.V0 i hi).1
  have hgon := nd_lt hgk hn1.1
  -- leaving a node
  have l159 : ∀ (k68 : MS → Int32 → Int32 → Int32 → Int32 → Int32 → Int32 → Option (Int32 × MS)) (fx fy : Nat → Int32) (n i lv : Nat) (x6 x8 : Int32), n < 400 → i ≤ T → lv < 4 → fm_finds_L159 F k68 (pSt τ fx fy (I n)) (I c) cost (I (nd (N i) : Nat)) (I (nd go : Nat)) (I (D i)) x6 x8 (I lv) = if lv = D i then fm_finds_L190 F k68 (pSt τ fx fy (I n)) (I c) cost (I (nd (N i) : Nat)) (I (nd go : Nat)) x6 x8 (I lv) else fm_finds_L190 F k68 (pSt τ (upd fx n (I (qx (i + 1)))) (upd fy n (I (qy (i + 1)))) (I ((n + 1 : Nat) : Int))) (I c) cost (I (nd (N i) : Nat)) (I (nd go : Nat)) x6 x8 (I lv) := fun k68 fx fy n i lv x6 x8 hn hi hl => by
    have hd := hD4 i hi
    unfold fm_finds_L159
    by_cases c1 : lv = D i
    · rw [if_pos (by rw [c1]), if_pos c1]
    · obtain ⟨q1, q2, q3⟩ := hndl i hi
      have d1 : I (nd (N i) : Nat) / 20 = I ((N i % 18 : Nat) : Int) := by rw [← q2]; exact I_divn (nd (N i)) 20 (by omega) (by omega) (by omega)
      have d2 : I (nd (N i) : Nat) - I (nd (N i) : Nat) / 20 * 20 = I ((N i / 18 : Nat) : Int) := by rw [← q3]; exact I_modn (nd (N i)) 20 (by omega) (by omega) (by omega)
      obtain ⟨g1, g2⟩ := hin i hi
      have w1 : ms_xs (pSt τ fx fy (I n)) (N i % 18) = I (qx (i + 1)) := by rw [hxm' i hi]; exact (hX _ g1).1
      have w2 : ms_ys (pSt τ fx fy (I n)) (N i / 18) = I (qy (i + 1)) := by rw [hym' i hi]; exact (hY _ g2).1
      rw [if_neg (by rw [I_eq] <;> omega), if_neg c1, d2, d1, gd_t (of_eq_true (I_ix (by omega) (by omega) (by omega))), gd_t (of_eq_true (I_ix (by omega) (by omega) (by omega))), I_cl (by omega) (by omega), I_cl (by omega) (by omega), show ((N i % 18 : Nat) : Int).toNat = N i % 18 by omega, show ((N i / 18 : Nat) : Int).toNat = N i / 18 by omega, w1, w2, sm_point hn, bd_s]
  refine lp_inv2 (P := fun d a => (∃ i, i ≤ T ∧ d = T - i + 1 ∧ ∃ fx fy, a = (pSt τ fx fy (I ((1 + cntN (chE E) i : Nat) : Int)), I c, cost, I (nd (N i) : Nat), I (nd go : Nat), I (D i), 1) ∧ fx 0 = I (qx 0) ∧ fy 0 = I (qy 0) ∧ (∀ j, j < i → chE E j = true → fx (1 + cntN (chE E) j) = I (qx (j + 1))) ∧ ∀ j, j < i → chE E j = true → fy (1 + cntN (chE E) j) = I (qy (j + 1))) ∨ (d = 0 ∧ ∃ fx fy, a = (pSt τ fx fy (I ((1 + cntN (chE E) (T + 1) : Nat) : Int)), I c, cost, I (nd go : Nat), I (nd go : Nat), I (opp s1 : Nat), 0) ∧ fx 0 = I (qx 0) ∧ fy 0 = I (qy 0) ∧ (∀ j, j < T + 1 → chE E j = true → fx (1 + cntN (chE E) j) = I (qx (j + 1))) ∧ ∀ j, j < T + 1 → chE E j = true → fy (1 + cntN (chE E) j) = I (qy (j + 1)))) (Q := fun q => ∃ fx fy, q = some (cost, pSt τ fx fy (I (nC E (T + 2) : Nat))) ∧ (∀ k, k < nC E (T + 2) → fx k = I (qx (cpF E (T + 2) k))) ∧ ∀ k, k < nC E (T + 2) → fy k = I (qy (cpF E (T + 2) k))) (fun d a hp rec => ?_) F (T + 1) _ (by omega) (Or.inl ⟨0, Nat.zero_le _, by omega, fx0, fy0, by rw [h.2.2.1, h.2.2.2.1]; rfl, hx0, hy0, fun j hj => absurd hj (Nat.not_lt_zero _), fun j hj => absurd hj (Nat.not_lt_zero _)⟩)
  rcases hp with ⟨i, hi, hd, fx, fy, rfl, z1, z2, z3, z4⟩ | ⟨hd, fx, fy, rfl, z1, z2, z3, z4⟩
  · right
    have hDi := hD4 i hi
    obtain ⟨q1, -, -⟩ := hndl i hi
    have hc := hcm i (by omega)
    have e1 : (4 : Int32) * I (nd (N i) : Nat) + I (D i) = I ((4 * nd (N i) + D i : Nat) : Int) := by
      rw [I_4, I_mul, I_add]
      exact congrArg I (by omega)
    have e2 : ms_toEnd (pSt τ fx fy (I ((1 + cntN (chE E) i : Nat) : Int))) (4 * nd (N i) + D i) = I (V i) := by
      rw [← hzi i hi]
      exact (hz _ (by omega)).1
    have hv := hvi i hi
    have eeq : (I (nd (N i) : Nat) = I (nd go : Nat)) = (N i = go) := by
      rw [I_eq (by omega) (by omega) (by omega) (by omega)]
      exact propext ⟨fun q => nd_inj hgk (hin i hi) hn1.1 (by omega), fun q => by rw [q]⟩
    have hel := enB_le (GA A p go s1) (D i)
    have hp5 : g_p (GA A p go s1) ≤ 50 := hp50
    have hE2 := hen fx fy (I ((1 + cntN (chE E) i : Nat) : Int)) (D i) hDi
    by_cases hiT : i < T
    · obtain ⟨s1', s2, s3, s4, -⟩ := h.2.1.2.1 i hiT
      have s2' : opA A (N i) (D (i + 1)) = true := s2
      have s3' : N (i + 1) = tgA (N i) (D (i + 1)) := s3
      have hd1 := hD4 (i + 1) (by omega)
      obtain ⟨hgO1, hgO2⟩ := h.gon hM hlt hiT
      have hstop := h.2.2.2.2.2.1 i hiT
      -- the loop for the direction
      have l114 : fm_finds_L104 F (fun a b c d e f g => rec (a, b, c, d, e, f, g)) (pSt τ fx fy (I ((1 + cntN (chE E) i : Nat) : Int))) (I c) cost (I (nd (N i) : Nat)) (I (nd go : Nat)) (I (D i)) (I (V i)) = fm_finds_L159 F (fun a b c d e f g => rec (a, b, c, d, e, f, g)) (pSt τ fx fy (I ((1 + cntN (chE E) i : Nat) : Int))) (I c) cost (I (nd (N i) : Nat)) (I (nd go : Nat)) (I (D i)) 1 (I (D (i + 1))) (I (D (i + 1))) := by
        refine lp_r (fun e => (pSt τ fx fy (I ((1 + cntN (chE E) i : Nat) : Int)), I c, cost, I (nd (N i) : Nat), I (nd go : Nat), I (D i), 1, I (V i), I e)) _ (D (i + 1)) rfl (by omega) (fun e rec2 he => ?_) (fun rec2 => ?_)
        · have g1 := hgo fx fy (I ((1 + cntN (chE E) i : Nat) : Int)) (N i) (D i) e (hin i hi) hDi (by omega)
          have g2 := hgO2 e he
          have g3 : ¬ I (gO A p z (N i) (D i) e : Nat) = I (V i) := by
            have hb : gO A p z (N i) (D i) e ≤ 200000000 := by
              unfold gO
              split
              · omega
              · split
                · rename_i q5 q6
                  split
                  · have := bnd_le p (D i) e
                    have hin2 := (op_in hgk (show e < 4 by omega) q6).2
                    have := ln_abs hgk (show e < 4 by omega) q6
                    have a1 := hX _ (hin i hi).1
                    have a2 := hX _ hin2.1
                    have a3 := hY _ (hin i hi).2
                    have a4 := hY _ hin2.2
                    omega
                  · omega
                · omega
            rw [I_eq] <;> omega
          simp only [fm_finds_L114_c, show ¬ (1 : Int32) = 0 by decide, if_false, g1, bd_s, g3, lt_r, I_S]
        · have g1 := hgo fx fy (I ((1 + cntN (chE E) i : Nat) : Int)) (N i) (D i) (D (i + 1)) (hin i hi) hDi hd1
          rw [hgO1] at g1
          simp only [fm_finds_L114_c, show ¬ (1 : Int32) = 0 by decide, if_false, g1, bd_s, if_true, fm_finds_L139]
      have l190 : ∀ (f g : Nat → Int32) (n : Int32), fm_finds_L190 F (fun a b c d e f g => rec (a, b, c, d, e, f, g)) (pSt τ f g n) (I c) cost (I (nd (N i) : Nat)) (I (nd go : Nat)) 1 (I (D (i + 1))) (I (D (i + 1))) = rec (pSt τ f g n, I c, cost, I (nd (N (i + 1)) : Nat), I (nd go : Nat), I (D (i + 1)), 1) := fun f g n => by
        have g1 := hnx f g n (N i) (D (i + 1)) (hin i hi) hd1
        rw [if_pos s2', ← s3'] at g1
        simp only [fm_finds_L190, show ¬ (1 : Int32) = 0 by decide, if_false, g1, bd_s, fm_finds_L206]
      have hcE : chE E i = decide (D (i + 1) ≠ D i) := by
        unfold chE
        rw [hEm i (by omega), hEm (i + 1) (by omega)]
      have start : fm_finds_L68_c F (fun a b c d e f g => rec (a, b, c, d, e, f, g)) (pSt τ fx fy (I ((1 + cntN (chE E) i : Nat) : Int))) (I c) cost (I (nd (N i) : Nat)) (I (nd go : Nat)) (I (D i)) 1 = fm_finds_L104 F (fun a b c d e f g => rec (a, b, c, d, e, f, g)) (pSt τ fx fy (I ((1 + cntN (chE E) i : Nat) : Int))) (I c) cost (I (nd (N i) : Nat)) (I (nd go : Nat)) (I (D i)) (I (V i)) := by
        unfold fm_finds_L68_c
        rw [if_neg (by decide), e1, gd_t (of_eq_true (I_ix (by omega) (by omega) (by omega))), lt_r, I_cl (by omega) (by omega), show ((4 * nd (N i) + D i : Nat) : Int).toNat = 4 * nd (N i) + D i by omega, e2]
        simp only [eeq]
        by_cases c1 : N i = go
        · rw [if_pos c1, hE2, bd_s, if_neg]
          by_cases c2 : D i = s1
          · rw [if_pos c2, show (100000000 : Int32) = I 100000000 from rfl, I_eq] <;> omega
          · rw [if_neg c2]
            have : ¬ V i = enB (GA A p go s1) (D i) := fun q => hstop ⟨c1, c2, q⟩
            rw [I_eq] <;> omega
        · rw [if_neg c1]
      have hl := l159 (fun a b c d e f g => rec (a, b, c, d, e, f, g)) fx fy (1 + cntN (chE E) i) i (D (i + 1)) 1 (I (D (i + 1))) (by omega) hi hd1
      by_cases c1 : D (i + 1) = D i
      · have hci : chE E i = false := by rw [hcE]; simp [c1]
        have hcn := cnt_n hci
        rw [if_pos c1, l190] at hl
        refine ⟨T - (i + 1) + 1, _, by omega, Or.inl ⟨i + 1, by omega, rfl, fx, fy, by rw [hcn], z1, z2, fun j hj hc => z3 j ?_ hc, fun j hj hc => z4 j ?_ hc⟩, start.trans (l114.trans hl)⟩
        · rcases Nat.lt_or_ge j i with q | q
          · exact q
          · exact absurd hc (by rw [show j = i by omega, hci]; simp)
        · rcases Nat.lt_or_ge j i with q | q
          · exact q
          · exact absurd hc (by rw [show j = i by omega, hci]; simp)
      · have hci : chE E i = true := by rw [hcE]; simp [c1]
        have hcn := cnt_y hci
        obtain ⟨p1, p2⟩ := psh (ch := chE E) (q := fun j => qx (j + 1)) z1 z3 hci (v := I (qx (i + 1))) rfl
        obtain ⟨p3, p4⟩ := psh (ch := chE E) (q := fun j => qy (j + 1)) z2 z4 hci (v := I (qy (i + 1))) rfl
        rw [if_neg c1, l190] at hl
        refine ⟨T - (i + 1) + 1, _, by omega, Or.inl ⟨i + 1, by omega, rfl, _, _, ?_, p1, p3, fun j hj hc => p2 j (by omega) hc, fun j hj hc => p4 j (by omega) hc⟩, start.trans (l114.trans hl)⟩
        exact congrArg (fun q : Nat => (pSt τ _ _ (I (q : Int)), I c, cost, _, _, _, (1 : Int32))) (by omega)
    · have hiT' : i = T := by omega
      subst hiT'
      have t2' : D i ≠ s1 := t2
      have t3' : V i = enB (GA A p go s1) (D i) := t3
      rw [if_neg t2', ← t3'] at hE2
      have hol := opp_lt s1
      have l190 : ∀ (f g : Nat → Int32) (n : Int32), fm_finds_L190 F (fun a b c d e f g => rec (a, b, c, d, e, f, g)) (pSt τ f g n) (I c) cost (I (nd (N i) : Nat)) (I (nd go : Nat)) 0 0 (I (opp s1 : Nat)) = rec (pSt τ f g n, I c, cost, I (nd (N i) : Nat), I (nd go : Nat), I (opp s1 : Nat), 0) := fun f g n => by
        simp only [fm_finds_L190, if_true, fm_finds_L206]
      have start : fm_finds_L68_c F (fun a b c d e f g => rec (a, b, c, d, e, f, g)) (pSt τ fx fy (I ((1 + cntN (chE E) i : Nat) : Int))) (I c) cost (I (nd (N i) : Nat)) (I (nd go : Nat)) (I (D i)) 1 = fm_finds_L159 F (fun a b c d e f g => rec (a, b, c, d, e, f, g)) (pSt τ fx fy (I ((1 + cntN (chE E) i : Nat) : Int))) (I c) cost (I (nd (N i) : Nat)) (I (nd go : Nat)) (I (D i)) 0 0 (I (opp s1 : Nat)) := by
        have l109 : fm_finds_L109 F (fun a b c d e f g => rec (a, b, c, d, e, f, g)) (pSt τ fx fy (I ((1 + cntN (chE E) i : Nat) : Int))) (I c) cost (I (nd (N i) : Nat)) (I (nd go : Nat)) (I (D i)) (I (V i)) 0 = fm_finds_L159 F (fun a b c d e f g => rec (a, b, c, d, e, f, g)) (pSt τ fx fy (I ((1 + cntN (chE E) i : Nat) : Int))) (I c) cost (I (nd (N i) : Nat)) (I (nd go : Nat)) (I (D i)) 0 0 (I (opp s1 : Nat)) := by
          refine lp_r (fun _ => (pSt τ fx fy (I ((1 + cntN (chE E) i : Nat) : Int)), I c, cost, I (nd (N i) : Nat), I (nd go : Nat), I (D i), 0, I (V i), 0)) _ 0 rfl (by omega) (fun k rec hk => absurd hk (Nat.not_lt_zero _)) (fun rec2 => ?_)
          simp only [fm_finds_L114_c, if_true, fm_finds_L139, hof, bd_s, I_opp hgs4]
        unfold fm_finds_L68_c
        rw [if_neg (by decide), e1, gd_t (of_eq_true (I_ix (by omega) (by omega) (by omega))), lt_r, I_cl (by omega) (by omega), show ((4 * nd (N i) + D i : Nat) : Int).toNat = 4 * nd (N i) + D i by omega, e2]
        simp only [eeq]
        rw [if_pos t1', hE2, bd_s, if_pos rfl]
        exact l109
      have hl := l159 (fun a b c d e f g => rec (a, b, c, d, e, f, g)) fx fy (1 + cntN (chE E) i) i (opp s1) 0 0 (by omega) hi hol
      have hcE : chE E i = decide (opp s1 ≠ D i) := by
        unfold chE
        rw [hEm i (by omega), hEe]
      have hnN : nd (N i) = nd go := by rw [t1']
      by_cases c1 : opp s1 = D i
      · have hci : chE E i = false := by rw [hcE]; simp [c1]
        have hcn := cnt_n hci
        rw [if_pos c1, l190] at hl
        refine ⟨0, _, by omega, Or.inr ⟨rfl, fx, fy, by rw [hcn, ← hnN], z1, z2, fun j hj hc => z3 j ?_ hc, fun j hj hc => z4 j ?_ hc⟩, start.trans hl⟩
        · rcases Nat.lt_or_ge j i with q | q
          · exact q
          · exact absurd hc (by rw [show j = i by omega, hci]; simp)
        · rcases Nat.lt_or_ge j i with q | q
          · exact q
          · exact absurd hc (by rw [show j = i by omega, hci]; simp)
      · have hci : chE E i = true := by rw [hcE]; simp [c1]
        have hcn := cnt_y hci
        obtain ⟨p1, p2⟩ := psh (ch := chE E) (q := fun j => qx (j + 1)) z1 z3 hci (v := I (qx (i + 1))) rfl
        obtain ⟨p3, p4⟩ := psh (ch := chE E) (q := fun j => qy (j + 1)) z2 z4 hci (v := I (qy (i + 1))) rfl
        rw [if_neg c1, l190] at hl
        refine ⟨0, _, by omega, Or.inr ⟨rfl, _, _, ?_, p1, p3, fun j hj hc => p2 j (by omega) hc, fun j hj hc => p4 j (by omega) hc⟩, start.trans hl⟩
        rw [hnN]
        exact congrArg (fun q : Nat => (pSt τ _ _ (I (q : Int)), I c, cost, _, _, _, (0 : Int32))) (by omega)
  · left
    obtain ⟨w1, w2⟩ := hpt fx fy (I ((1 + cntN (chE E) (T + 1) : Nat) : Int))
    have hc := hcm (T + 1) (Nat.le_refl _)
    refine ⟨upd fx (1 + cntN (chE E) (T + 1)) (I (qx (T + 2))), upd fy (1 + cntN (chE E) (T + 1)) (I (qy (T + 2))), ?_, ?_, ?_⟩
    · show fm_finds_L68_c F (fun a b c d e f g => rec (a, b, c, d, e, f, g)) (pSt τ fx fy (I ((1 + cntN (chE E) (T + 1) : Nat) : Int))) (I c) cost (I (nd go : Nat)) (I (nd go : Nat)) (I (opp s1 : Nat)) 0 = _
      have w1' : fm_portOf F (pSt τ fx fy (I ((1 + cntN (chE E) (T + 1) : Nat) : Int))) (I c) 1 1 0 = _ := w1
      have w2' : fm_portOf F (pSt τ fx fy (I ((1 + cntN (chE E) (T + 1) : Nat) : Int))) (I c) 1 0 0 = _ := w2
      unfold fm_finds_L68_c
      rw [if_pos rfl, w1', bd_s, w2', bd_s, sm_point (by omega), bd_s, hxe, hye]
      exact congrArg (fun q : Nat => some (cost, pSt τ _ _ (I (q : Int)))) (by show 1 + cntN (chE E) (T + 1) + 1 = 2 + cntN (chE E) (T + 1); omega)
    · refine cor_fin ?_ (fun m hm hc2 => ?_) ?_
      · unfold upd; rw [if_neg (by omega)]; exact z1
      · have : cntN (chE E) m < cntN (chE E) (T + 1) := by
          have a1 := cntN_mn (p := chE E) (show m + 1 ≤ T + 1 by omega)
          have a2 := cnt_y hc2
          omega
        unfold upd; rw [if_neg (by omega)]; exact z3 m hm hc2
      · unfold upd; rw [if_pos rfl]
    · refine cor_fin ?_ (fun m hm hc2 => ?_) ?_
      · unfold upd; rw [if_neg (by omega)]; exact z2
      · have : cntN (chE E) m < cntN (chE E) (T + 1) := by
          have a1 := cntN_mn (p := chE E) (show m + 1 ≤ T + 1 by omega)
          have a2 := cnt_y hc2
          omega
        unfold upd; rw [if_neg (by omega)]; exact z4 m hm hc2
      · unfold upd; rw [if_pos rfl]
end Y1
