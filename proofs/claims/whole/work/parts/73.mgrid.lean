/-! the reference's grid -/
theorem lp_scan {α β : Type} {b : (α → Option β) → α → Option β} (S : Int32 → Nat → α) (r : Int32 → Option β) (fr : Nat → Bool) (len : Nat) (h0 : ∀ (rec : α → Option β) (t : Nat), b rec (S 0 t) = r 0) (hE : ∀ rec : α → Option β, b rec (S 1 len) = r 1) (hS : ∀ (rec : α → Option β) (t : Nat), t < len → b rec (S 1 t) = rec (S (b2 (fr t)) (t + 1))) {n : Nat} (hn : len + 1 < n) : lpN b n (S 1 0) = r (b2 (!anyN (fun t => !fr t) len)) := by
  refine lp_inv (P := fun d a => (∃ t, t ≤ len ∧ (∀ k, k < t → fr k = true) ∧ a = S 1 t ∧ d = len + 1 - t) ∨ ∃ t k, k < len ∧ fr k = false ∧ a = S 0 t) (Q := fun q => q = r (b2 (!anyN (fun t => !fr t) len))) (fun d a hp => ?_) n (len + 1) _ hn (Or.inl ⟨0, Nat.zero_le _, fun k hk => absurd hk (Nat.not_lt_zero _), rfl, rfl⟩)
  rcases hp with ⟨t, h1, h2, rfl, h4⟩ | ⟨t, k, h1, h2, rfl⟩
  · by_cases c : t = len
    · subst c
      refine Or.inl fun rec => ?_
      rw [hE, anyN_no (p := fun t => !fr t) (fun k hk => by simp [h2 k hk])]
      rfl
    · cases hf : fr t with
      | true =>
        refine Or.inr ⟨len + 1 - (t + 1), S 1 (t + 1), by omega, Or.inl ⟨t + 1, by omega, fun k hk => ?_, rfl, rfl⟩, fun rec => ?_⟩
        · by_cases q : k = t
          · rw [q]; exact hf
          · exact h2 k (by omega)
        · rw [hS rec t (by omega), hf]
          rfl
      | false =>
        refine Or.inr ⟨0, S 0 (t + 1), by omega, Or.inr ⟨t + 1, t, by omega, hf, rfl⟩, fun rec => ?_⟩
        rw [hS rec t (by omega), hf]
        rfl
  · refine Or.inl fun rec => ?_
    rw [h0, anyN_ex.mpr ⟨k, h1, by simp [h2]⟩]
    rfl
theorem seg_x {B : Nat → Int} {nb : Nat} {x0 x1 y : Int} (h : x0 ≤ x1) (hB : ∀ k, k < nb → BxB B k) : fre B nb x0 y x1 y = (fre B nb x1 y x1 y && !anyN (fun t => !fre B nb (x0 + (t : Nat)) y (x0 + (t : Nat)) y) (x1 - x0).toNat) := by
  rw [Bool.eq_iff_iff, Bool.and_eq_true, Bool.not_eq_true', fre_iff, fre_iff]
  constructor
  · intro g
    refine ⟨fun k hk z => g k hk (by omega), anyN_no fun t ht => ?_⟩
    rw [Bool.not_eq_false', fre_iff]
    intro k hk z
    exact g k hk (by omega)
  · rintro ⟨g1, g2⟩ k hk z
    have q := hB k hk
    obtain ⟨⟨q2, q3, q4⟩, q5, q6, q7⟩ := q
    have key : ∀ x : Int, x0 ≤ x → x ≤ x1 → B (4 * k) ≤ x → x ≤ B (4 * k + 2) → False := fun x a1 a2 a3 a4 => by
      by_cases c : x = x1
      · subst c
        exact g1 k hk (by omega)
      · have hf : fre B nb (x0 + ((x - x0).toNat : Nat)) y (x0 + ((x - x0).toNat : Nat)) y = true := by
          cases hq : fre B nb (x0 + ((x - x0).toNat : Nat)) y (x0 + ((x - x0).toNat : Nat)) y with
          | true => rfl
          | false => rw [anyN_ex.mpr ⟨(x - x0).toNat, by omega, by show (!fre B nb (x0 + ((x - x0).toNat : Nat)) y (x0 + ((x - x0).toNat : Nat)) y) = true; rw [hq]; rfl⟩] at g2; cases g2
        exact fre_iff.mp hf k hk (by omega)
    rcases Int.le_total x0 (B (4 * k)) with c | c
    · exact key (B (4 * k)) c (by omega) (by omega) (by omega)
    · exact key x0 (by omega) h c (by omega)
theorem seg_y {B : Nat → Int} {nb : Nat} {x y0 y1 : Int} (h : y0 ≤ y1) (hB : ∀ k, k < nb → BxB B k) : fre B nb x y0 x y1 = (fre B nb x y1 x y1 && !anyN (fun t => !fre B nb x (y0 + (t : Nat)) x (y0 + (t : Nat))) (y1 - y0).toNat) := by
  rw [Bool.eq_iff_iff, Bool.and_eq_true, Bool.not_eq_true', fre_iff, fre_iff]
  constructor
  · intro g
    refine ⟨fun k hk z => g k hk (by omega), anyN_no fun t ht => ?_⟩
    rw [Bool.not_eq_false', fre_iff]
    intro k hk z
    exact g k hk (by omega)
  · rintro ⟨g1, g2⟩ k hk z
    have q := hB k hk
    obtain ⟨⟨q2, q3, q4⟩, q5, q6, q7⟩ := q
    have key : ∀ x2 : Int, y0 ≤ x2 → x2 ≤ y1 → B (4 * k + 1) ≤ x2 → x2 ≤ B (4 * k + 3) → False := fun x2 a1 a2 a3 a4 => by
      by_cases c : x2 = y1
      · subst c
        exact g1 k hk (by omega)
      · have hf : fre B nb x (y0 + ((x2 - y0).toNat : Nat)) x (y0 + ((x2 - y0).toNat : Nat)) = true := by
          cases hq : fre B nb x (y0 + ((x2 - y0).toNat : Nat)) x (y0 + ((x2 - y0).toNat : Nat)) with
          | true => rfl
          | false => rw [anyN_ex.mpr ⟨(x2 - y0).toNat, by omega, by show (!fre B nb x (y0 + ((x2 - y0).toNat : Nat)) x (y0 + ((x2 - y0).toNat : Nat))) = true; rw [hq]; rfl⟩] at g2; cases g2
        exact fre_iff.mp hf k hk (by omega)
    rcases Int.le_total y0 (B (4 * k + 1)) with c | c
    · exact key (B (4 * k + 1)) c (by omega) (by omega) (by omega)
    · exact key y0 (by omega) h c (by omega)
def mSt (τ : MS) (fx fy : Nat → Int32) (a b : Int32) : MS := ms_yMany_s (ms_xMany_s (ms_ys_s (ms_xs_s τ fx) fy) a) b
def nSt (τ : MS) (fn fr fd : Nat → Int32) : MS := ms_down_s (ms_right_s (ms_isNode_s τ fn) fr) fd
/-- rows over a grid of 20, up to a place -/
def jmF (p : Nat → Bool) (old : Nat → Int32) (ny i j : Nat) : Nat → Int32 := fun n => if n % 20 < ny ∧ (n / 20 < i ∨ (n / 20 = i ∧ n % 20 < j)) then b2 (p (18 * (n % 20) + n / 20)) else old n
theorem jmF_S {p : Nat → Bool} {old : Nat → Int32} {ny i j : Nat} (hj : j < ny) (hn : ny ≤ 18) {v : Int32} (hv : v = b2 (p (18 * j + i))) : upd (jmF p old ny i j) (20 * i + j) v = jmF p old ny i (j + 1) := by
  subst hv
  funext n
  unfold upd jmF
  by_cases h : n = 20 * i + j
  · subst h
    rw [if_pos rfl, if_pos (by omega), show (20 * i + j) % 20 = j by omega, show (20 * i + j) / 20 = i by omega]
  · rw [if_neg h]
    by_cases h2 : n % 20 < ny ∧ (n / 20 < i ∨ (n / 20 = i ∧ n % 20 < j))
    · rw [if_pos h2, if_pos (by omega)]
    · rw [if_neg h2, if_neg (by omega)]
theorem jmF_E {p : Nat → Bool} {old : Nat → Int32} {ny i : Nat} : jmF p old ny i ny = jmF p old ny (i + 1) 0 := by
  funext n
  unfold jmF
  by_cases h2 : n % 20 < ny ∧ (n / 20 < i ∨ (n / 20 = i ∧ n % 20 < ny))
  · rw [if_pos h2, if_pos (by omega)]
  · rw [if_neg h2, if_neg (by omega)]
theorem jmF_0 {p : Nat → Bool} {old : Nat → Int32} {ny : Nat} : jmF p old ny 0 0 = old := by
  funext n
  unfold jmF
  rw [if_neg (by omega)]
theorem jmF_at {p : Nat → Bool} {old : Nat → Int32} {nx ny i j : Nat} (hi : i < nx) (hj : j < ny) (hn : ny ≤ 18) : jmF p old ny nx 0 (20 * i + j) = b2 (p (18 * j + i)) := by
  unfold jmF
  rw [if_pos (by omega), show (20 * i + j) % 20 = j by omega, show (20 * i + j) / 20 = i by omega]
def noB (A : GD) (n : Nat) : Bool := fre (d_B A) (d_nb A) (d_X A (n % 18)) (d_Y A (n / 18)) (d_X A (n % 18)) (d_Y A (n / 18))
/-- the lines of the reference's grid -/
def LnM (τ : MS) (A : GD) : Prop := d_nx A ≤ 18 ∧ d_ny A ≤ 18 ∧ ms_xMany τ = I (d_nx A) ∧ ms_yMany τ = I (d_ny A) ∧ (∀ j, j < d_nx A → ms_xs τ j = I (d_X A j) ∧ 0 ≤ d_X A j ∧ d_X A j ≤ 99) ∧ (∀ j, j < d_ny A → ms_ys τ j = I (d_Y A j) ∧ 0 ≤ d_Y A j ∧ d_Y A j ≤ 99) ∧ (∀ k, k < d_nb A → BxB (d_B A) k) ∧ d_nb A ≤ 8 ∧ GrOk A
def BlM (F : Nat) (τ : MS) (A : GD) : Prop := ∀ (τ' : MS), ms_row τ' = ms_row τ → ∀ x y : Int, 0 ≤ x → x ≤ 99 → 0 ≤ y → y ≤ 99 → fm_blockerOf F τ' (I x) (I y) = some (fbR (-1000) (d_nb A) (blk (d_B A) x y x y))
section M4
variable {F : Nat} {τ : MS} {A : GD} {fn fr fd f : Nat → Int32} {v : Int32}
theorem nS_1 : ms_isNode (nSt τ fn fr fd) = fn := rfl
theorem nS_2 : ms_right (nSt τ fn fr fd) = fr := rfl
theorem nS_3 : ms_down (nSt τ fn fr fd) = fd := rfl
theorem nS_4 : ms_isNode_s (nSt τ fn fr fd) f = nSt τ f fr fd := rfl
theorem nS_5 : ms_right_s (nSt τ fn fr fd) f = nSt τ fn f fd := rfl
theorem nS_6 : ms_down_s (nSt τ fn fr fd) f = nSt τ fn fr f := rfl
theorem nS_7 : ms_xs (nSt τ fn fr fd) = ms_xs τ := rfl
theorem nS_8 : ms_ys (nSt τ fn fr fd) = ms_ys τ := rfl
theorem nS_9 : ms_xMany (nSt τ fn fr fd) = ms_xMany τ := rfl
theorem nS_10 : ms_yMany (nSt τ fn fr fd) = ms_yMany τ := rfl
theorem fre_fb {B : Nat → Int} {nb : Nat} (hn : nb ≤ 8) {x y : Int} : (fbR (-1000) nb (blk B x y x y) = -1000) = (fre B nb x y x y = true) := by
  rw [fbR_no hn (Or.inr rfl)]
  unfold fre
  rw [Bool.not_eq_true']
theorem nI_c {i j : Nat} (h : j < 20) (h2 : i < 20) : ((20 * i + j : Nat) : Int).toNat = 20 * i + j := by omega
theorem e20 {i j : Nat} : (20 : Int32) * I i + I j = I ((20 * i + j : Nat) : Int) := by
  rw [I_20, I_mul, I_add]
  exact congrArg I (by omega)
theorem st_right_at {i : Nat} (hi : i < 400) : st_right (nSt τ fn fr fd) (I i) v = nSt τ fn (upd fr i v) fd := by
  unfold st_right
  rw [I_cl (by omega) (by omega), show ((i : Nat) : Int).toNat = i by omega]
  rfl
theorem st_down_at {i : Nat} (hi : i < 400) : st_down (nSt τ fn fr fd) (I i) v = nSt τ fn fr (upd fd i v) := by
  unfold st_down
  rw [I_cl (by omega) (by omega), show ((i : Nat) : Int).toNat = i by omega]
  rfl
theorem st_isNode_at {i : Nat} (hi : i < 400) : st_isNode (nSt τ fn fr fd) (I i) v = nSt τ (upd fn i v) fr fd := by
  unfold st_isNode
  rw [I_cl (by omega) (by omega), show ((i : Nat) : Int).toNat = i by omega]
  rfl
/-- is it open to the right -/
theorem sm_r258 (hF : 1000 ≤ F) (hL : LnM τ A) (hBl : BlM F τ A) {i j : Nat} (hi : i < d_nx A) (hj : j < d_ny A) (hN : ∀ i j, i < d_nx A → j < d_ny A → fn (20 * i + j) = b2 (noB A (18 * j + i))) (k1 : MS → Int32 → Option MS) (k2 : MS → Int32 → Int32 → Option MS) : (if ms_xMany (nSt τ fn fr fd) ≤ I i + 1 then fm_makesGrid_L247 F k1 k2 (nSt τ fn fr fd) (I i) (I j) else gd (ix (20 * I i + I j) 400 = true) (if ms_isNode (nSt τ fn fr fd) (20 * I i + I j).toNatClampNeg = 0 then fm_makesGrid_L247 F k1 k2 (nSt τ fn fr fd) (I i) (I j) else gd (ix (20 * (I i + 1) + I j) 400 = true) (if ms_isNode (nSt τ fn fr fd) (20 * (I i + 1) + I j).toNatClampNeg = 0 then fm_makesGrid_L247 F k1 k2 (nSt τ fn fr fd) (I i) (I j) else fm_makesGrid_L248 F k1 k2 (nSt τ fn fr fd) (I i) (I j) 1))) = fm_makesGrid_L307 F k1 k2 (nSt τ fn fr fd) (I i) (I j) (b2 (rtB A (18 * j + i))) := by
  obtain ⟨hnx, hny, hxm, hym, hX, hY, hB, hnb, hg⟩ := hL
  obtain ⟨x1, x2, x3⟩ := hX i hi
  obtain ⟨y1, y2, y3⟩ := hY j hj
  have n1 : ((i : Nat) : Int).toNat = i := by omega
  have n2 : ((j : Nat) : Int).toNat = j := by omega
  have m1 : (18 * j + i) % 18 = i := by omega
  have m2 : (18 * j + i) / 18 = j := by omega
  have f247 : fm_makesGrid_L247 F k1 k2 (nSt τ fn fr fd) (I i) (I j) = fm_makesGrid_L307 F k1 k2 (nSt τ fn fr fd) (I i) (I j) 0 := by
    simp (disch := omega) only [fm_makesGrid_L247, fm_makesGrid_L248, I_ix, gd_T, lt_r]
    refine lp_r (fun _ => (nSt τ fn fr fd, I i, I j, 0, ms_xs (nSt τ fn fr fd) (I i).toNatClampNeg)) _ 0 rfl (by omega) (fun k rec hk => absurd hk (Nat.not_lt_zero _)) (fun rec => ?_)
    simp only [fm_makesGrid_L258_c, if_true]
  have hrt : rtB A (18 * j + i) = (decide (i + 1 < d_nx A) && fre (d_B A) (d_nb A) (d_X A i) (d_Y A j) (d_X A (i + 1)) (d_Y A j)) := by
    unfold rtB
    rw [m1, m2, decide_eq_true hj, Bool.and_true]
  by_cases c1 : i + 1 < d_nx A
  · have e1 : ¬ I (d_nx A) ≤ I i + 1 := by rw [I_S, I_le] <;> omega
    obtain ⟨z1, z2, z3⟩ := hX (i + 1) c1
    have hlt := gX hg (show i < i + 1 by omega) c1
    have w1 := hN i j hi hj
    have w2 := hN (i + 1) j c1 hj
    have hno1 : noB A (18 * j + i) = fre (d_B A) (d_nb A) (d_X A i) (d_Y A j) (d_X A i) (d_Y A j) := by
      unfold noB
      rw [m1, m2]
    have hno2 : noB A (18 * j + (i + 1)) = fre (d_B A) (d_nb A) (d_X A (i + 1)) (d_Y A j) (d_X A (i + 1)) (d_Y A j) := by
      unfold noB
      rw [show (18 * j + (i + 1)) % 18 = i + 1 by omega, show (18 * j + (i + 1)) / 18 = j by omega]
    rw [decide_eq_true c1, Bool.true_and, seg_x (by omega) hB] at hrt
    have e2 : (20 : Int32) * (I i + 1) + I j = I ((20 * (i + 1) + j : Nat) : Int) := by rw [I_S, e20]
    rw [e2, e20, nS_9, hxm, if_neg e1, gd_t (of_eq_true (I_ix (by omega) (by omega) (by omega))), gd_t (of_eq_true (I_ix (by omega) (by omega) (by omega))), I_cl (by omega) (by omega), I_cl (by omega) (by omega), nS_1, nI_c (by omega) (by omega), nI_c (by omega) (by omega), w1, w2]
    simp only [b2_0]
    cases h1 : noB A (18 * j + i) with
    | false =>
      rw [if_pos rfl, f247, hrt]
      rw [h1] at hno1
      rw [anyN_ex.mpr ⟨0, by omega, by simp [← hno1]⟩]
      simp [b2]
    | true =>
      cases h2 : noB A (18 * j + (i + 1)) with
      | false =>
        rw [if_neg (by simp), if_pos rfl, f247, hrt, ← hno2, h2]
        rfl
      | true =>
        rw [if_neg (by simp), if_neg (by simp), hrt, ← hno2, h2, Bool.true_and]
        simp (disch := omega) only [fm_makesGrid_L248, I_ix, gd_T, lt_r, I_cl, n1, nS_7, x1]
        refine (congrArg (fun z => fm_makesGrid_L258 F k1 k2 F (nSt τ fn fr fd) (I i) (I j) 1 (I z)) (show d_X A i = d_X A i + ((0 : Nat) : Int) by omega)).trans ?_
        refine lp_scan (fun fl t => (nSt τ fn fr fd, I i, I j, fl, I (d_X A i + ((t : Nat) : Int)))) (fun fl => fm_makesGrid_L307 F k1 k2 (nSt τ fn fr fd) (I i) (I j) fl) (fun t => fre (d_B A) (d_nb A) (d_X A i + ((t : Nat) : Int)) (d_Y A j) (d_X A i + ((t : Nat) : Int)) (d_Y A j)) (d_X A (i + 1) - d_X A i).toNat (fun rec t => ?_) (fun rec => ?_) (fun rec t ht => ?_) (by omega)
        · simp only [fm_makesGrid_L258_c, if_true]
        · have e3 : I (d_X A (i + 1)) ≤ I (d_X A i + (((d_X A (i + 1) - d_X A i).toNat : Nat) : Int)) := by rw [I_le] <;> omega
          have n3 : ((i + 1 : Nat) : Int).toNat = i + 1 := by omega
          simp (disch := omega) only [fm_makesGrid_L258_c, show ¬ (1 : Int32) = 0 by decide, if_false, I_S, I_ix, gd_T, I_cl, n3, nS_7, z1, e3, if_true]
        · have e3 : ¬ I (d_X A (i + 1)) ≤ I (d_X A i + ((t : Nat) : Int)) := by rw [I_le] <;> omega
          have n3 : ((i + 1 : Nat) : Int).toNat = i + 1 := by omega
          have hb := hBl (nSt τ fn fr fd) rfl (d_X A i + ((t : Nat) : Int)) (d_Y A j) (by omega) (by omega) (by omega) (by omega)
          have e4 : I (d_X A i + ((t : Nat) : Int)) + 1 = I (d_X A i + ((t + 1 : Nat) : Int)) := by
            rw [I_1, I_add]
            exact congrArg I (by omega)
          simp (disch := omega) only [fm_makesGrid_L258_c, fm_makesGrid_L299, show ¬ (1 : Int32) = 0 by decide, if_false, I_S, I_ix, gd_T, I_cl, n3, n2, nS_7, nS_8, z1, y1, e3, hb, bd_s, fre_fb hnb, lt_r, e4]
          cases fre (d_B A) (d_nb A) (d_X A i + ((t : Nat) : Int)) (d_Y A j) (d_X A i + ((t : Nat) : Int)) (d_Y A j) <;> rfl
  · have e1 : I (d_nx A) ≤ I i + 1 := by rw [I_S, I_le] <;> omega
    rw [nS_9, hxm, if_pos e1, f247, hrt, decide_eq_false c1]
    rfl
/-- is it open down -/
theorem sm_d375 (hF : 1000 ≤ F) (hL : LnM τ A) (hBl : BlM F τ A) {i j : Nat} (hi : i < d_nx A) (hj : j < d_ny A) (hN : ∀ i j, i < d_nx A → j < d_ny A → fn (20 * i + j) = b2 (noB A (18 * j + i))) (k1 : MS → Int32 → Option MS) (k2 : MS → Int32 → Int32 → Option MS) : (if ms_yMany (nSt τ fn fr fd) ≤ I j + 1 then fm_makesGrid_L364 F k1 k2 (nSt τ fn fr fd) (I i) (I j) else gd (ix (20 * I i + I j) 400 = true) (if ms_isNode (nSt τ fn fr fd) (20 * I i + I j).toNatClampNeg = 0 then fm_makesGrid_L364 F k1 k2 (nSt τ fn fr fd) (I i) (I j) else gd (ix (20 * I i + I j + 1) 400 = true) (if ms_isNode (nSt τ fn fr fd) (20 * I i + I j + 1).toNatClampNeg = 0 then fm_makesGrid_L364 F k1 k2 (nSt τ fn fr fd) (I i) (I j) else fm_makesGrid_L365 F k1 k2 (nSt τ fn fr fd) (I i) (I j) 1))) = fm_makesGrid_L424 F k1 k2 (nSt τ fn fr fd) (I i) (I j) (b2 (dnB A (18 * j + i))) := by
  obtain ⟨hnx, hny, hxm, hym, hX, hY, hB, hnb, hg⟩ := hL
  obtain ⟨x1, x2, x3⟩ := hX i hi
  obtain ⟨y1, y2, y3⟩ := hY j hj
  have n1 : ((i : Nat) : Int).toNat = i := by omega
  have n2 : ((j : Nat) : Int).toNat = j := by omega
  have m1 : (18 * j + i) % 18 = i := by omega
  have m2 : (18 * j + i) / 18 = j := by omega
  have f364 : fm_makesGrid_L364 F k1 k2 (nSt τ fn fr fd) (I i) (I j) = fm_makesGrid_L424 F k1 k2 (nSt τ fn fr fd) (I i) (I j) 0 := by
    simp (disch := omega) only [fm_makesGrid_L364, fm_makesGrid_L365, I_ix, gd_T, lt_r]
    refine lp_r (fun _ => (nSt τ fn fr fd, I i, I j, 0, ms_ys (nSt τ fn fr fd) (I j).toNatClampNeg)) _ 0 rfl (by omega) (fun k rec hk => absurd hk (Nat.not_lt_zero _)) (fun rec => ?_)
    simp only [fm_makesGrid_L375_c, if_true]
  have hdn : dnB A (18 * j + i) = (decide (j + 1 < d_ny A) && fre (d_B A) (d_nb A) (d_X A i) (d_Y A j) (d_X A i) (d_Y A (j + 1))) := by
    unfold dnB
    rw [m1, m2, decide_eq_true hi, Bool.true_and]
  by_cases c1 : j + 1 < d_ny A
  · have e1 : ¬ I (d_ny A) ≤ I j + 1 := by rw [I_S, I_le] <;> omega
    obtain ⟨z1, z2, z3⟩ := hY (j + 1) c1
    have hlt := gY hg (show j < j + 1 by omega) c1
    have w1 := hN i j hi hj
    have w2 := hN i (j + 1) hi c1
    have hno1 : noB A (18 * j + i) = fre (d_B A) (d_nb A) (d_X A i) (d_Y A j) (d_X A i) (d_Y A j) := by
      unfold noB
      rw [m1, m2]
    have hno2 : noB A (18 * (j + 1) + i) = fre (d_B A) (d_nb A) (d_X A i) (d_Y A (j + 1)) (d_X A i) (d_Y A (j + 1)) := by
      unfold noB
      rw [show (18 * (j + 1) + i) % 18 = i by omega, show (18 * (j + 1) + i) / 18 = j + 1 by omega]
    rw [decide_eq_true c1, Bool.true_and, seg_y (by omega) hB] at hdn
    have e2 : I ((20 * i + j : Nat) : Int) + 1 = I ((20 * i + (j + 1) : Nat) : Int) := by
      rw [I_S]
      exact congrArg I (by omega)
    rw [e20, e2, nS_10, hym, if_neg e1, gd_t (of_eq_true (I_ix (by omega) (by omega) (by omega))), gd_t (of_eq_true (I_ix (by omega) (by omega) (by omega))), I_cl (by omega) (by omega), I_cl (by omega) (by omega), nS_1, nI_c (by omega) (by omega), nI_c (by omega) (by omega), w1, w2]
    simp only [b2_0]
    cases h1 : noB A (18 * j + i) with
    | false =>
      rw [if_pos rfl, f364, hdn]
      rw [h1] at hno1
      rw [anyN_ex.mpr ⟨0, by omega, by simp [← hno1]⟩]
      simp [b2]
    | true =>
      cases h2 : noB A (18 * (j + 1) + i) with
      | false =>
        rw [if_neg (by simp), if_pos rfl, f364, hdn, ← hno2, h2]
        rfl
      | true =>
        rw [if_neg (by simp), if_neg (by simp), hdn, ← hno2, h2, Bool.true_and]
        simp (disch := omega) only [fm_makesGrid_L365, I_ix, gd_T, lt_r, I_cl, n2, nS_8, y1]
        refine (congrArg (fun z => fm_makesGrid_L375 F k1 k2 F (nSt τ fn fr fd) (I i) (I j) 1 (I z)) (show d_Y A j = d_Y A j + ((0 : Nat) : Int) by omega)).trans ?_
        refine lp_scan (fun fl t => (nSt τ fn fr fd, I i, I j, fl, I (d_Y A j + ((t : Nat) : Int)))) (fun fl => fm_makesGrid_L424 F k1 k2 (nSt τ fn fr fd) (I i) (I j) fl) (fun t => fre (d_B A) (d_nb A) (d_X A i) (d_Y A j + ((t : Nat) : Int)) (d_X A i) (d_Y A j + ((t : Nat) : Int))) (d_Y A (j + 1) - d_Y A j).toNat (fun rec t => ?_) (fun rec => ?_) (fun rec t ht => ?_) (by omega)
        · simp only [fm_makesGrid_L375_c, if_true]
        · have e3 : I (d_Y A (j + 1)) ≤ I (d_Y A j + (((d_Y A (j + 1) - d_Y A j).toNat : Nat) : Int)) := by rw [I_le] <;> omega
          have n3 : ((j + 1 : Nat) : Int).toNat = j + 1 := by omega
          simp (disch := omega) only [fm_makesGrid_L375_c, show ¬ (1 : Int32) = 0 by decide, if_false, I_S, I_ix, gd_T, I_cl, n3, nS_8, z1, e3, if_true]
        · have e3 : ¬ I (d_Y A (j + 1)) ≤ I (d_Y A j + ((t : Nat) : Int)) := by rw [I_le] <;> omega
          have n3 : ((j + 1 : Nat) : Int).toNat = j + 1 := by omega
          have hb := hBl (nSt τ fn fr fd) rfl (d_X A i) (d_Y A j + ((t : Nat) : Int)) (by omega) (by omega) (by omega) (by omega)
          have e4 : I (d_Y A j + ((t : Nat) : Int)) + 1 = I (d_Y A j + ((t + 1 : Nat) : Int)) := by
            rw [I_1, I_add]
            exact congrArg I (by omega)
          simp (disch := omega) only [fm_makesGrid_L375_c, fm_makesGrid_L416, show ¬ (1 : Int32) = 0 by decide, if_false, I_S, I_ix, gd_T, I_cl, n3, n1, nS_7, nS_8, z1, x1, e3, hb, bd_s, fre_fb hnb, lt_r, e4]
          cases fre (d_B A) (d_nb A) (d_X A i) (d_Y A j + ((t : Nat) : Int)) (d_X A i) (d_Y A j + ((t : Nat) : Int)) <;> rfl
  · have e1 : I (d_ny A) ≤ I j + 1 := by rw [I_S, I_le] <;> omega
    rw [nS_10, hym, if_pos e1, f364, hdn, decide_eq_false c1]
    rfl
end M4
