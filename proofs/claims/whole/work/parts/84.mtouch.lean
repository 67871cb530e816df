/-! the reference: touched -/
theorem lp_scn {α β : Type} {b : (α → Option β) → α → Option β} (S : Int32 → Nat → α) (r : Int32 → Option β) (bk : Nat → Bool) (len : Nat) (h1 : ∀ (rec : α → Option β) (t : Nat), t ≤ len → b rec (S 1 t) = r 1) (hE : ∀ rec : α → Option β, b rec (S 0 len) = r 0) (hS : ∀ (rec : α → Option β) (t : Nat), t < len → b rec (S 0 t) = rec (S (b2 (bk t)) (t + 1))) {n : Nat} (hn : len + 1 < n) : lpN b n (S 0 0) = r (b2 (anyN bk len)) := by
  refine lp_inv (P := fun d a => (∃ t, t ≤ len ∧ (∀ k, k < t → bk k = false) ∧ a = S 0 t ∧ d = len + 1 - t) ∨ ∃ t k, t ≤ len ∧ k < len ∧ bk k = true ∧ a = S 1 t) (Q := fun q => q = r (b2 (anyN bk len))) (fun d a hp => ?_) n (len + 1) _ hn (Or.inl ⟨0, Nat.zero_le _, fun k hk => absurd hk (Nat.not_lt_zero _), rfl, rfl⟩)
  rcases hp with ⟨t, h1', h2, rfl, h4⟩ | ⟨t, k, ht, h1', h2, rfl⟩
  · by_cases c : t = len
    · subst c
      refine Or.inl fun rec => ?_
      rw [hE, anyN_no h2]
      rfl
    · cases hf : bk t with
      | false =>
        refine Or.inr ⟨len + 1 - (t + 1), S 0 (t + 1), by omega, Or.inl ⟨t + 1, by omega, fun k hk => ?_, rfl, rfl⟩, fun rec => ?_⟩
        · by_cases q : k = t
          · rw [q]; exact hf
          · exact h2 k (by omega)
        · rw [hS rec t (by omega), hf]
          rfl
      | true =>
        refine Or.inr ⟨0, S 1 (t + 1), by omega, Or.inr ⟨t + 1, t, by omega, by omega, hf, rfl⟩, fun rec => ?_⟩
        rw [hS rec t (by omega), hf]
        rfl
  · refine Or.inl fun rec => ?_
    rw [h1 rec t ht, anyN_ex.mpr ⟨k, h1', h2⟩]
    rfl
def sgn (z : Int) : Int := if 0 < z then 1 else if z < 0 then -1 else 0
def dX (v : RV) (k : Nat) : Int := sgn (rX v (k + 1) - rX v k)
def dY (v : RV) (k : Nat) : Int := sgn (rY v (k + 1) - rY v k)
def pX (v : RV) (k : Nat) (t : Nat) : Int := if dX v k = 0 then rX v k else if dX v k = 1 then rX v k + t else rX v k - t
def pY (v : RV) (k : Nat) (t : Nat) : Int := if dY v k = 0 then rY v k else if dY v k = 1 then rY v k + t else rY v k - t
def lenS (v : RV) (k : Nat) : Nat := (rX v (k + 1) - rX v k).natAbs + (rY v (k + 1) - rY v k).natAbs
theorem sm_sign (F : Nat) {z : Int} (h1 : -1000 ≤ z) (h2 : z ≤ 1000) : fm_sign F (I z) = some (I (sgn z)) := by
  have e1 : (I z ≤ 0) = (z ≤ 0) := by rw [I_0, I_le (by omega) (by omega) (by omega) (by omega)]
  have e2 : ((0 : Int32) ≤ I z) = (0 ≤ z) := by rw [I_0, I_le (by omega) (by omega) (by omega) (by omega)]
  simp only [fm_sign, fm_sign_L17, e1, e2]
  unfold sgn
  by_cases c1 : z ≤ 0
  · rw [if_pos c1]
    by_cases c2 : 0 ≤ z
    · rw [if_pos c2, if_neg (by omega), if_neg (by omega)]; rfl
    · rw [if_neg c2, if_neg (by omega), if_pos (by omega)]; rfl
  · rw [if_neg c1, if_pos (by omega)]; rfl
/-- one step further -/
theorem pt_st {v : RV} (h : RtI v) {k : Nat} (hk : k + 1 < v.2.1) : (∀ t, pX v k t + dX v k = pX v k (t + 1) ∧ pY v k t + dY v k = pY v k (t + 1)) ∧ (∀ t, t ≤ lenS v k → (0 ≤ pX v k t ∧ pX v k t ≤ 99) ∧ (0 ≤ pY v k t ∧ pY v k t ≤ 99) ∧ ((pX v k t = rX v (k + 1) ∧ pY v k t = rY v (k + 1)) ↔ t = lenS v k)) ∧ 1 ≤ lenS v k ∧ lenS v k ≤ 99 ∧ pX v k 0 = rX v k ∧ pY v k 0 = rY v k := by
  obtain ⟨h1, h2, h3, h4, -⟩ := h
  have a1 := h3 k (by omega)
  have a2 := h3 (k + 1) hk
  have a3 := h4 k hk
  unfold pX pY dX dY lenS sgn
  rcases Int.lt_trichotomy (rX v (k + 1) - rX v k) 0 with q | q | q
  · have q2 : rY v (k + 1) - rY v k = 0 := by omega
    rw [q2]
    simp only [show ¬ (0 : Int) < rX v (k + 1) - rX v k by omega, q, if_true, if_false]
    simp
    refine ⟨fun t => by omega, fun t ht => ⟨by omega, by omega, by omega⟩, by omega, by omega⟩
  · have q2 : rY v (k + 1) - rY v k ≠ 0 := by omega
    rw [q]
    rcases Int.lt_trichotomy (rY v (k + 1) - rY v k) 0 with r | r | r
    · simp only [show ¬ (0 : Int) < rY v (k + 1) - rY v k by omega, r, if_true, if_false]
      simp
      refine ⟨fun t => by omega, fun t ht => ⟨by omega, by omega, by omega⟩, by omega, by omega⟩
    · exact absurd r q2
    · simp only [r, if_true]
      simp
      refine ⟨fun t => by omega, fun t ht => ⟨by omega, by omega, by omega⟩, by omega, by omega⟩
  · have q2 : rY v (k + 1) - rY v k = 0 := by omega
    rw [q2]
    simp only [q, if_true]
    simp
    refine ⟨fun t => by omega, fun t ht => ⟨by omega, by omega, by omega⟩, by omega, by omega⟩
def isK (B : Nat → Int) (nb : Nat) (v : RV) (k t : Nat) : Bool := !(decide (k = 0) && decide (t = 0)) && !fre B nb (pX v k t) (pY v k t) (pX v k t) (pY v k t)
def isS (B : Nat → Int) (nb : Nat) (v : RV) (k : Nat) : Bool := anyN (isK B nb v k) (lenS v k)
section U1
variable {F : Nat} {τ : MS} {c nb nl : Nat} {cp : Int32} {E Q : Nat → Int32} {R : Nat → Option RV} {v : RV}
theorem rd_m (hP : Cpl (ms_row τ) nb nl cp E Q R) (hc : c < nl) (hv : R c = some v) (hn : v.2.1 ≤ 66) : fm_of F τ (I c) 6 = some 1 ∧ fm_of F τ (I c) 7 = some v.1 ∧ fm_of F τ (I c) 8 = some (I v.2.1) ∧ ∀ k, k < v.2.1 → fm_cornerX F τ (I c) (I k) = some (I (rX v k)) ∧ fm_cornerY F τ (I c) (I k) = some (I (rY v k)) := by
  have hnl := hP.2.1
  have h := hP.2.2.2.2.2.2.2 c hc
  rw [hv] at h
  obtain ⟨h1, h2, h3, h4, h5⟩ := h
  refine ⟨?_, ?_, ?_, fun k hk => ?_⟩
  · exact (sm_of c 6 (by omega) (by omega)).trans (congrArg some h1)
  · exact (sm_of c 7 (by omega) (by omega)).trans (congrArg some h2)
  · exact (sm_of c 8 (by omega) (by omega)).trans (congrArg some h4)
  · obtain ⟨g1, g2⟩ := sm_cx (F := F) (τ := τ) (c := c) (f := ms_row τ) k (by omega) (by omega)
    obtain ⟨g3, g4⟩ := h5 k hk
    have g3' : ms_row τ (35 + 169 * c + (9 + 2 * k)) = v.2.2.1 k := g3
    have g4' : ms_row τ (35 + 169 * c + (10 + 2 * k)) = v.2.2.2 k := g4
    rw [g3', rX_I] at g1
    rw [g4', rY_I] at g2
    exact ⟨g1, g2⟩
theorem rd_n (hP : Cpl (ms_row τ) nb nl cp E Q R) (hc : c < nl) (hv : R c = none) : fm_of F τ (I c) 6 = some 0 := by
  have hnl := hP.2.1
  have h := hP.2.2.2.2.2.2.2 c hc
  rw [hv] at h
  exact (sm_of c 6 (by omega) (by omega)).trans (congrArg some h)
theorem sm_has (hP : Cpl (ms_row τ) nb nl cp E Q R) (hc : c < nl) (hn : ∀ v, R c = some v → v.2.1 ≤ 66) : fm_hasRoute F τ (I c) = some (b2 (R c).isSome) := by
  unfold fm_hasRoute fm_hasRoute_L16
  cases hq : R c with
  | none => rw [rd_n hP hc hq, bd_s]; rfl
  | some v => rw [(rd_m (F := F) hP hc hq (hn v hq)).1, bd_s]; rfl
theorem sm_seg (hF : 1000 ≤ F) (hP : Cpl (ms_row τ) nb nl cp E Q R) (hB : ∀ k, k < nb → BxB (bxI E) k) (hc : c < nl) (hv : R c = some v) (hr : RtI v) {k : Nat} (hk : k + 1 < v.2.1) (k97 : Int32 → Int32 → Int32 → Int32 → Option Int32) (x2 : Int32) : fm_isTouched_L169 F τ k97 (I c) x2 0 (I k) (I (rX v k)) (I (rY v k)) (I (dX v k)) (I (dY v k)) (b2 (decide (k = 0))) = k97 (I c) x2 (b2 (isS (bxI E) nb v k)) (I ((k + 1 : Nat) : Int)) := by
  obtain ⟨p1, p2, p3, p4, p5, p6⟩ := pt_st hr hk
  have hnb := hP.1
  obtain ⟨-, -, -, rd⟩ := rd_m (F := F) hP hc hv hr.2.1
  obtain ⟨cx, cy⟩ := rd (k + 1) hk
  have hb := hr.2.2.1 (k + 1) hk
  have e0 : (I c, x2, (0 : Int32), I k, I (rX v k), I (rY v k), I (dX v k), I (dY v k), b2 (decide (k = 0))) = (I c, x2, (0 : Int32), I k, I (pX v k 0), I (pY v k 0), I (dX v k), I (dY v k), b2 (decide (k = 0) && decide ((0 : Nat) = 0))) := by
    rw [p5, p6, decide_eq_true (rfl : (0 : Nat) = 0), Bool.and_true]
  unfold fm_isTouched_L169 fm_isTouched_L171 isS
  rw [e0]
  refine lp_scn (fun fl t => (I c, x2, fl, I k, I (pX v k t), I (pY v k t), I (dX v k), I (dY v k), b2 (decide (k = 0) && decide (t = 0)))) (fun fl => k97 (I c) x2 fl (I ((k + 1 : Nat) : Int))) (isK (bxI E) nb v k) (lenS v k) (fun rec t ht => ?_) (fun rec => ?_) (fun rec t ht => ?_) (by omega)
  · simp only [fm_isTouched_L171_c, show ¬ (1 : Int32) = 0 by decide, if_false, fm_isTouched_L248, lt_r, I_S]
  · obtain ⟨-, -, q3⟩ := p2 (lenS v k) (Nat.le_refl _)
    obtain ⟨q4, q5⟩ := q3.mpr rfl
    simp only [fm_isTouched_L171_c, if_true, I_S, cx, cy, bd_s, q4, q5, fm_isTouched_L248, lt_r]
  · obtain ⟨q1, q2, q3⟩ := p2 t (by omega)
    have hne : ¬ (pX v k t = rX v (k + 1) ∧ pY v k t = rY v (k + 1)) := fun q => by have := q3.mp q; omega
    have hbk := sm_blockerOf (F := F) (by omega) hP hB (x := pX v k t) (y := pY v k t) (by omega) (by omega)
    obtain ⟨s1, s2⟩ := p1 t
    have l203 : fm_isTouched_L203 F τ k97 (fun a b c d e f g h i => rec (a, b, c, d, e, f, g, h, i)) (I c) x2 (I k) (I (pX v k t)) (I (pY v k t)) (I (dX v k)) (I (dY v k)) (b2 (decide (k = 0) && decide (t = 0))) = rec (I c, x2, b2 (isK (bxI E) nb v k t), I k, I (pX v k (t + 1)), I (pY v k (t + 1)), I (dX v k), I (dY v k), b2 (decide (k = 0) && decide (t + 1 = 0))) := by
      have e9 : b2 (decide (k = 0) && decide (t + 1 = 0)) = 0 := by
        rw [decide_eq_false (show ¬ t + 1 = 0 by omega), Bool.and_false]
        rfl
      rw [e9]
      unfold isK
      simp only [fm_isTouched_L203, fm_isTouched_L226, fm_isTouched_L227, hbk, bd_s, fre_fb hnb, lt_r, I_add, s1, s2, b2_0]
      cases (decide (k = 0) && decide (t = 0)) with
      | true => rw [if_neg (by simp)]; rfl
      | false =>
        rw [if_pos rfl]
        cases fre (bxI E) nb (pX v k t) (pY v k t) (pX v k t) (pY v k t) <;> rfl
    have ex : (I (pX v k t) = I (rX v (k + 1))) = (pX v k t = rX v (k + 1)) := I_eq (by omega) (by omega) (by omega) (by omega)
    have ey : (I (pY v k t) = I (rY v (k + 1))) = (pY v k t = rY v (k + 1)) := I_eq (by omega) (by omega) (by omega) (by omega)
    simp only [fm_isTouched_L171_c, if_true, I_S, cx, cy, bd_s, ex, ey]
    by_cases c1 : pX v k t = rX v (k + 1)
    · rw [if_pos c1, if_neg (fun q => hne ⟨c1, q⟩)]
      exact l203
    · rw [if_neg c1]
      exact l203
end U1
/-- a stretch, by coordinates and by steps -/
theorem sg_up {P : Int → Prop} {a b : Int} {s n L : Nat} (hab : b < a) (hL : L = (b - a).natAbs) : (∃ x, b + (if s + 2 = n then 1 else 0) ≤ x ∧ x ≤ a - (if s = 0 then 1 else 0) ∧ P x) ↔ ∃ t : Nat, t ≤ L ∧ (s = 0 → 1 ≤ t) ∧ (s + 2 = n → t + 1 ≤ L) ∧ P (a - t) := by
  obtain ⟨l, e1, h1⟩ : ∃ l : Int, (if s + 2 = n then (1 : Int) else 0) = l ∧ ((s + 2 = n ∧ l = 1) ∨ (¬ s + 2 = n ∧ l = 0)) := by
    by_cases q : s + 2 = n
    · exact ⟨1, if_pos q, Or.inl ⟨q, rfl⟩⟩
    · exact ⟨0, if_neg q, Or.inr ⟨q, rfl⟩⟩
  obtain ⟨f, e2, h2⟩ : ∃ f : Int, (if s = 0 then (1 : Int) else 0) = f ∧ ((s = 0 ∧ f = 1) ∨ (¬ s = 0 ∧ f = 0)) := by
    by_cases q : s = 0
    · exact ⟨1, if_pos q, Or.inl ⟨q, rfl⟩⟩
    · exact ⟨0, if_neg q, Or.inr ⟨q, rfl⟩⟩
  rw [e1, e2]
  constructor
  · rintro ⟨x, x1, x2, x3⟩
    refine ⟨(a - x).toNat, by omega, fun q => by omega, fun q => by omega, ?_⟩
    rw [show a - ((a - x).toNat : Int) = x by omega]
    exact x3
  · rintro ⟨t, t1, t2, t3, t4⟩
    refine ⟨a - t, ?_, ?_, t4⟩
    · rcases h1 with ⟨q, r⟩ | ⟨q, r⟩
      · have := t3 q; omega
      · omega
    · rcases h2 with ⟨q, r⟩ | ⟨q, r⟩
      · have := t2 q; omega
      · omega
theorem sg_dn {P : Int → Prop} {a b : Int} {s n L : Nat} (hab : a < b) (hL : L = (b - a).natAbs) : (∃ x, a + (if s = 0 then 1 else 0) ≤ x ∧ x ≤ b - (if s + 2 = n then 1 else 0) ∧ P x) ↔ ∃ t : Nat, t ≤ L ∧ (s = 0 → 1 ≤ t) ∧ (s + 2 = n → t + 1 ≤ L) ∧ P (a + t) := by
  obtain ⟨l, e1, h1⟩ : ∃ l : Int, (if s + 2 = n then (1 : Int) else 0) = l ∧ ((s + 2 = n ∧ l = 1) ∨ (¬ s + 2 = n ∧ l = 0)) := by
    by_cases q : s + 2 = n
    · exact ⟨1, if_pos q, Or.inl ⟨q, rfl⟩⟩
    · exact ⟨0, if_neg q, Or.inr ⟨q, rfl⟩⟩
  obtain ⟨f, e2, h2⟩ : ∃ f : Int, (if s = 0 then (1 : Int) else 0) = f ∧ ((s = 0 ∧ f = 1) ∨ (¬ s = 0 ∧ f = 0)) := by
    by_cases q : s = 0
    · exact ⟨1, if_pos q, Or.inl ⟨q, rfl⟩⟩
    · exact ⟨0, if_neg q, Or.inr ⟨q, rfl⟩⟩
  rw [e1, e2]
  constructor
  · rintro ⟨x, x1, x2, x3⟩
    refine ⟨(x - a).toNat, by omega, fun q => by omega, fun q => by omega, ?_⟩
    rw [show a + ((x - a).toNat : Int) = x by omega]
    exact x3
  · rintro ⟨t, t1, t2, t3, t4⟩
    refine ⟨a + t, ?_, ?_, t4⟩
    · rcases h2 with ⟨q, r⟩ | ⟨q, r⟩
      · have := t2 q; omega
      · omega
    · rcases h1 with ⟨q, r⟩ | ⟨q, r⟩
      · have := t3 q; omega
      · omega
theorem sg_le {a b : Int} {s n : Nat} (hab : a ≠ b) (h2 : s = 0 → s + 2 = n → 2 ≤ (b - a).natAbs) : (b < a → b + (if s + 2 = n then 1 else 0) ≤ a - (if s = 0 then 1 else 0)) ∧ (a < b → a + (if s = 0 then 1 else 0) ≤ b - (if s + 2 = n then 1 else 0)) := by
  by_cases q : s + 2 = n
  · by_cases r : s = 0
    · have := h2 r q
      rw [if_pos q, if_pos r]
      constructor <;> intro z <;> omega
    · rw [if_pos q, if_neg r]
      constructor <;> intro z <;> omega
  · by_cases r : s = 0
    · rw [if_neg q, if_pos r]
      constructor <;> intro z <;> omega
    · rw [if_neg q, if_neg r]
      constructor <;> intro z <;> omega
/-- blocked points of all segments are the same ones -/
theorem bk_eq {B : Nat → Int} {nb : Nat} {v : RV} (hB : ∀ k, k < nb → BxB B k) (hr : RtI v) : anyN (bkB B nb v) (v.2.1 - 1) = anyN (isS B nb v) (v.2.1 - 1) := by
  have hfx : ∀ (x0 x1 y : Int), x0 ≤ x1 → (anyN (blk B x0 y x1 y) nb = true ↔ ∃ x, x0 ≤ x ∧ x ≤ x1 ∧ fre B nb x y x y = false) := fun x0 x1 y h => by
    rw [anyN_ex]
    constructor
    · rintro ⟨k, hk, hb⟩
      simp only [blk, Bool.and_eq_true, decide_eq_true_eq] at hb
      obtain ⟨⟨q2, q3, q4⟩, q5, q6, q7⟩ := hB k hk
      rcases Int.le_total x0 (B (4 * k)) with c | c
      · refine ⟨B (4 * k), c, by omega, ?_⟩
        cases hf : fre B nb (B (4 * k)) y (B (4 * k)) y with
        | false => rfl
        | true => exact absurd (by omega) (fre_iff.mp hf k hk)
      · refine ⟨x0, by omega, h, ?_⟩
        cases hf : fre B nb x0 y x0 y with
        | false => rfl
        | true => exact absurd (by omega) (fre_iff.mp hf k hk)
    · rintro ⟨x, h1, h2, h3⟩
      unfold fre at h3
      rw [Bool.not_eq_false'] at h3
      obtain ⟨k, hk, hb⟩ := anyN_ex.mp h3
      refine ⟨k, hk, ?_⟩
      simp only [blk, Bool.and_eq_true, decide_eq_true_eq] at hb ⊢
      omega
  have hfy : ∀ (y0 y1 x : Int), y0 ≤ y1 → (anyN (blk B x y0 x y1) nb = true ↔ ∃ y, y0 ≤ y ∧ y ≤ y1 ∧ fre B nb x y x y = false) := fun y0 y1 x h => by
    rw [anyN_ex]
    constructor
    · rintro ⟨k, hk, hb⟩
      simp only [blk, Bool.and_eq_true, decide_eq_true_eq] at hb
      obtain ⟨⟨q2, q3, q4⟩, q5, q6, q7⟩ := hB k hk
      rcases Int.le_total y0 (B (4 * k + 1)) with c | c
      · refine ⟨B (4 * k + 1), c, by omega, ?_⟩
        cases hf : fre B nb x (B (4 * k + 1)) x (B (4 * k + 1)) with
        | false => rfl
        | true => exact absurd (by omega) (fre_iff.mp hf k hk)
      · refine ⟨y0, by omega, h, ?_⟩
        cases hf : fre B nb x y0 x y0 with
        | false => rfl
        | true => exact absurd (by omega) (fre_iff.mp hf k hk)
    · rintro ⟨y, h1, h2, h3⟩
      unfold fre at h3
      rw [Bool.not_eq_false'] at h3
      obtain ⟨k, hk, hb⟩ := anyN_ex.mp h3
      refine ⟨k, hk, ?_⟩
      simp only [blk, Bool.and_eq_true, decide_eq_true_eq] at hb ⊢
      omega
  have key : ∀ s, s + 1 < v.2.1 → (bkB B nb v s = true ↔ ∃ t : Nat, t ≤ lenS v s ∧ (s = 0 → 1 ≤ t) ∧ (s + 2 = v.2.1 → t + 1 ≤ lenS v s) ∧ fre B nb (pX v s t) (pY v s t) (pX v s t) (pY v s t) = false) := fun s hs => by
    obtain ⟨h1, h2, h3, h4, -, h6⟩ := id hr
    have a1 := h3 s (by omega)
    have a2 := h3 (s + 1) hs
    have a3 := h4 s hs
    have hsp : s = 0 → s + 2 = v.2.1 → 2 ≤ lenS v s := fun z1 z2 => by
      subst z1
      have := h6 (by omega)
      unfold lenS
      show 2 ≤ (rX v 1 - rX v 0).natAbs + (rY v 1 - rY v 0).natAbs
      omega
    by_cases hl : rY v s = rY v (s + 1)
    · have hlv : lvB v s = true := decide_eq_true hl
      have hxne : ¬ rX v s = rX v (s + 1) := a3.mp hl
      unfold bkB
      rw [if_pos hlv]
      have eli : liS v s = rY v s := if_pos hlv
      have elo : loS v s = min (rX v s) (rX v (s + 1)) := if_pos hlv
      have ehi : hiS v s = max (rX v s) (rX v (s + 1)) := if_pos hlv
      have eup : upB v s = decide (rX v (s + 1) < rX v s) := if_pos hlv
      have eq_ : ∀ t, pY v s t = rY v s := fun t => by
        unfold pY dY sgn
        rw [show rY v (s + 1) - rY v s = 0 by omega]
        rfl
      have hlen : lenS v s = (rX v (s + 1) - rX v s).natAbs := by
        unfold lenS
        omega
      rw [eli]
      have hle := sg_le (a := rX v s) (b := rX v (s + 1)) (s := s) (n := v.2.1) hxne (fun z1 z2 => by have := hsp z1 z2; omega)
      by_cases hu : rX v (s + 1) < rX v s
      · have ep : ∀ t : Nat, pX v s t = rX v s - t := fun t => by
          unfold pX dX sgn
          rw [if_neg (show ¬ 0 < rX v (s + 1) - rX v s by omega), if_pos (show rX v (s + 1) - rX v s < 0 by omega)]
          rfl
        have efr : frT v s = rX v (s + 1) + if s + 2 = v.2.1 then 1 else 0 := by
          unfold frT
          rw [eup, decide_eq_true hu, elo]
          simp only [if_true, decide_eq_true_eq]
          rw [show min (rX v s) (rX v (s + 1)) = rX v (s + 1) by omega]
        have eto : toT v s = rX v s - if s = 0 then 1 else 0 := by
          unfold toT
          rw [eup, decide_eq_true hu, ehi]
          simp only [if_true, decide_eq_true_eq]
          rw [show max (rX v s) (rX v (s + 1)) = rX v s by omega]
        rw [efr, eto, hfx _ _ _ (hle.1 hu)]
        simp only [ep, eq_]
        exact sg_up (P := fun x => fre B nb x (rY v s) x (rY v s) = false) hu hlen
      · have hu2 : rX v s < rX v (s + 1) := by omega
        have ep : ∀ t : Nat, pX v s t = rX v s + t := fun t => by
          unfold pX dX sgn
          rw [if_pos (show 0 < rX v (s + 1) - rX v s by omega)]
          rfl
        have efr : frT v s = rX v s + if s = 0 then 1 else 0 := by
          unfold frT
          rw [eup, decide_eq_false hu, elo]
          simp only [Bool.false_eq_true, if_false, decide_eq_true_eq]
          rw [show min (rX v s) (rX v (s + 1)) = rX v s by omega]
        have eto : toT v s = rX v (s + 1) - if s + 2 = v.2.1 then 1 else 0 := by
          unfold toT
          rw [eup, decide_eq_false hu, ehi]
          simp only [Bool.false_eq_true, if_false, decide_eq_true_eq]
          rw [show max (rX v s) (rX v (s + 1)) = rX v (s + 1) by omega]
        rw [efr, eto, hfx _ _ _ (hle.2 hu2)]
        simp only [ep, eq_]
        exact sg_dn (P := fun x => fre B nb x (rY v s) x (rY v s) = false) hu2 hlen
    · have hlv : ¬ lvB v s = true := by unfold lvB; simpa using hl
      have hxe : rX v s = rX v (s + 1) := Decidable.byContradiction fun q => hl (a3.mpr q)
      unfold bkB
      rw [if_neg hlv]
      have eli : liS v s = rX v s := if_neg hlv
      have elo : loS v s = min (rY v s) (rY v (s + 1)) := if_neg hlv
      have ehi : hiS v s = max (rY v s) (rY v (s + 1)) := if_neg hlv
      have eup : upB v s = decide (rY v (s + 1) < rY v s) := if_neg hlv
      have eq_ : ∀ t, pX v s t = rX v s := fun t => by
        unfold pX dX sgn
        rw [show rX v (s + 1) - rX v s = 0 by omega]
        rfl
      have hlen : lenS v s = (rY v (s + 1) - rY v s).natAbs := by
        unfold lenS
        omega
      rw [eli]
      have hle := sg_le (a := rY v s) (b := rY v (s + 1)) (s := s) (n := v.2.1) hl (fun z1 z2 => by have := hsp z1 z2; omega)
      by_cases hu : rY v (s + 1) < rY v s
      · have ep : ∀ t : Nat, pY v s t = rY v s - t := fun t => by
          unfold pY dY sgn
          rw [if_neg (show ¬ 0 < rY v (s + 1) - rY v s by omega), if_pos (show rY v (s + 1) - rY v s < 0 by omega)]
          rfl
        have efr : frT v s = rY v (s + 1) + if s + 2 = v.2.1 then 1 else 0 := by
          unfold frT
          rw [eup, decide_eq_true hu, elo]
          simp only [if_true, decide_eq_true_eq]
          rw [show min (rY v s) (rY v (s + 1)) = rY v (s + 1) by omega]
        have eto : toT v s = rY v s - if s = 0 then 1 else 0 := by
          unfold toT
          rw [eup, decide_eq_true hu, ehi]
          simp only [if_true, decide_eq_true_eq]
          rw [show max (rY v s) (rY v (s + 1)) = rY v s by omega]
        rw [efr, eto, hfy _ _ _ (hle.1 hu)]
        simp only [ep, eq_]
        exact sg_up (P := fun x => fre B nb (rX v s) x (rX v s) x = false) hu hlen
      · have hu2 : rY v s < rY v (s + 1) := by omega
        have ep : ∀ t : Nat, pY v s t = rY v s + t := fun t => by
          unfold pY dY sgn
          rw [if_pos (show 0 < rY v (s + 1) - rY v s by omega)]
          rfl
        have efr : frT v s = rY v s + if s = 0 then 1 else 0 := by
          unfold frT
          rw [eup, decide_eq_false hu, elo]
          simp only [Bool.false_eq_true, if_false, decide_eq_true_eq]
          rw [show min (rY v s) (rY v (s + 1)) = rY v s by omega]
        have eto : toT v s = rY v (s + 1) - if s + 2 = v.2.1 then 1 else 0 := by
          unfold toT
          rw [eup, decide_eq_false hu, ehi]
          simp only [Bool.false_eq_true, if_false, decide_eq_true_eq]
          rw [show max (rY v s) (rY v (s + 1)) = rY v (s + 1) by omega]
        rw [efr, eto, hfy _ _ _ (hle.2 hu2)]
        simp only [ep, eq_]
        exact sg_dn (P := fun x => fre B nb (rX v s) x (rX v s) x = false) hu2 hlen
  have hisS : ∀ s, isS B nb v s = true ↔ ∃ t : Nat, t < lenS v s ∧ ¬ (s = 0 ∧ t = 0) ∧ fre B nb (pX v s t) (pY v s t) (pX v s t) (pY v s t) = false := fun s => by
    unfold isS
    rw [anyN_ex]
    unfold isK
    constructor
    · rintro ⟨t, t1, t2⟩
      rw [Bool.and_eq_true, Bool.not_eq_true', Bool.not_eq_true', Bool.and_eq_false_iff, decide_eq_false_iff_not, decide_eq_false_iff_not] at t2
      exact ⟨t, t1, by omega, t2.2⟩
    · rintro ⟨t, t1, t2, t3⟩
      refine ⟨t, t1, ?_⟩
      rw [Bool.and_eq_true, Bool.not_eq_true', Bool.not_eq_true', Bool.and_eq_false_iff, decide_eq_false_iff_not, decide_eq_false_iff_not]
      exact ⟨by omega, t3⟩
  rw [Bool.eq_iff_iff, anyN_ex, anyN_ex]
  constructor
  · rintro ⟨s, hs, hb⟩
    obtain ⟨t, t1, t2, t3, t4⟩ := (key s (by omega)).mp hb
    by_cases q : t = lenS v s
    · have hs2 : s + 2 < v.2.1 := by
        rcases Nat.lt_or_ge (s + 2) v.2.1 with z | z
        · exact z
        · have := t3 (by omega)
          omega
      refine ⟨s + 1, by omega, (hisS (s + 1)).mpr ⟨0, ?_, by omega, ?_⟩⟩
      · exact (pt_st hr (k := s + 1) (by omega)).2.2.1
      · obtain ⟨-, p2, -⟩ := pt_st hr (k := s) (by omega)
        obtain ⟨-, -, -, -, p5, p6⟩ := pt_st hr (k := s + 1) (by omega)
        obtain ⟨q4, q5⟩ := (p2 t t1).2.2.mpr q
        rw [p5, p6, ← q4, ← q5]
        exact t4
    · exact ⟨s, hs, (hisS s).mpr ⟨t, by omega, fun z => by have := t2 z.1; omega, t4⟩⟩
  · rintro ⟨s, hs, hb⟩
    obtain ⟨t, t1, t2, t3⟩ := (hisS s).mp hb
    exact ⟨s, hs, (key s (by omega)).mpr ⟨t, by omega, fun z => by omega, fun z => by omega, t3⟩⟩
