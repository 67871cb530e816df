/-! lanes: the reference closes over collisions -/
section N4
variable {F : Nat} {τ τ0 τ' : MS} {R : Nat → Option RV} {nl q0 n b : Nat} {B : Nat → Nat} {U : Nat → Bool}
def RbU (τ0 : MS) (B : Nat → Nat) (n : Nat) (τ : MS) (U : Nat → Bool) : Prop := Kr τ0 τ ∧ ms_inners τ = I n ∧ (∀ j, j < n → ms_inner τ j = I (B j)) ∧ (∀ j, j < n → ms_isIn τ j = b2 (U j))
theorem RbU.set (h : RbU τ0 B n τ U) {k : Nat} (hk : k < n) (hn : n ≤ 800) : RbU τ0 B n (st_isIn τ (I k) 1) (updB U k) := by
  obtain ⟨h1, h2, h3, h4⟩ := h
  have n6 : (I ((k : Nat) : Int)).toNatClampNeg = k := by rw [I_cl (by omega) (by omega)]; omega
  refine ⟨h1.tr (Kr_isIn _), h2, h3, fun j hj => ?_⟩
  show upd (ms_isIn τ) (I ((k : Nat) : Int)).toNatClampNeg 1 j = b2 (updB U k j)
  rw [n6]
  unfold upd updB
  by_cases ej : j = k
  · rw [if_pos ej, if_pos ej]
    rfl
  · rw [if_neg ej, if_neg ej]
    exact h4 j hj
theorem rb_in (hF : 10000 ≤ F) (hn : n ≤ 800) (hM : LnQ F τ R nl) (hu : RbU τ0 B n τ U) (hB : ∀ j, j < n → InQ R nl (B j)) {k : Nat} (hk : k < n) (x2 : Int32) (k96 : MS → Int32 → Option (Int32 × MS)) (k104 : MS → Int32 → Int32 → Option (Int32 × MS)) : ∃ f : Bool, fm_bundles_L115 F k96 k104 F τ x2 (I k) 0 = (if f = true then k104 (st_isIn τ (I k) 1) 1 (I ((k + 1 : Nat) : Int)) else k104 τ x2 (I ((k + 1 : Nat) : Int))) ∧ (f = true → U k = false ∧ ∃ i, i < n ∧ U i = true ∧ coQ R (B k) (B i) = true) ∧ (f = false → U k = false → ∀ i, i < n → U i = true → coQ R (B k) (B i) = false) := by
  obtain ⟨u1, u2, u3, u4⟩ := id hu
  have ixk : ix (I ((k : Nat) : Int)) 800 = true := of_eq_true (I_ix (by omega) (by omega) (by omega))
  have n6 : (I ((k : Nat) : Int)).toNatClampNeg = k := by rw [I_cl (by omega) (by omega)]; omega
  cases hUk : U k with
  | true =>
    refine ⟨false, ?_, fun z => (by cases z), fun _ z => (by cases z)⟩
    have key : ∀ K : Nat, 1 ≤ K → fm_bundles_L115 F k96 k104 K τ x2 (I k) 0 = k104 τ x2 (I ((k + 1 : Nat) : Int)) := fun K hK => by
      obtain ⟨K9, rfl⟩ : ∃ K9, K = K9 + 1 := ⟨K - 1, by omega⟩
      show fm_bundles_L115_c F k96 k104 (fm_bundles_L115 F k96 k104 K9) τ x2 (I k) 0 = _
      have z1 : ¬ I ((n : Nat) : Int) ≤ 0 := by rw [I_0, I_le] <;> omega
      unfold fm_bundles_L115_c fm_bundles_L178
      rw [u2, if_neg z1, gd_t ixk, n6, u4 k hk, hUk, if_neg (show ¬ b2 true = 0 by decide), lt_r, I_S]
    rw [if_neg (by decide)]
    exact key F (by omega)
  | false =>
    have key : ∀ (d i K : Nat), i + d = n → d + 1 < K → (∀ j, j < i → U j = true → coQ R (B k) (B j) = false) → ∃ f : Bool, fm_bundles_L115 F k96 k104 K τ x2 (I k) (I i) = (if f = true then k104 (st_isIn τ (I k) 1) 1 (I ((k + 1 : Nat) : Int)) else k104 τ x2 (I ((k + 1 : Nat) : Int))) ∧ (f = true → ∃ i, i < n ∧ U i = true ∧ coQ R (B k) (B i) = true) ∧ (f = false → ∀ i, i < n → U i = true → coQ R (B k) (B i) = false) := by
      intro d
      induction d with
      | zero =>
        intro i K hd hK hno
        obtain ⟨K9, rfl⟩ : ∃ K9, K = K9 + 1 := ⟨K - 1, by omega⟩
        have z1 : I ((n : Nat) : Int) ≤ I ((i : Nat) : Int) := by rw [I_le] <;> omega
        refine ⟨false, ?_, fun z => (by cases z), fun _ j hj => hno j (by omega)⟩
        show fm_bundles_L115_c F k96 k104 (fm_bundles_L115 F k96 k104 K9) τ x2 (I k) (I i) = _
        unfold fm_bundles_L115_c fm_bundles_L178
        rw [u2, if_pos z1, lt_r, I_S, if_neg (by decide)]
      | succ d ih =>
        intro i K hd hK hno
        obtain ⟨K9, rfl⟩ : ∃ K9, K = K9 + 2 := ⟨K - 2, by omega⟩
        have hi : i < n := by omega
        have z1 : ¬ I ((n : Nat) : Int) ≤ I ((i : Nat) : Int) := by rw [I_le] <;> omega
        have ixi : ix (I ((i : Nat) : Int)) 800 = true := of_eq_true (I_ix (by omega) (by omega) (by omega))
        have n7 : (I ((i : Nat) : Int)).toNatClampNeg = i := by rw [I_cl (by omega) (by omega)]; omega
        have em : fm_bundles_L115 F k96 k104 (K9 + 2) τ x2 (I k) (I i) = if b2 (U i) = 0 then fm_bundles_L115 F k96 k104 (K9 + 1) τ x2 (I k) (I ((i + 1 : Nat) : Int)) else if b2 (coQ R (B k) (B i)) = 0 then fm_bundles_L115 F k96 k104 (K9 + 1) τ x2 (I k) (I ((i + 1 : Nat) : Int)) else fm_bundles_L115 F k96 k104 (K9 + 1) (st_isIn τ (I k) 1) 1 (I k) (I ((i + 1 : Nat) : Int)) := by
          show fm_bundles_L115_c F k96 k104 (fm_bundles_L115 F k96 k104 (K9 + 1)) τ x2 (I k) (I i) = _
          unfold fm_bundles_L115_c fm_bundles_L172
          rw [u2, if_neg z1, gd_t ixk, n6, u4 k hk, hUk, if_pos (show b2 false = 0 from rfl), gd_t ixi, n7, u4 i hi, gd_t ixk, gd_t ixi, u3 k hk, u3 i hi, rm_col hM (hB k hk) (hB i hi), bd_s, gd_t ixk, lt_r, lt_r, lt_r, I_S]
        rw [em]
        cases hUi : U i with
        | false =>
          rw [if_pos (show b2 false = 0 from rfl)]
          refine ih (i + 1) (K9 + 1) (by omega) (by omega) fun j hj hUj => ?_
          by_cases ej : j = i
          · rw [ej, hUi] at hUj
            cases hUj
          · exact hno j (by omega) hUj
        | true =>
          rw [if_neg (show ¬ b2 true = 0 by decide)]
          cases hc : coQ R (B k) (B i) with
          | false =>
            rw [if_pos (show b2 false = 0 from rfl)]
            refine ih (i + 1) (K9 + 1) (by omega) (by omega) fun j hj hUj => ?_
            by_cases ej : j = i
            · rw [ej]
              exact hc
            · exact hno j (by omega) hUj
          | true =>
            rw [if_neg (show ¬ b2 true = 0 by decide)]
            refine ⟨true, ?_, fun _ => ⟨i, hi, hUi, hc⟩, fun z => (by cases z)⟩
            show fm_bundles_L115_c F k96 k104 (fm_bundles_L115 F k96 k104 K9) (st_isIn τ (I k) 1) 1 (I k) (I ((i + 1 : Nat) : Int)) = _
            have c1 : ms_inners (st_isIn τ (I k) 1) = I n := u2
            have c2 : ms_isIn (st_isIn τ (I k) 1) k = 1 := by
              show upd (ms_isIn τ) (I ((k : Nat) : Int)).toNatClampNeg 1 k = 1
              rw [n6]
              exact if_pos rfl
            unfold fm_bundles_L115_c fm_bundles_L178
            rw [c1, lt_r, I_S, if_pos (rfl : true = true)]
            by_cases z2 : I ((n : Nat) : Int) ≤ I ((i + 1 : Nat) : Int)
            · rw [if_pos z2]
            · rw [if_neg z2, gd_t ixk, n6, c2, if_neg (show ¬ (1 : Int32) = 0 by decide)]
    obtain ⟨f, f1, f2, f3⟩ := key n 0 F (by omega) (by omega) (fun j hj => absurd hj (Nat.not_lt_zero _))
    exact ⟨f, f1, fun z => ⟨rfl, f2 z⟩, fun z _ => f3 z⟩
/-- a pass over all -/
def PsI (cl : Nat → Nat → Bool) (n : Nat) (U0 U : Nat → Bool) (mo : Bool) (k : Nat) : Prop := (∀ j, U0 j = true → U j = true) ∧ (mo = false → (∀ j, U j = U0 j) ∧ ∀ j, j < k → U0 j = false → ∀ i, i < n → U0 i = true → cl j i = false) ∧ (mo = true → cntN U0 n < cntN U n)
theorem PsI.zero {cl : Nat → Nat → Bool} : PsI cl n U U false 0 := ⟨fun _ h => h, fun _ => ⟨fun _ => rfl, fun j hj => absurd hj (Nat.not_lt_zero _)⟩, fun h => (by cases h)⟩
theorem PsI.keep {cl : Nat → Nat → Bool} {U0 : Nat → Bool} {mo : Bool} {k : Nat} (h : PsI cl n U0 U mo k) (hk : U k = false → ∀ i, i < n → U i = true → cl k i = false) : PsI cl n U0 U mo (k + 1) := by
  obtain ⟨h1, h2, h3⟩ := h
  refine ⟨h1, fun hm => ?_, h3⟩
  obtain ⟨g1, g2⟩ := h2 hm
  refine ⟨g1, fun j hj hj0 i hi hi0 => ?_⟩
  by_cases e : j = k
  · rw [e] at hj0 ⊢
    exact hk (by rw [g1 k]; exact hj0) i hi (by rw [g1 i]; exact hi0)
  · exact g2 j (by omega) hj0 i hi hi0
theorem PsI.set {cl : Nat → Nat → Bool} {U0 : Nat → Bool} {mo : Bool} {k : Nat} (h : PsI cl n U0 U mo k) (hk : k < n) (hU : U k = false) : PsI cl n U0 (updB U k) true (k + 1) := by
  obtain ⟨h1, h2, h3⟩ := h
  have hc : cntN (updB U k) n = cntN U n + 1 := cnt_flip hU (if_pos rfl) (fun j hj => if_neg hj) n hk
  refine ⟨fun j hj => ?_, fun hm => (by cases hm), fun _ => ?_⟩
  · unfold updB
    by_cases e : j = k
    · rw [if_pos e]
    · rw [if_neg e]
      exact h1 j hj
  · rw [hc]
    cases mo with
    | false =>
      rw [cnt_cg n (fun j _ => (h2 rfl).1 j)]
      omega
    | true =>
      have := h3 rfl
      omega
theorem rb_pass (hF : 10000 ≤ F) (hn : n ≤ 800) (hM : ∀ τ9, Kr τ0 τ9 → LnQ F τ9 R nl) (hB : ∀ j, j < n → InQ R nl (B j)) {U0 : Nat → Bool} (k96 : MS → Int32 → Option (Int32 × MS)) : ∀ (d k N : Nat) (τ : MS) (U : Nat → Bool) (mo : Bool), k + d = n → d < N → RbU τ0 B n τ U → PsI (fun i j => coQ R (B i) (B j)) n U0 U mo k → (∀ j, j < n → U j = true → Rq R nl q0 (B j)) → ∃ (τ9 : MS) (U9 : Nat → Bool) (mo9 : Bool), fm_bundles_L104 F k96 N τ (b2 mo) (I k) = k96 τ9 (b2 mo9) ∧ RbU τ0 B n τ9 U9 ∧ PsI (fun i j => coQ R (B i) (B j)) n U0 U9 mo9 n ∧ (∀ j, j < n → U9 j = true → Rq R nl q0 (B j)) := by
  intro d
  induction d with
  | zero =>
    intro k N τ U mo hd hN hu hp hr
    obtain ⟨N9, rfl⟩ : ∃ N9, N = N9 + 1 := ⟨N - 1, by omega⟩
    have e : k = n := by omega
    subst e
    refine ⟨τ, U, mo, ?_, hu, hp, hr⟩
    show fm_bundles_L104_c F k96 (fm_bundles_L104 F k96 N9) τ (b2 mo) (I k) = _
    unfold fm_bundles_L104_c
    rw [hu.2.1, if_pos (i_rf _)]
  | succ d ih =>
    intro k N τ U mo hd hN hu hp hr
    obtain ⟨N9, rfl⟩ : ∃ N9, N = N9 + 1 := ⟨N - 1, by omega⟩
    have hk : k < n := by omega
    have z1 : ¬ I ((n : Nat) : Int) ≤ I ((k : Nat) : Int) := by rw [I_le] <;> omega
    have em : fm_bundles_L104 F k96 (N9 + 1) τ (b2 mo) (I k) = fm_bundles_L115 F k96 (fm_bundles_L104 F k96 N9) F τ (b2 mo) (I k) 0 := by
      show fm_bundles_L104_c F k96 (fm_bundles_L104 F k96 N9) τ (b2 mo) (I k) = _
      unfold fm_bundles_L104_c
      rw [hu.2.1, if_neg z1]
    obtain ⟨f, f1, f2, f3⟩ := rb_in (F := F) hF hn (hM τ hu.1) hu hB hk (b2 mo) k96 (fm_bundles_L104 F k96 N9)
    rw [em, f1]
    cases f with
    | true =>
      obtain ⟨g1, i, g2, g3, g4⟩ := f2 rfl
      rw [if_pos rfl]
      refine ih (k + 1) N9 _ (updB U k) true (by omega) (by omega) (hu.set hk hn) (hp.set hk g1) fun j hj hUj => ?_
      by_cases e : j = k
      · rw [e]
        exact (hr i g2 g3).go (hB k hk) g4
      · exact hr j hj (by
          have e2 : updB U k j = U j := if_neg e
          rw [← e2]
          exact hUj)
    | false =>
      rw [if_neg (by decide)]
      exact ih (k + 1) N9 τ U mo (by omega) (by omega) hu (hp.keep (f3 rfl)) hr
theorem rb_while (hF : 10000 ≤ F) (hn : n ≤ 800) (hM : ∀ τ9, Kr τ0 τ9 → LnQ F τ9 R nl) (hB : ∀ j, j < n → InQ R nl (B j)) : ∀ (d N : Nat) (τ : MS) (U : Nat → Bool), n - cntN U n ≤ d → d + 1 < N → RbU τ0 B n τ U → (∀ j, j < n → U j = true → Rq R nl q0 (B j)) → ∃ (τ9 : MS) (U9 : Nat → Bool), fm_bundles_L96 F N τ 1 = bd2 (fm_lays_ F τ9) (fun r s => some (r, s)) ∧ RbU τ0 B n τ9 U9 ∧ (∀ j, U j = true → U9 j = true) ∧ (∀ j, j < n → U9 j = true → Rq R nl q0 (B j)) ∧ (∀ j, j < n → U9 j = false → ∀ i, i < n → U9 i = true → coQ R (B j) (B i) = false) := by
  intro d
  induction d with
  | zero =>
    intro N τ U hd hN hu hr
    obtain ⟨N9, rfl⟩ : ∃ N9, N = N9 + 2 := ⟨N - 2, by omega⟩
    have em : fm_bundles_L96 F (N9 + 2) τ 1 = fm_bundles_L104 F (fm_bundles_L96 F (N9 + 1)) F τ 0 0 := by
      show fm_bundles_L96_c F (fm_bundles_L96 F (N9 + 1)) τ 1 = _
      unfold fm_bundles_L96_c
      rw [if_neg (show ¬ (1 : Int32) = 0 by decide)]
    obtain ⟨τ9, U9, mo9, j1, j2, j3, j4⟩ := rb_pass (F := F) (q0 := q0) hF hn hM hB (U0 := U) (fm_bundles_L96 F (N9 + 1)) n 0 F τ U false (by omega) (by omega) hu PsI.zero hr
    have j1' : fm_bundles_L104 F (fm_bundles_L96 F (N9 + 1)) F τ 0 0 = fm_bundles_L96 F (N9 + 1) τ9 (b2 mo9) := j1
    rw [em, j1']
    cases mo9 with
    | true =>
      have g1 := j3.2.2 rfl
      have g2 := cnt_le U9 n
      omega
    | false =>
      obtain ⟨g1, g2⟩ := j3.2.1 rfl
      refine ⟨τ9, U9, ?_, j2, j3.1, j4, fun j hj hj0 i hi hi0 => g2 j hj (by rw [← g1 j]; exact hj0) i hi (by rw [← g1 i]; exact hi0)⟩
      show fm_bundles_L96_c F (fm_bundles_L96 F N9) τ9 0 = _
      unfold fm_bundles_L96_c
      rw [if_pos rfl]
  | succ d ih =>
    intro N τ U hd hN hu hr
    obtain ⟨N9, rfl⟩ : ∃ N9, N = N9 + 2 := ⟨N - 2, by omega⟩
    have em : fm_bundles_L96 F (N9 + 2) τ 1 = fm_bundles_L104 F (fm_bundles_L96 F (N9 + 1)) F τ 0 0 := by
      show fm_bundles_L96_c F (fm_bundles_L96 F (N9 + 1)) τ 1 = _
      unfold fm_bundles_L96_c
      rw [if_neg (show ¬ (1 : Int32) = 0 by decide)]
    obtain ⟨τ9, U9, mo9, j1, j2, j3, j4⟩ := rb_pass (F := F) (q0 := q0) hF hn hM hB (U0 := U) (fm_bundles_L96 F (N9 + 1)) n 0 F τ U false (by omega) (by omega) hu PsI.zero hr
    have j1' : fm_bundles_L104 F (fm_bundles_L96 F (N9 + 1)) F τ 0 0 = fm_bundles_L96 F (N9 + 1) τ9 (b2 mo9) := j1
    rw [em, j1']
    cases mo9 with
    | true =>
      have g1 := j3.2.2 rfl
      have g2 := cnt_le U9 n
      obtain ⟨τ8, U8, r1, r2, r3, r4, r5⟩ := ih (N9 + 1) τ9 U9 (by omega) (by omega) j2 j4
      exact ⟨τ8, U8, r1, r2, fun j hj => r3 j (j3.1 j hj), r4, r5⟩
    | false =>
      obtain ⟨g1, g2⟩ := j3.2.1 rfl
      refine ⟨τ9, U9, ?_, j2, j3.1, j4, fun j hj hj0 i hi hi0 => g2 j hj (by rw [← g1 j]; exact hj0) i hi (by rw [← g1 i]; exact hi0)⟩
      show fm_bundles_L96_c F (fm_bundles_L96 F N9) τ9 0 = _
      unfold fm_bundles_L96_c
      rw [if_pos rfl]
end N4
