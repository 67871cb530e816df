/-! lanes: the reference lays them -/
section N5
variable {F : Nat} {τ τ0 τ' : MS} {R : Nat → Option RV} {nl q0 n b t : Nat} {B : Nat → Nat} {U : Nat → Bool} {L : Nat → Int}
def laM (x : Int) : Int32 := if x < 0 then -1000 else I x
def oNx (o : Option Nat) : Int32 := match o with
  | none => -1000
  | some b => I b
theorem laM_n {x : Int} (h : x < 0) : laM x = -1000 := if_pos h
theorem laM_s {x : Int} (h : 0 ≤ x) : laM x = I x := if_neg (by omega)
theorem laM_e {x : Int} (h : x < 1000) : (laM x = -1000) = (x < 0) := by
  by_cases g : x < 0
  · rw [laM_n g]
    exact propext ⟨fun _ => g, fun _ => rfl⟩
  · rw [laM_s (by omega), show (-1000 : Int32) = I (-1000) from rfl, I_eq (by omega) (by omega) (by omega) (by omega)]
    exact propext ⟨fun z => by omega, fun z => absurd z g⟩
theorem pu_bd {q : Nat} (h : LnQ F τ R nl) (hq : InQ R nl q) : -1000 ≤ puQ R q ∧ puQ R q ≤ 1000 := by
  obtain ⟨a1, -, a2, a3, a4, a5⟩ := hq.rd h
  have k1 := a2.2.2.1 (q % 100 - 1) (by omega)
  have k2 := a2.2.2.1 (q % 100 + 2) (by omega)
  have k3 := a2.2.2.1 (q % 100) (by omega)
  unfold puQ puV
  split <;> omega
def puB (R : Nat → Option RV) (B : Nat → Nat) (k : Nat) : Int := puQ R (B k)
def coB (R : Nat → Option RV) (B : Nat → Nat) (i j : Nat) : Bool := coQ R (B i) (B j)
theorem lay_0 (hF : 10000 ≤ F) (hn : n ≤ 800) : ∀ (d k N : Nat) (τ : MS), k + d = n → d < N → RbU τ0 B n τ U → (∀ j, j < k → ms_laneOf τ j = -1000) → ∃ τ9 : MS, fm_lays__L4 F N τ 0 (I k) = fm_lays__L29 F F τ9 0 1 ∧ RbU τ0 B n τ9 U ∧ ∀ j, j < n → ms_laneOf τ9 j = -1000 := by
  intro d
  induction d with
  | zero =>
    intro k N τ hd hN hu hl
    obtain ⟨N9, rfl⟩ : ∃ N9, N = N9 + 1 := ⟨N - 1, by omega⟩
    have e : k = n := by omega
    subst e
    refine ⟨τ, ?_, hu, hl⟩
    show fm_lays__L4_c F (fm_lays__L4 F N9) τ 0 (I k) = _
    unfold fm_lays__L4_c
    rw [hu.2.1, if_pos (i_rf _)]
  | succ d ih =>
    intro k N τ hd hN hu hl
    obtain ⟨N9, rfl⟩ : ∃ N9, N = N9 + 1 := ⟨N - 1, by omega⟩
    have z1 : ¬ I ((n : Nat) : Int) ≤ I ((k : Nat) : Int) := by rw [I_le] <;> omega
    have ixk : ix (I ((k : Nat) : Int)) 800 = true := of_eq_true (I_ix (by omega) (by omega) (by omega))
    have n6 : (I ((k : Nat) : Int)).toNatClampNeg = k := by rw [I_cl (by omega) (by omega)]; omega
    have em : fm_lays__L4 F (N9 + 1) τ 0 (I k) = fm_lays__L4 F N9 (st_laneOf τ (I k) (-1000)) 0 (I ((k + 1 : Nat) : Int)) := by
      show fm_lays__L4_c F (fm_lays__L4 F N9) τ 0 (I k) = _
      unfold fm_lays__L4_c
      rw [hu.2.1, if_neg z1, gd_t ixk, lt_r, lt_r, I_S]
    rw [em]
    obtain ⟨u1, u2, u3, u4⟩ := hu
    refine ih (k + 1) N9 _ (by omega) (by omega) ⟨u1.tr (Kr_laneOf _), u2, u3, u4⟩ fun j hj => ?_
    show upd (ms_laneOf τ) (I ((k : Nat) : Int)).toNatClampNeg (-1000) j = -1000
    rw [n6]
    unfold upd
    by_cases ej : j = k
    · rw [if_pos ej]
    · rw [if_neg ej]
      exact hl j (by omega)
theorem lay_nx (hF : 10000 ≤ F) (hn : n ≤ 800) (hM : LnQ F τ R nl) (hu : RbU τ0 B n τ U) (hB : ∀ j, j < n → InQ R nl (B j)) (hla : ∀ j, j < n → ms_laneOf τ j = laM (L j)) (hL9 : ∀ j, j < n → L j < 1000) (x1 : Int32) (k29 : MS → Int32 → Int32 → Option (Int32 × MS)) : fm_lays__L40 F k29 F τ x1 (-1000) 0 = if oNx (nxN U (puB R B) L n) = -1000 then fm_lays__L124 F k29 τ x1 (oNx (nxN U (puB R B) L n)) 0 else fm_lays__L124 F k29 τ x1 (oNx (nxN U (puB R B) L n)) 1 := by
  obtain ⟨u1, u2, u3, u4⟩ := id hu
  refine lp_r (fun j => (τ, x1, oNx (nxN U (puB R B) L j), I j)) _ n rfl (by omega) (fun j rec hj => ?_) (fun rec => ?_)
  · have z1 : ¬ I ((n : Nat) : Int) ≤ I ((j : Nat) : Int) := by rw [I_le] <;> omega
    have ixj : ix (I ((j : Nat) : Int)) 800 = true := of_eq_true (I_ix (by omega) (by omega) (by omega))
    have n6 : (I ((j : Nat) : Int)).toNatClampNeg = j := by rw [I_cl (by omega) (by omega)]; omega
    show fm_lays__L40_c F k29 (fun a b c d => rec (a, b, c, d)) τ x1 (oNx (nxN U (puB R B) L j)) (I j) = rec (τ, x1, oNx (nxN U (puB R B) L (j + 1)), I ((j + 1 : Nat) : Int))
    unfold fm_lays__L40_c fm_lays__L103 fm_lays__L106
    rw [u2, if_neg z1, gd_t ixj, n6, u4 j hj, hla j hj, gd_t ixj, gd_t ixj, u3 j hj, rm_pul hM (hB j hj), bd_s, lt_r, lt_r, I_S]
    have hs := nxN_ok (U := U) (p := puB R B) (L := L) j
    have e0 := laM_e (hL9 j hj)
    cases ho : nxN U (puB R B) L j with
    | none =>
      rw [nxN_n ho, if_pos (show oNx none = -1000 from rfl)]
      cases hU : U j with
      | false =>
        rw [if_pos (show b2 false = 0 from rfl), if_neg (fun z => (by cases z.1))]
      | true =>
        rw [if_neg (show ¬ b2 true = 0 by decide)]
        by_cases g : L j < 0
        · rw [if_pos (e0.mpr g), if_pos ⟨rfl, g⟩]
          rfl
        · rw [if_neg (fun z => g (e0.mp z)), if_neg (fun z => g z.2)]
    | some c =>
      rw [ho] at hs
      obtain ⟨s1, s2, s3, s4⟩ := hs
      have hc : c < n := by omega
      have ixc : ix (I ((c : Nat) : Int)) 800 = true := of_eq_true (I_ix (by omega) (by omega) (by omega))
      have n7 : (I ((c : Nat) : Int)).toNatClampNeg = c := by rw [I_cl (by omega) (by omega)]; omega
      have z2 : ¬ oNx (some c) = -1000 := by
        show ¬ I ((c : Nat) : Int) = -1000
        rw [show (-1000 : Int32) = I (-1000) from rfl, I_eq] <;> omega
      have z3 : oNx (some c) = I c := rfl
      rw [nxN_s ho, if_neg z2, z3, gd_t ixc, n7, u3 c hc, rm_pul hM (hB c hc), bd_s]
      obtain ⟨p1, p2⟩ := pu_bd hM (hB j hj)
      obtain ⟨p3, p4⟩ := pu_bd hM (hB c hc)
      have e1 : (I (puQ R (B c)) ≤ I (puQ R (B j))) = (puQ R (B c) ≤ puQ R (B j)) := I_le (by omega) (by omega) (by omega) (by omega)
      cases hU : U j with
      | false =>
        rw [if_pos (show b2 false = 0 from rfl), if_neg (fun z => (by cases z.1))]
        rfl
      | true =>
        rw [if_neg (show ¬ b2 true = 0 by decide)]
        by_cases g : L j < 0
        · rw [if_pos (e0.mpr g)]
          by_cases g2 : puQ R (B c) ≤ puQ R (B j)
          · rw [if_pos (e1.mpr g2), if_neg (fun z => absurd (show puQ R (B j) < puQ R (B c) from z.2.2) (by omega))]
            rfl
          · rw [if_neg (fun z => g2 (e1.mp z)), if_pos ⟨rfl, g, show puQ R (B j) < puQ R (B c) by omega⟩]
            rfl
        · rw [if_neg (fun z => g (e0.mp z)), if_neg (fun z => g z.2.1)]
          rfl
  · show fm_lays__L40_c F k29 (fun a b c d => rec (a, b, c, d)) τ x1 (oNx (nxN U (puB R B) L n)) (I n) = _
    unfold fm_lays__L40_c
    rw [u2, if_pos (i_rf _)]
theorem lay_ln (hF : 10000 ≤ F) (hn : n ≤ 800) (hM : LnQ F τ R nl) (hu : RbU τ0 B n τ U) (hB : ∀ j, j < n → InQ R nl (B j)) (hla : ∀ j, j < n → ms_laneOf τ j = laM (L j)) {a : Nat} (ha : a ≤ 800) (hL9 : ∀ j, j < n → L j < a) (hln : ∀ m, m ≤ n → lnN U (coB R B) L t m ≤ a) (ht : t < n) (x1 : Int32) (k29 : MS → Int32 → Int32 → Option (Int32 × MS)) : fm_lays__L135 F k29 F τ x1 1 (I t) 0 0 = if I (lnN U (coB R B) L t n) + 1 ≤ x1 then k29 (st_laneOf τ (I t) (I (lnN U (coB R B) L t n))) x1 1 else k29 (st_laneOf τ (I t) (I (lnN U (coB R B) L t n))) (I (lnN U (coB R B) L t n) + 1) 1 := by
  obtain ⟨u1, u2, u3, u4⟩ := id hu
  have ixt : ix (I ((t : Nat) : Int)) 800 = true := of_eq_true (I_ix (by omega) (by omega) (by omega))
  have n7 : (I ((t : Nat) : Int)).toNatClampNeg = t := by rw [I_cl (by omega) (by omega)]; omega
  refine lp_r (fun j => (τ, x1, 1, I t, I (lnN U (coB R B) L t j), I j)) _ n rfl (by omega) (fun j rec hj => ?_) (fun rec => ?_)
  · have z1 : ¬ I ((n : Nat) : Int) ≤ I ((j : Nat) : Int) := by rw [I_le] <;> omega
    have ixj : ix (I ((j : Nat) : Int)) 800 = true := of_eq_true (I_ix (by omega) (by omega) (by omega))
    have n6 : (I ((j : Nat) : Int)).toNatClampNeg = j := by rw [I_cl (by omega) (by omega)]; omega
    have hLj := hL9 j hj
    have hl1 := (lnN_ok (U := U) (cl := coB R B) (L := L) (t := t) j).1
    have hl2 := hln j (by omega)
    have e0 := laM_e (show L j < 1000 by omega)
    show fm_lays__L135_c F k29 (fun a b c d e f => rec (a, b, c, d, e, f)) τ x1 1 (I t) (I (lnN U (coB R B) L t j)) (I j) = rec (τ, x1, 1, I t, I (lnN U (coB R B) L t (j + 1)), I ((j + 1 : Nat) : Int))
    unfold fm_lays__L135_c fm_lays__L191 fm_lays__L192 fm_lays__L223 fm_lays__L225
    rw [u2, if_neg z1, gd_t ixj, n6, u4 j hj, hla j hj, gd_t ixj, gd_t ixj, gd_t ixt, n7, u3 j hj, u3 t ht, rm_col hM (hB j hj) (hB t ht), bd_s, lt_r, lt_r, I_S, if_pos (show (0 : Int32) = 0 from rfl), if_neg (show ¬ (1 : Int32) = 0 by decide), gd_t ixj, gd_t ixj]
    have eN : lnN U (coB R B) L t (j + 1) = if U j = true ∧ 0 ≤ L j ∧ coB R B j t = true ∧ lnN U (coB R B) L t j ≤ L j then L j + 1 else lnN U (coB R B) L t j := rfl
    rw [eN]
    cases hU : U j with
    | false =>
      rw [if_pos (show b2 false = 0 from rfl), if_neg (fun z => (by cases z.1))]
    | true =>
      rw [if_neg (show ¬ b2 true = 0 by decide)]
      by_cases g : L j < 0
      · rw [if_pos (e0.mpr g), if_neg (fun z => absurd z.2.1 (by omega))]
      · rw [if_neg (fun z => g (e0.mp z)), laM_s (by omega)]
        cases hc : coQ R (B j) (B t) with
        | false =>
          have hc' : coB R B j t = false := hc
          rw [if_pos (show b2 false = 0 from rfl), if_neg (fun z => (by rw [hc'] at z; cases z.2.2.1))]
        | true =>
          have hc' : coB R B j t = true := hc
          rw [if_neg (show ¬ b2 true = 0 by decide)]
          have e1 : (I (L j) < I (lnN U (coB R B) L t j)) = (L j < lnN U (coB R B) L t j) := I_lt (by omega) (by omega) (by omega) (by omega)
          by_cases g2 : L j < lnN U (coB R B) L t j
          · rw [if_pos (e1.mpr g2), if_neg (fun z => absurd z.2.2.2 (by omega))]
          · rw [if_neg (fun z => g2 (e1.mp z)), if_pos ⟨rfl, by omega, hc', by omega⟩, I_1, I_add]
  · show fm_lays__L135_c F k29 (fun a b c d e f => rec (a, b, c, d, e, f)) τ x1 1 (I t) (I (lnN U (coB R B) L t n)) (I n) = _
    unfold fm_lays__L135_c fm_lays__L257 fm_lays__L258
    rw [u2, if_pos (i_rf _), gd_t ixt, lt_r]
def asN (L : Nat → Int) (n : Nat) : Nat := cntN (fun k => decide (0 ≤ L k)) n
theorem asN_up {x : Int} (ht : t < n) (h0 : L t < 0) (hx : 0 ≤ x) : asN (updI L t x) n = asN L n + 1 := by
  refine cnt_flip (t := t) (decide_eq_false (by omega)) (decide_eq_true ?_) (fun j hj => ?_) n ht
  · show 0 ≤ (if t = t then x else L t)
    rw [if_pos rfl]
    exact hx
  · show decide (0 ≤ (if j = t then x else L j)) = _
    rw [if_neg hj]
def MxS (U : Nat → Bool) (n : Nat) (L : Nat → Int) (ls : Int) : Prop := 0 ≤ ls ∧ (∀ k, k < n → U k = true → 0 ≤ L k → L k < ls) ∧ (ls = 0 ∨ ∃ k, k < n ∧ U k = true ∧ 0 ≤ L k ∧ L k + 1 = ls)
theorem lay_wh (hF : 10000 ≤ F) (hn : n ≤ 800) (hM : ∀ τ9, Kr τ0 τ9 → LnQ F τ9 R nl) (hB : ∀ j, j < n → InQ R nl (B j)) : ∀ (d N : Nat) (τ : MS) (L : Nat → Int) (ls : Int), n - asN L n ≤ d → d + 1 < N → RbU τ0 B n τ U → (∀ j, j < n → ms_laneOf τ j = laM (L j)) → (∀ j, j < n → U j = false → L j = -1) → GI U (puB R B) (coB R B) n L (asN L n) → MxS U n L ls → ∃ (τ9 : MS) (L9 : Nat → Int) (ls9 : Int), fm_lays__L29 F N τ (I ls) 1 = some (I ls9, τ9) ∧ RbU τ0 B n τ9 U ∧ (∀ j, j < n → ms_laneOf τ9 j = laM (L9 j)) ∧ GI U (puB R B) (coB R B) n L9 (asN L9 n) ∧ MxS U n L9 ls9 ∧ (∀ j, j < n → U j = true → 0 ≤ L9 j) := by
  intro d
  induction d with
  | zero =>
    intro N τ L ls hd hN hu hla hLn hG hX
    obtain ⟨N9, rfl⟩ : ∃ N9, N = N9 + 2 := ⟨N - 2, by omega⟩
    have ca := cnt_le (fun k => decide (0 ≤ L k)) n
    have hL9 : ∀ j, j < n → L j < (asN L n : Int) + 1 := fun j hj => by
      cases hU : U j with
      | true => have := (hG.1 j hj hU).2; omega
      | false => have := hLn j hj hU; omega
    have ca' : asN L n ≤ n := ca
    have em : fm_lays__L29 F (N9 + 2) τ (I ls) 1 = fm_lays__L40 F (fm_lays__L29 F (N9 + 1)) F τ (I ls) (-1000) 0 := by
      show fm_lays__L29_c F (fm_lays__L29 F (N9 + 1)) τ (I ls) 1 = _
      unfold fm_lays__L29_c
      rw [if_neg (show ¬ (1 : Int32) = 0 by decide)]
    rw [em, lay_nx hF hn (hM τ hu.1) hu hB hla (fun j hj => by have := hL9 j hj; omega)]
    have hs := nxN_ok (U := U) (p := puB R B) (L := L) n
    cases ho : nxN U (puB R B) L n with
    | none =>
      rw [ho] at hs
      refine ⟨τ, L, ls, ?_, hu, hla, hG, hX, hs⟩
      rw [if_pos (show oNx none = -1000 from rfl)]
      unfold fm_lays__L124 fm_lays__L258
      rw [if_pos (show (0 : Int32) = 0 from rfl)]
      show fm_lays__L29_c F (fm_lays__L29 F N9) τ (I ls) 0 = _
      unfold fm_lays__L29_c
      rw [if_pos rfl]
    | some c =>
      rw [ho] at hs
      obtain ⟨s1, s2, s3, s4⟩ := hs
      have h1 := asN_up (L := L) (x := 0) s1 s3 (by omega)
      have h2 := cnt_le (fun k => decide (0 ≤ updI L c 0 k)) n
      have h2' : asN (updI L c 0) n ≤ n := h2
      omega
  | succ d ih =>
    intro N τ L ls hd hN hu hla hLn hG hX
    obtain ⟨N9, rfl⟩ : ∃ N9, N = N9 + 2 := ⟨N - 2, by omega⟩
    have ca := cnt_le (fun k => decide (0 ≤ L k)) n
    have ca' : asN L n ≤ n := ca
    have hL9 : ∀ j, j < n → L j < (asN L n : Int) := fun j hj => by
      cases hU : U j with
      | true => exact (hG.1 j hj hU).2
      | false => have := hLn j hj hU; omega
    have em : fm_lays__L29 F (N9 + 2) τ (I ls) 1 = fm_lays__L40 F (fm_lays__L29 F (N9 + 1)) F τ (I ls) (-1000) 0 := by
      show fm_lays__L29_c F (fm_lays__L29 F (N9 + 1)) τ (I ls) 1 = _
      unfold fm_lays__L29_c
      rw [if_neg (show ¬ (1 : Int32) = 0 by decide)]
    rw [em, lay_nx hF hn (hM τ hu.1) hu hB hla (fun j hj => by have := hL9 j hj; omega)]
    have hs := nxN_ok (U := U) (p := puB R B) (L := L) n
    cases ho : nxN U (puB R B) L n with
    | none =>
      rw [ho] at hs
      refine ⟨τ, L, ls, ?_, hu, hla, hG, hX, hs⟩
      rw [if_pos (show oNx none = -1000 from rfl)]
      unfold fm_lays__L124 fm_lays__L258
      rw [if_pos (show (0 : Int32) = 0 from rfl)]
      show fm_lays__L29_c F (fm_lays__L29 F N9) τ (I ls) 0 = _
      unfold fm_lays__L29_c
      rw [if_pos rfl]
    | some c =>
      rw [ho] at hs
      obtain ⟨s1, s2, s3, s4⟩ := hs
      have z2 : ¬ oNx (some c) = -1000 := by
        show ¬ I ((c : Nat) : Int) = -1000
        rw [show (-1000 : Int32) = I (-1000) from rfl, I_eq] <;> omega
      have hln : ∀ m, m ≤ n → lnN U (coB R B) L c m ≤ (asN L n : Int) := lnN_le hG
      obtain ⟨x0, x1, x2⟩ := lnN_ok (U := U) (cl := coB R B) (L := L) (t := c) n
      have hxa := hln n (Nat.le_refl _)
      have ey := lay_ln (t := c) hF hn (hM τ hu.1) hu hB hla (a := asN L n) (by omega) hL9 hln s1 (I ls) (fm_lays__L29 F (N9 + 1))
      generalize lnN U (coB R B) L c n = x at x0 x1 x2 hxa ey
      have hG2 := hG.step s1 s2 s3 s4 x0 x1 x2
      rw [← asN_up s1 s3 x0] at hG2
      have hup := asN_up (L := L) (x := x) s1 s3 x0
      have hm : n - asN (updI L c x) n ≤ d := by
        clear x1 x2 hX hG2
        omega
      have ut : updI L c x c = x := if_pos rfl
      have un : ∀ j, ¬ j = c → updI L c x j = L j := fun j hj => if_neg hj
      have n7 : (I ((c : Nat) : Int)).toNatClampNeg = c := by rw [I_cl (by omega) (by omega)]; omega
      have hu2 : RbU τ0 B n (st_laneOf τ (I c) (I x)) U := ⟨hu.1.tr (Kr_laneOf _), hu.2.1, hu.2.2.1, hu.2.2.2⟩
      have hla2 : ∀ j, j < n → ms_laneOf (st_laneOf τ (I c) (I x)) j = laM (updI L c x j) := fun j hj => by
        show upd (ms_laneOf τ) (I ((c : Nat) : Int)).toNatClampNeg (I x) j = laM (updI L c x j)
        rw [n7]
        unfold upd
        by_cases ej : j = c
        · rw [if_pos ej, ej, ut, laM_s x0]
        · rw [if_neg ej, un j ej]
          exact hla j hj
      have hLn2 : ∀ j, j < n → U j = false → updI L c x j = -1 := fun j hj hU => by
        rw [un j (fun e => by rw [e, s2] at hU; cases hU)]
        exact hLn j hj hU
      rw [if_neg z2]
      unfold fm_lays__L124
      rw [if_neg (show ¬ (1 : Int32) = 0 by decide), show oNx (some c) = I c from rfl, ey]
      obtain ⟨m1, m2, m3⟩ := hX
      have hls : ls ≤ asN L n := by
        rcases m3 with g | ⟨k, g1, g2, g3, g4⟩
        · omega
        · have := hL9 k g1
          omega
      have e1 : (I x + 1 ≤ I ls) = (x + 1 ≤ ls) := by rw [I_1, I_add, I_le] <;> omega
      by_cases g : x + 1 ≤ ls
      · rw [if_pos (e1.mpr g)]
        refine ih (N9 + 1) _ (updI L c x) ls hm (by omega) hu2 hla2 hLn2 hG2 ⟨m1, fun k hk hU hk0 => ?_, ?_⟩
        · by_cases ek : k = c
          · rw [ek, ut]
            omega
          · rw [un k ek] at hk0 ⊢
            exact m2 k hk hU hk0
        · rcases m3 with h | ⟨k, g1, g2, g3, g4⟩
          · exact Or.inl h
          · have ek : ¬ k = c := fun e => by rw [e] at g3; omega
            exact Or.inr ⟨k, g1, g2, by rw [un k ek]; exact g3, by rw [un k ek]; exact g4⟩
      · rw [if_neg (fun z => g (e1.mp z)), I_1, I_add]
        refine ih (N9 + 1) _ (updI L c x) (x + 1) hm (by omega) hu2 hla2 hLn2 hG2 ⟨by omega, fun k hk hU hk0 => ?_, Or.inr ⟨c, s1, s2, by rw [ut]; exact x0, by rw [ut]⟩⟩
        by_cases ek : k = c
        · rw [ek, ut]
          omega
        · rw [un k ek] at hk0 ⊢
          have := m2 k hk hU hk0
          omega
/-- the bundle of a segment, the reference -/
theorem rb_all (hF : 10000 ≤ F) (hM : ∀ τ9, Kr τ0 τ9 → LnQ F τ9 R nl) (hq : InQ R nl q0) : ∃ (τ9 : MS) (B : Nat → Nat) (n : Nat) (U : Nat → Bool) (L : Nat → Int) (ls : Int), fm_bundles F τ0 (I q0) = some (I ls, τ9) ∧ RbU τ0 B n τ9 U ∧ n ≤ 700 ∧ LsT (InQ R nl) B n (100 * nl + 1) ∧ (∀ j, j < n → ms_laneOf τ9 j = laM (L j)) ∧ GI U (puB R B) (coB R B) n L (asN L n) ∧ MxS U n L ls ∧ (∀ j, j < n → U j = true → 0 ≤ L j) ∧ (∀ j, j < n → (U j = true ↔ Rq R nl q0 (B j))) := by
  have h10 := (hM τ0 Kr.rf).1
  obtain ⟨p1, -, p2, p3, p4, p5⟩ := hq.rd (hM τ0 Kr.rf)
  obtain ⟨τ1, B, n, a1, ⟨b1, b2', b3, b4, b5⟩, a3⟩ := rb_list (F := F) (q0 := q0) hF hM (by omega)
  have hB : ∀ j, j < n → InQ R nl (B j) := fun j hj => (b5.1 j hj).1
  obtain ⟨τ2, U, c1, c2, c3, c4, c5⟩ := rb_while (F := F) (q0 := q0) (n := n) (B := B) hF (by omega) hM hB n F τ1 (fun j => decide (B j = q0)) (by omega) (by omega) ⟨b1, b2', b3, b4⟩ (fun j hj hU => by
    rw [of_decide_eq_true hU]
    exact Rq.own)
  obtain ⟨τ3, d1, d2, d3⟩ := lay_0 (F := F) (U := U) (n := n) (B := B) (τ0 := τ0) hF (by omega) n 0 F τ2 (by omega) (by omega) c2 (fun j hj => absurd hj (Nat.not_lt_zero _))
  have hz : asN (fun _ => -1) n = 0 := by
    have : ∀ m, asN (fun _ => -1) m = 0 := fun m => by
      induction m with
      | zero => rfl
      | succ m ih =>
        show asN (fun _ => -1) m + (if decide ((0 : Int) ≤ -1) then 1 else 0) = 0
        rw [ih]
        rfl
    exact this n
  obtain ⟨τ4, L, ls, e1, e2, e3, e4, e5, e6⟩ := lay_wh (F := F) (U := U) (n := n) (B := B) (τ0 := τ0) hF (by omega) hM hB n F τ3 (fun _ => -1) 0 (by omega) (by omega) d2 (fun j hj => (d3 j hj).trans (laM_n (show (-1 : Int) < 0 by decide)).symm) (fun _ _ _ => rfl) (by rw [hz]; exact GI.zero fun _ => rfl) ⟨by omega, fun k _ _ h => absurd h (show ¬ (0 : Int) ≤ -1 by decide), Or.inl rfl⟩
  refine ⟨τ4, B, n, U, L, ls, ?_, e2, a3, b5, e3, e4, e5, e6, ?_⟩
  · have d1' : fm_lays_ F τ2 = fm_lays__L29 F F τ3 0 1 := d1
    have e1' : fm_lays__L29 F F τ3 0 1 = some (I ls, τ4) := e1
    rw [a1, c1, d1', e1', bd2_s]
  · refine fl_iff b5 (fun y h => h) (fun x y hx hy hc => ⟨hy, by have := hy.1; omega⟩) hq (by have := hq.1; omega) (fun k hk e => c3 k (decide_eq_true e)) c4 c5
end N5
