/-! lanes: the class closes; the call -/
section N8
variable {F : Nat} {σ σ' σ'' σ0 : CSt} {τ τ' : MS} {R : Nat → Option RV} {nl q0 n b t o : Nat} {A : Nat → Nat} {V : Nat → Bool} {L : Nat → Int} {v : RV} {s : Nat}
theorem AsL.set (h : AsL σ0 R A n o L V σ) {k : Nat} (hk : k < n) (hn : n ≤ 180) : AsL σ0 R A n o L (updB V k) (sc_bre σ (I k) 1) := by
  obtain ⟨k1, k2, k3, k4, k5, k6⟩ := h
  have n6 : (I ((k : Nat) : Int)).toNatClampNeg = k := by rw [I_cl (by omega) (by omega)]; omega
  refine ⟨k1.tr (Kq_bre _), k2, k3, k4, k5, fun j hj => ?_⟩
  show upd (cs_bre σ) (I ((k : Nat) : Int)).toNatClampNeg 1 j = b2 (updB V k j)
  rw [n6]
  unfold upd updB
  by_cases ej : j = k
  · rw [if_pos ej, if_pos ej]
    rfl
  · rw [if_neg ej, if_neg ej]
    exact k6 j hj
theorem lo_tch (hF : 10000 ≤ F) (hn : n ≤ 180) (hs : AsL σ0 R A n o L V σ) (hr : RdA R A n) {k : Nat} (hk : k < n) : ∃ f : Bool, fc_X0_touchesReached F σ (I k) = some (b2 f) ∧ (f = true → ∃ i, i < n ∧ V i = true ∧ ovA R A k i = true) ∧ (f = false → ∀ i, i < n → V i = true → ovA R A k i = false) := by
  obtain ⟨-, s2, s3, s4, s5, s6⟩ := id hs
  have key : ∀ (d i K : Nat), i + d = n → d < K → (∀ j, j < i → V j = true → ovA R A k j = false) → ∃ f : Bool, fc_X0_touchesReached_L2 F σ K (I k) (I i) = some (b2 f) ∧ (f = true → ∃ i, i < n ∧ V i = true ∧ ovA R A k i = true) ∧ (f = false → ∀ i, i < n → V i = true → ovA R A k i = false) := by
    intro d
    induction d with
    | zero =>
      intro i K hd hK hno
      obtain ⟨K9, rfl⟩ : ∃ K9, K = K9 + 1 := ⟨K - 1, by omega⟩
      have z1 : I ((n : Nat) : Int) ≤ I ((i : Nat) : Int) := by rw [I_le] <;> omega
      refine ⟨false, ?_, fun z => (by cases z), fun _ j hj => hno j (by omega)⟩
      show fc_X0_touchesReached_L2_c F σ (fc_X0_touchesReached_L2 F σ K9) (I k) (I i) = _
      unfold fc_X0_touchesReached_L2_c
      rw [s2, if_pos z1]
      rfl
    | succ d ih =>
      intro i K hd hK hno
      obtain ⟨K9, rfl⟩ : ∃ K9, K = K9 + 1 := ⟨K - 1, by omega⟩
      have hi : i < n := by omega
      have z1 : ¬ I ((n : Nat) : Int) ≤ I ((i : Nat) : Int) := by rw [I_le] <;> omega
      have ixi : ix (I ((i : Nat) : Int)) 180 = true := of_eq_true (I_ix (by omega) (by omega) (by omega))
      have n7 : (I ((i : Nat) : Int)).toNatClampNeg = i := by rw [I_cl (by omega) (by omega)]; omega
      have em : fc_X0_touchesReached_L2 F σ (K9 + 1) (I k) (I i) = if b2 (V i) = 0 then fc_X0_touchesReached_L2 F σ K9 (I k) (I ((i + 1 : Nat) : Int)) else if b2 (ovA R A k i) = 0 then fc_X0_touchesReached_L2 F σ K9 (I k) (I ((i + 1 : Nat) : Int)) else some 1 := by
        show fc_X0_touchesReached_L2_c F σ (fc_X0_touchesReached_L2 F σ K9) (I k) (I i) = _
        unfold fc_X0_touchesReached_L2_c fc_X0_touchesReached_L30
        rw [s2, if_neg z1, gd_t ixi, n7, s6 i hi, sc_col hn hs hr hk hi, bd_s, lt_r, I_S]
        rfl
      rw [em]
      cases hV : V i with
      | false =>
        rw [if_pos (show b2 false = 0 from rfl)]
        refine ih (i + 1) K9 (by omega) (by omega) fun j hj hVj => ?_
        by_cases ej : j = i
        · rw [ej, hV] at hVj
          cases hVj
        · exact hno j (by omega) hVj
      | true =>
        rw [if_neg (show ¬ b2 true = 0 by decide)]
        cases hc : ovA R A k i with
        | false =>
          rw [if_pos (show b2 false = 0 from rfl)]
          refine ih (i + 1) K9 (by omega) (by omega) fun j hj hVj => ?_
          by_cases ej : j = i
          · rw [ej]
            exact hc
          · exact hno j (by omega) hVj
        | true =>
          rw [if_neg (show ¬ b2 true = 0 by decide)]
          exact ⟨true, rfl, fun _ => ⟨i, hi, hV, hc⟩, fun z => (by cases z)⟩
  exact key n 0 F (by omega) (by omega) (fun j hj => absurd hj (Nat.not_lt_zero _))
theorem lo_pass (hF : 10000 ≤ F) (hn : n ≤ 180) (hr : RdA R A n) (hA : ∀ j, j < n → InQ R nl (A j)) (hco : ∀ i j, i < n → j < n → ¬ i = j → coQ R (A i) (A j) = ovA R A i j) {V0 : Nat → Bool} {r : Nat} (k14 : CSt → Int32 → Int32 → Option (Int32 × CSt)) : ∀ (d k N : Nat) (σ : CSt) (V : Nat → Bool) (mo : Bool), k + d = n → d < N → AsL σ0 R A n o L V σ → PsI (ovA R A) n V0 V mo k → (∀ j, j < n → V j = true → Rq R nl q0 (A j)) → ∃ (σ9 : CSt) (V9 : Nat → Bool) (mo9 : Bool), fc_X0_lanesOfOwn_L30 F k14 N σ (b2 mo) (I r) (I k) = k14 σ9 (b2 mo9) (I ((r + 1 : Nat) : Int)) ∧ AsL σ0 R A n o L V9 σ9 ∧ PsI (ovA R A) n V0 V9 mo9 n ∧ (∀ j, j < n → V9 j = true → Rq R nl q0 (A j)) := by
  intro d
  induction d with
  | zero =>
    intro k N σ V mo hd hN hs hp hq
    obtain ⟨N9, rfl⟩ : ∃ N9, N = N9 + 1 := ⟨N - 1, by omega⟩
    have e : k = n := by omega
    subst e
    refine ⟨σ, V, mo, ?_, hs, hp, hq⟩
    show fc_X0_lanesOfOwn_L30_c F k14 (fc_X0_lanesOfOwn_L30 F k14 N9) σ (b2 mo) (I r) (I k) = _
    unfold fc_X0_lanesOfOwn_L30_c
    rw [hs.2.1, if_pos (i_rf _), lt_r, I_S]
  | succ d ih =>
    intro k N σ V mo hd hN hs hp hq
    obtain ⟨N9, rfl⟩ : ∃ N9, N = N9 + 1 := ⟨N - 1, by omega⟩
    have hk : k < n := by omega
    have z1 : ¬ I ((n : Nat) : Int) ≤ I ((k : Nat) : Int) := by rw [I_le] <;> omega
    have ixk : ix (I ((k : Nat) : Int)) 180 = true := of_eq_true (I_ix (by omega) (by omega) (by omega))
    have n7 : (I ((k : Nat) : Int)).toNatClampNeg = k := by rw [I_cl (by omega) (by omega)]; omega
    obtain ⟨f, f1, f2, f3⟩ := lo_tch hF hn hs hr hk
    have em : fc_X0_lanesOfOwn_L30 F k14 (N9 + 1) σ (b2 mo) (I r) (I k) = if b2 (V k) = 0 then (if b2 f = 0 then fc_X0_lanesOfOwn_L30 F k14 N9 σ (b2 mo) (I r) (I ((k + 1 : Nat) : Int)) else fc_X0_lanesOfOwn_L30 F k14 N9 (sc_bre σ (I k) 1) 1 (I r) (I ((k + 1 : Nat) : Int))) else fc_X0_lanesOfOwn_L30 F k14 N9 σ (b2 mo) (I r) (I ((k + 1 : Nat) : Int)) := by
      show fc_X0_lanesOfOwn_L30_c F k14 (fc_X0_lanesOfOwn_L30 F k14 N9) σ (b2 mo) (I r) (I k) = _
      unfold fc_X0_lanesOfOwn_L30_c fc_X0_lanesOfOwn_L64
      rw [hs.2.1, if_neg z1, gd_t ixk, n7, hs.2.2.2.2.2 k hk, f1, bd_s, gd_t ixk, lt_r, lt_r, lt_r, I_S]
    rw [em]
    cases hV : V k with
    | true =>
      rw [if_neg (show ¬ b2 true = 0 by decide)]
      exact ih (k + 1) N9 σ V mo (by omega) (by omega) hs (hp.keep (fun z => by rw [hV] at z; cases z)) hq
    | false =>
      rw [if_pos (show b2 false = 0 from rfl)]
      cases f with
      | false =>
        rw [if_pos (show b2 false = 0 from rfl)]
        exact ih (k + 1) N9 σ V mo (by omega) (by omega) hs (hp.keep (fun _ => f3 rfl)) hq
      | true =>
        rw [if_neg (show ¬ b2 true = 0 by decide)]
        obtain ⟨i, g2, g3, g4⟩ := f2 rfl
        have hki : ¬ k = i := fun e => by rw [← e, hV] at g3; cases g3
        refine ih (k + 1) N9 _ (updB V k) true (by omega) (by omega) (hs.set hk hn) (hp.set hk hV) fun j hj hVj => ?_
        by_cases e : j = k
        · rw [e]
          exact (hq i g2 g3).go (hA k hk) (by rw [hco k i hk g2 hki]; exact g4)
        · exact hq j hj (by
            have e2 : updB V k j = V j := if_neg e
            rw [← e2]
            exact hVj)
theorem lo_wh (hF : 10000 ≤ F) (hn : n ≤ 180) (hr : RdA R A n) (hA : ∀ j, j < n → InQ R nl (A j)) (hco : ∀ i j, i < n → j < n → ¬ i = j → coQ R (A i) (A j) = ovA R A i j) : ∀ (d r N : Nat) (σ : CSt) (V : Nat → Bool), r + d = n → d + 1 < N → r + 1 ≤ cntN V n → AsL σ0 R A n o L V σ → (∀ j, j < n → V j = true → Rq R nl q0 (A j)) → ∃ (σ9 : CSt) (V9 : Nat → Bool), fc_X0_lanesOfOwn_L14 F N σ 1 (I r) = fc_X0_lanesOfOwn_L76 F σ9 ∧ AsL σ0 R A n o L V9 σ9 ∧ (∀ j, V j = true → V9 j = true) ∧ (∀ j, j < n → V9 j = true → Rq R nl q0 (A j)) ∧ (∀ j, j < n → V9 j = false → ∀ i, i < n → V9 i = true → ovA R A j i = false) := by
  intro d
  induction d with
  | zero =>
    intro r N σ V hd hN hc hs hq
    have := cnt_le V n
    omega
  | succ d ih =>
    intro r N σ V hd hN hc hs hq
    obtain ⟨N9, rfl⟩ : ∃ N9, N = N9 + 2 := ⟨N - 2, by omega⟩
    have z1 : ¬ I ((n : Nat) : Int) ≤ I ((r : Nat) : Int) := by rw [I_le] <;> omega
    have em : fc_X0_lanesOfOwn_L14 F (N9 + 2) σ 1 (I r) = fc_X0_lanesOfOwn_L30 F (fc_X0_lanesOfOwn_L14 F (N9 + 1)) F σ 0 (I r) 0 := by
      show fc_X0_lanesOfOwn_L14_c F (fc_X0_lanesOfOwn_L14 F (N9 + 1)) σ 1 (I r) = _
      unfold fc_X0_lanesOfOwn_L14_c
      rw [hs.2.1, if_neg z1, if_neg (show ¬ (1 : Int32) = 0 by decide)]
    obtain ⟨σ9, V9, mo9, j1, j2, j3, j4⟩ := lo_pass (F := F) (q0 := q0) (r := r) hF hn hr hA hco (V0 := V) (fc_X0_lanesOfOwn_L14 F (N9 + 1)) n 0 F σ V false (by omega) (by omega) hs PsI.zero hq
    have j1' : fc_X0_lanesOfOwn_L30 F (fc_X0_lanesOfOwn_L14 F (N9 + 1)) F σ 0 (I r) 0 = fc_X0_lanesOfOwn_L14 F (N9 + 1) σ9 (b2 mo9) (I ((r + 1 : Nat) : Int)) := j1
    rw [em, j1']
    cases mo9 with
    | true =>
      have g1 := j3.2.2 rfl
      obtain ⟨σ8, V8, r1, r2, r3, r4, r5⟩ := ih (r + 1) (N9 + 1) σ9 V9 (by omega) (by omega) (by omega) j2 j4
      exact ⟨σ8, V8, r1, r2, fun j hj => r3 j (j3.1 j hj), r4, r5⟩
    | false =>
      obtain ⟨g1, g2⟩ := j3.2.1 rfl
      refine ⟨σ9, V9, ?_, j2, j3.1, j4, fun j hj hj0 i hi hi0 => g2 j hj (by rw [← g1 j]; exact hj0) i hi (by rw [← g1 i]; exact hi0)⟩
      show fc_X0_lanesOfOwn_L14_c F (fc_X0_lanesOfOwn_L14 F N9) σ9 0 (I ((r + 1 : Nat) : Int)) = _
      unfold fc_X0_lanesOfOwn_L14_c
      rw [j2.2.1, if_pos (show (0 : Int32) = 0 from rfl)]
      by_cases z2 : I ((n : Nat) : Int) ≤ I ((r + 1 : Nat) : Int)
      · rw [if_pos z2]
      · rw [if_neg z2]
def mxV (V : Nat → Bool) (L : Nat → Int) : Nat → Int
  | 0 => 0
  | k + 1 => if V k = true ∧ mxV V L k < L k then L k else mxV V L k
theorem mxV_ok : ∀ m, 0 ≤ mxV V L m ∧ (∀ k, k < m → V k = true → L k ≤ mxV V L m) ∧ (mxV V L m = 0 ∨ ∃ k, k < m ∧ V k = true ∧ L k = mxV V L m)
  | 0 => ⟨Int.le_refl _, fun k hk => absurd hk (Nat.not_lt_zero _), Or.inl rfl⟩
  | m + 1 => by
    obtain ⟨h1, h2, h3⟩ := mxV_ok m
    by_cases g : V m = true ∧ mxV V L m < L m
    · have e : mxV V L (m + 1) = L m := if_pos g
      rw [e]
      obtain ⟨g1, g2⟩ := g
      refine ⟨by omega, fun k hk hV => ?_, Or.inr ⟨m, by omega, g1, rfl⟩⟩
      by_cases ek : k = m
      · rw [ek]
        omega
      · have := h2 k (by omega) hV
        omega
    · have e : mxV V L (m + 1) = mxV V L m := if_neg g
      rw [e]
      refine ⟨h1, fun k hk hV => ?_, ?_⟩
      · by_cases ek : k = m
        · subst ek
          rcases Int.lt_or_le (mxV V L k) (L k) with y | y
          · exact absurd ⟨hV, y⟩ g
          · exact y
        · exact h2 k (by omega) hV
      · rcases h3 with y | ⟨k, y1, y2⟩
        · exact Or.inl y
        · exact Or.inr ⟨k, by omega, y2⟩
theorem lo_mx (hF : 10000 ≤ F) (hn : n ≤ 180) (hs : AsL σ0 R A n o L V σ) (hL9 : ∀ j, j < n → -1 ≤ L j ∧ L j < 1000) : fc_X0_lanesOfOwn_L76 F σ = some (I (mxV V L n + 1), σ) := by
  obtain ⟨-, s2, s3, s4, s5, s6⟩ := id hs
  have hb : ∀ m, m ≤ n → mxV V L m < 1000 := fun m hm => by
    obtain ⟨-, -, h3⟩ := mxV_ok (V := V) (L := L) m
    rcases h3 with y | ⟨k, y1, -, y3⟩
    · omega
    · have := hL9 k (by omega)
      omega
  refine lp_r (fun k => (σ, I (mxV V L k), I k)) _ n rfl (by omega) (fun k rec hk => ?_) (fun rec => ?_)
  · have z1 : ¬ I ((n : Nat) : Int) ≤ I ((k : Nat) : Int) := by rw [I_le] <;> omega
    have ixk : ix (I ((k : Nat) : Int)) 180 = true := of_eq_true (I_ix (by omega) (by omega) (by omega))
    have n7 : (I ((k : Nat) : Int)).toNatClampNeg = k := by rw [I_cl (by omega) (by omega)]; omega
    have h1 := (mxV_ok (V := V) (L := L) k).1
    have h2 := hb k (by omega)
    have h3 := hL9 k hk
    have eN : mxV V L (k + 1) = if V k = true ∧ mxV V L k < L k then L k else mxV V L k := rfl
    have e1 : (I (mxV V L k) < I (L k)) = (mxV V L k < L k) := I_lt (by omega) (by omega) (by omega) (by omega)
    show fc_X0_lanesOfOwn_L80_c F (fun a b c => rec (a, b, c)) σ (I (mxV V L k)) (I k) = rec (σ, I (mxV V L (k + 1)), I ((k + 1 : Nat) : Int))
    rw [eN]
    unfold fc_X0_lanesOfOwn_L80_c fc_X0_lanesOfOwn_L108
    rw [s2, if_neg z1, gd_t ixk, n7, s6 k hk, gd_t ixk, s5 k hk, lt_r, lt_r, lt_r, I_S]
    cases hV : V k with
    | false => rw [if_pos (show b2 false = 0 from rfl), if_neg (fun z => (by cases z.1))]
    | true =>
      rw [if_neg (show ¬ b2 true = 0 by decide)]
      by_cases g : mxV V L k < L k
      · rw [if_pos (e1.mpr g), if_pos ⟨rfl, g⟩]
      · rw [if_neg (fun z => g (e1.mp z)), if_neg (fun z => g z.2)]
  · show fc_X0_lanesOfOwn_L80_c F (fun a b c => rec (a, b, c)) σ (I (mxV V L n)) (I n) = _
    unfold fc_X0_lanesOfOwn_L80_c
    rw [s2, if_pos (i_rf _), I_1, I_add]
theorem lo_all (hF : 10000 ≤ F) (hn : n ≤ 180) (hr : RdA R A n) (hA : ∀ j, j < n → InQ R nl (A j)) (hco : ∀ i j, i < n → j < n → ¬ i = j → coQ R (A i) (A j) = ovA R A i j) (ho : o < n) (hq : A o = q0) (hL9 : ∀ j, j < n → -1 ≤ L j ∧ L j < 1000) (hs : AsL σ0 R A n o L (fun _ => false) σ) : ∃ (σ9 : CSt) (V9 : Nat → Bool), fc_X0_lanesOfOwn F σ = some (I (mxV V9 L n + 1), σ9) ∧ Kq σ0 σ9 ∧ V9 o = true ∧ (∀ j, j < n → V9 j = true → Rq R nl q0 (A j)) ∧ (∀ j, j < n → V9 j = false → ∀ i, i < n → V9 i = true → coQ R (A j) (A i) = false) := by
  have ixo : ix (I ((o : Nat) : Int)) 180 = true := of_eq_true (I_ix (by omega) (by omega) (by omega))
  have hs1 := hs.set ho hn
  have hc1 : cntN (updB (fun _ => false) o) n = cntN (fun _ => false) n + 1 := cnt_flip rfl (if_pos rfl) (fun j hj => if_neg hj) n ho
  obtain ⟨σ9, V9, j1, j2, j3, j4, j5⟩ := lo_wh (F := F) (q0 := q0) hF hn hr hA hco n 0 F (sc_bre σ (I o) 1) (updB (fun _ => false) o) (by omega) (by omega) (by omega) hs1 (fun j hj hV => by
    by_cases e : j = o
    · rw [e, hq]
      exact Rq.own
    · have e2 : updB (fun _ => false) o j = false := if_neg e
      rw [e2] at hV
      cases hV)
  have j1' : fc_X0_lanesOfOwn_L14 F F (sc_bre σ (I o) 1) 1 0 = fc_X0_lanesOfOwn_L76 F σ9 := j1
  refine ⟨σ9, V9, ?_, j2.1, j3 o (if_pos rfl), j4, fun j hj hj0 i hi hi0 => ?_⟩
  · unfold fc_X0_lanesOfOwn
    rw [hs.2.2.1, gd_t ixo, lt_r, j1', lo_mx hF hn j2 hL9]
  · have hji : ¬ j = i := fun e => by rw [e, hi0] at hj0; cases hj0
    rw [hco j i hj hi hji]
    exact j5 j hj hj0 i hi hi0
end N8
