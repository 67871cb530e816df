/-! the class's search: its code -/
def DJ (A : GD) (p go gs : Nat) (rs hd nx pv : Nat → Int32) (re : Int32) (W D : Nat → Prop) (c : Nat → Nat) (rn s0 j k6 : Nat) : Prop :=
  DjP A p go gs W D c rn s0 j k6 ∧ re = I rn ∧ (∀ s, s < 1296 → rs s = I (c s)) ∧ ∃ hA nA pA rk T, PLs W hA nA pA (fun s => c s % 256) rk T ∧ WtR hd nx pv W hA nA pA
/-- what the search stands on -/
def SrC (σ : CSt) (A : GD) (p go gs : Nat) : Prop := GrC σ A ∧ cs_fpen σ = I p ∧ p ≤ 50 ∧ cs_fgoal σ = I go ∧ inG A go ∧ cs_fgs σ = I gs ∧ gs < 4
theorem dj_m {c : Nat → Nat} {u x : Nat} : va_up (fun s => c s % 256) u (x % 256) = fun s => va_up c u x s % 256 := by
  funext s
  unfold va_up
  by_cases h : s = u
  · simp [h]
  · simp [h]
section E1
variable {F : Nat} {σ : CSt} {A : GD} {p go gs : Nat} {rs hd nx pv : Nat → Int32} {re : Int32} {W D : Nat → Prop} {c : Nat → Nat} {rn s0 j k6 : Nat}
theorem sc_offer (h : DJ A p go gs rs hd nx pv re W D c rn s0 j k6) (hrn : rn ≤ 400000) {u x t : Nat} (hu : u < 1296) (hg : inG A (u / 4)) (hR : Rc (GA A p go gs) t (u / 4) (u % 4) x) (hx1 : rn ≤ x) (hx2 : x ≤ rn + 150) : ∃ rs' hd' nx' pv' W' c', fc_X8_offer F (wSt σ rs hd nx pv re) (I u) (I x) = some (wSt σ rs' hd' nx' pv' re) ∧ DJ A p go gs rs' hd' nx' pv' re W' D c' rn s0 j k6 ∧ (W' u ∨ D u) ∧ c' u ≤ x ∧ ∀ s, D s → c' s = c s := by
  obtain ⟨hP, hre, hrs, hA, nA, pA, rk, T, hL, hWt⟩ := id h
  have e2 : ((u : Nat) : Int).toNat = u := by omega
  have hcu := hP.1 u hu
  have e3 := hrs u hu
  by_cases q : x < c u
  · obtain ⟨hD, hP'⟩ := dj_off hP hu hg hR hx1 hx2 (by omega) q
    have e4 : I x < I (c u) := by rw [I_lt] <;> omega
    have hrs' : ∀ s, s < 1296 → upd rs u (I x) s = I ((va_up c u x s : Nat) : Int) := fun s hs => by
      unfold upd va_up
      by_cases q2 : s = u
      · rw [if_pos q2, if_pos q2]
      · rw [if_neg q2, if_neg q2]; exact hrs s hs
    have hcD : ∀ s, D s → va_up c u x s = c s := fun s hs => va_up_ne _ _ fun q3 => hD (q3 ▸ hs)
    by_cases q2 : W u
    · have hlt := hcu.2.mpr (Or.inl q2)
      have e5 : ¬ (1000000 : Int32) ≤ I (c u) := by rw [show (1000000 : Int32) = I 1000000 from rfl, I_le] <;> omega
      obtain ⟨hd1, nx1, pv1, f1, g1⟩ := sc_rem (F := F) (σ := σ) (rs := rs) (re := re) hL hWt q2 (c := c u) rfl hlt
      have hL1 := hL.rem q2
      obtain ⟨hd2, nx2, pv2, f2, g2⟩ := sc_put (F := F) (σ := σ) (rs := upd rs u (I x)) (re := re) hL1 g1 (s := u) (c := x) (fun z => z.2 rfl) hu (by omega)
      have hL2 := hL1.put (s := u) (l := x % 256) (fun z => z.2 rfl) hu
      have hWe : (fun y => y = u ∨ (W y ∧ y ≠ u)) = fun y => y = u ∨ W y := by
        funext y
        refine propext ⟨fun z => z.imp id And.left, fun z => ?_⟩
        by_cases q3 : y = u
        · exact Or.inl q3
        · exact Or.inr ⟨z.resolve_left q3, q3⟩
      rw [hWe] at g2 hL2
      rw [dj_m] at hL2
      refine ⟨_, hd2, nx2, pv2, _, _, ?_, ⟨hP', hre, hrs', _, _, _, _, _, hL2, g2⟩, Or.inl (Or.inl rfl), by rw [va_up_self]; exact Nat.le_refl _, hcD⟩
      simp (disch := omega) only [fc_X8_offer, fc_X8_offer_L36, I_ix, gd_T, I_cl, e2, wS_1, e3, e4, if_true, e5, if_false, f1, bd_s, lt_r, sc_frests, wS_6, f2]
    · have hge : ¬ c u < 1000000 := fun z => by
        rcases hcu.2.mp z with z | z
        · exact q2 z
        · exact hD z
      have e5 : (1000000 : Int32) ≤ I (c u) := by rw [show (1000000 : Int32) = I 1000000 from rfl, I_le] <;> omega
      obtain ⟨hd2, nx2, pv2, f2, g2⟩ := sc_put (F := F) (σ := σ) (rs := upd rs u (I x)) (re := re) hL hWt (s := u) (c := x) q2 hu (by omega)
      have hL2 := hL.put (s := u) (l := x % 256) q2 hu
      rw [dj_m] at hL2
      refine ⟨_, hd2, nx2, pv2, _, _, ?_, ⟨hP', hre, hrs', _, _, _, _, _, hL2, g2⟩, Or.inl (Or.inl rfl), by rw [va_up_self]; exact Nat.le_refl _, hcD⟩
      simp (disch := omega) only [fc_X8_offer, fc_X8_offer_L36, I_ix, gd_T, I_cl, e2, wS_1, e3, e4, if_true, e5, bd_s, lt_r, sc_frests, wS_6, f2]
  · have e4 : ¬ I x < I (c u) := by rw [I_lt] <;> omega
    refine ⟨rs, hd, nx, pv, W, c, ?_, h, hcu.2.mp (by omega), by omega, fun _ _ => rfl⟩
    simp (disch := omega) only [fc_X8_offer, I_ix, gd_T, I_cl, e2, wS_1, e3, e4, if_false]
theorem sc_offerF (h : DJ A p go gs rs hd nx pv re W D c rn s0 j k6) {u : Nat} (hu : u < 1296) : fc_X8_offer F (wSt σ rs hd nx pv re) (I u) 1000000 = some (wSt σ rs hd nx pv re) := by
  obtain ⟨hP, hre, hrs, -⟩ := h
  have e2 : ((u : Nat) : Int).toNat = u := by omega
  have hcu := hP.1 u hu
  have e3 := hrs u hu
  have e4 : ¬ (1000000 : Int32) < I (c u) := by rw [show (1000000 : Int32) = I 1000000 from rfl, I_lt] <;> omega
  simp (disch := omega) only [fc_X8_offer, I_ix, gd_T, I_cl, e2, wS_1, e3, e4, if_false]
theorem sc_take (hF : 1000 ≤ F) (h : DJ A p go gs rs hd nx pv re W D c rn s0 4 4) (hrn : rn ≤ 400000) : (∃ s hd' nx' pv', W s ∧ (∀ u, W u → c s ≤ c u) ∧ fc_X7_takeCheapest F (wSt σ rs hd nx pv re) = some (I s, wSt σ rs hd' nx' pv' (I (c s))) ∧ DJ A p go gs rs hd' nx' pv' (I (c s)) (fun x => W x ∧ x ≠ s) (fun x => x = s ∨ D x) c (c s) s 0 4) ∨ ((∀ u, ¬ W u) ∧ fc_X7_takeCheapest F (wSt σ rs hd nx pv re) = some (-1, wSt σ rs hd nx pv re)) := by
  obtain ⟨hP, hre, hrs, hA, nA, pA, rk, T, hL, hWt⟩ := id h
  generalize hq : (fun i => (hA ((rn + i) % 256)).isSome) = q
  have hle := fstN_le (p := q) (n := 256)
  have stp : ∀ (k : Nat) (rec : CSt → Int32 → Option (Int32 × CSt)), k < 256 → q k = false → fc_X7_takeCheapest_L2_c F rec (wSt σ rs hd nx pv re) (I k) = rec (wSt σ rs hd nx pv re) (I ((k + 1 : Nat) : Int)) := fun k rec hk hqk => by
    have e1 : ¬ (256 : Int32) ≤ I k := by rw [show (256 : Int32) = I 256 from rfl, I_le] <;> omega
    have e2 : I rn + I k = I ((rn + k : Nat) : Int) := by rw [I_add]; rfl
    have e3 : (((rn + k) % 256 : Nat) : Int).toNat = (rn + k) % 256 := by omega
    have e4 := hWt.1 ((rn + k) % 256) (by omega)
    rw [← hq] at hqk
    have e5 : hA ((rn + k) % 256) = none := by simpa using hqk
    rw [e5] at e4
    have e6 : oI none < 0 := by decide
    simp (disch := omega) only [fc_X7_takeCheapest_L2_c, e1, if_false, wS_5, hre, e2, lt_r, I_and255, I_ix, gd_T, I_cl, e3, wS_2, e4, e6, if_true, I_S]
  have hmin : ∀ u, W u → fstN q 256 ≤ c u - rn ∧ c u - rn < 256 ∧ rn ≤ c u := fun u hu => by
    have h3 := hP.2.2.1 u hu
    refine ⟨?_, by omega, h3.2.1⟩
    rcases Nat.lt_or_ge (c u - rn) (fstN q 256) with z | z
    · have := fstN_no z
      rw [← hq] at this
      simp only [show rn + (c u - rn) = c u by omega] at this
      have h7 := hL.head T u hu (by omega)
      cases h8 : hA (c u % 256) with
      | none => exact absurd h8 h7
      | some w => rw [h8] at this; cases this
    · exact z
  rcases Nat.lt_or_ge (fstN q 256) 256 with hm | hm
  · have hat := fstN_at hm
    generalize hi : fstN q 256 = i at hm hat hmin hle
    rw [← hq] at hat
    obtain ⟨s, hs⟩ := Option.isSome_iff_exists.mp hat
    obtain ⟨w1, w2, w3⟩ := hL.1 _ s hs
    have w2' : c s % 256 = (rn + i) % 256 := w2
    have h3 := hP.2.2.1 s w1
    have hcs : c s = rn + i := by omega
    have hmn : ∀ u, W u → c s ≤ c u := fun u hu => by
      have := hmin u hu
      omega
    obtain ⟨hd1, nx1, pv1, f1, g1⟩ := sc_rem (F := F) (σ := σ) (rs := rs) (re := I (c s)) hL hWt w1 (c := c s) rfl (by omega)
    refine Or.inl ⟨s, hd1, nx1, pv1, w1, hmn, ?_, dj_take hP w1 hmn, rfl, hrs, _, _, _, _, _, hL.rem w1, g1⟩
    refine lp_r (fun k => (wSt σ rs hd nx pv re, I k)) _ i rfl (by omega) (fun k rec hk => ?_) (fun rec => ?_)
    · exact stp k _ (by omega) (fstN_no (n := 256) (by omega))
    · have e1 : ¬ (256 : Int32) ≤ I i := by rw [show (256 : Int32) = I 256 from rfl, I_le] <;> omega
      have e2 : I rn + I i = I (c s) := by rw [I_add, hcs]; rfl
      have e3 : ((c s % 256 : Nat) : Int).toNat = c s % 256 := by omega
      have e4 := hWt.1 (c s % 256) (by omega)
      rw [w2', hs] at e4
      have hs2 := (hL.2.1 s w1).1
      have e6 : ¬ I s < 0 := by rw [I_0, I_lt] <;> omega
      have e7 : oI (some s) = I s := rfl
      rw [e7, ← w2'] at e4
      simp (disch := omega) only [fc_X7_takeCheapest_L2_c, e1, if_false, wS_5, hre, e2, lt_r, I_and255, I_ix, gd_T, I_cl, e3, wS_2, e4, e6, wS_10, f1, bd_s]
  · refine Or.inr ⟨fun u hu => ?_, ?_⟩
    · have := hmin u hu
      omega
    · refine lp_r (fun k => (wSt σ rs hd nx pv re, I k)) _ 256 rfl (by omega) (fun k rec hk => ?_) (fun rec => ?_)
      · exact stp k _ (by omega) (fstN_no (n := 256) (by omega))
      · have e1 : (256 : Int32) ≤ I ((256 : Nat) : Int) := by decide
        simp only [fc_X7_takeCheapest_L2_c, e1, if_true]
theorem sc_goBack (hF : 1000 ≤ F) (hS : SrC σ A p go gs) {s : Nat} (h : DJ A p go gs rs hd nx pv re W D c (c s) s 0 4) (hDs : D s) (hrn : c s ≤ 300000) : ∃ rs' hd' nx' pv' W' c', fc_X8_goBackFrom F (wSt σ rs hd nx pv re) (I s) = some (wSt σ rs' hd' nx' pv' re) ∧ DJ A p go gs rs' hd' nx' pv' re W' D c' (c s) s 4 4 ∧ c' s = c s := by
  obtain ⟨hGr, hpen, hp50, hgo, hgoG, hgs, hgs4⟩ := hS
  have hgk := hGr.2.1
  have hG := GA_ok hgk p go gs
  obtain ⟨hP, hre, hrs, -⟩ := id h
  obtain ⟨hs2, hsG, t0, hRc⟩ := hP.2.1 s (Or.inr hDs)
  have m1 : I s / 4 = I ((s / 4 : Nat) : Int) := I_divn s 4 (by omega) (by omega) (by omega)
  have m2 : I s - I ((s / 4 : Nat) : Int) * 4 = I ((s % 4 : Nat) : Int) := by
    have := I_modn s 4 (by omega) (by omega) (by omega)
    rw [← m1]
    exact this
  have hd4 : s % 4 < 4 := by omega
  have hnb := sc_nbr (F := F) (σ := wSt σ rs hd nx pv re) (A := A) hGr (n := s / 4) (d := opp (s % 4)) hsG (opp_lt _)
  have hop := sc_opp (F := F) (σ := wSt σ rs hd nx pv re) (s % 4) hd4
  by_cases ho : opA A (s / 4) (opp (s % 4)) = true
  · rw [if_pos ho] at hnb
    obtain ⟨st1, st2, st3, st4⟩ := sc_step (F := F) (σ := wSt σ rs hd nx pv re) (A := A) hGr hsG (opp_lt (s % 4)) ho
    generalize hb : tgA (s / 4) (opp (s % 4)) = b at hnb st1 st2 st3
    obtain ⟨g1, g2, g3, g4, -⟩ := hG (s / 4) (opp (s % 4)) (opp_lt _) ho
    have g1' : opA A b (s % 4) = true := by
      have : opA A (tgA (s / 4) (opp (s % 4))) (opp (opp (s % 4))) = true := g1
      rw [hb, opp_opp hd4] at this
      exact this
    have g2' : tgA b (s % 4) = s / 4 := by
      have : tgA (tgA (s / 4) (opp (s % 4))) (opp (opp (s % 4))) = s / 4 := g2
      rw [hb, opp_opp hd4] at this
      exact this
    have g3' : lnA A b (s % 4) = lnA A (s / 4) (opp (s % 4)) := by
      have : lnA A (tgA (s / 4) (opp (s % 4))) (opp (opp (s % 4))) = lnA A (s / 4) (opp (s % 4)) := g3
      rw [hb, opp_opp hd4] at this
      exact this
    have g4' : 1 ≤ lnA A (s / 4) (opp (s % 4)) := g4
    generalize lnA A (s / 4) (opp (s % 4)) = w at st2 st3 st4 g3' g4'
    have hb324 := inG_lt hgk st1
    have e3 := hrs s hs2
    have e2 : ((s : Nat) : Int).toNat = s := by omega
    have e5 : ¬ I (b : Nat) = -1 := I_nm1 (by omega)
    have e6 : I (c s) + I w = I ((c s + w : Nat) : Int) := by rw [I_add]; rfl
    have start : fc_X8_goBackFrom F (wSt σ rs hd nx pv re) (I s) = fc_X8_goBackFrom_L55 F F (wSt σ rs hd nx pv re) (I ((s % 4 : Nat) : Int)) (I (opp (s % 4) : Nat)) (I b) (I ((c s + w : Nat) : Int)) 0 := by
      simp (disch := omega) only [fc_X8_goBackFrom, m1, m2, lt_r, hop, bd_s, hnb, e5, if_false, I_ix, gd_T, st3, I_cl, e2, wS_1, e3, e6]
    rw [start]
    refine lp_inv (P := fun d a => d ≤ 4 ∧ ∃ rs' hd' nx' pv' W' c', a = (wSt σ rs' hd' nx' pv' re, I ((s % 4 : Nat) : Int), I (opp (s % 4) : Nat), I (b : Nat), I ((c s + w : Nat) : Int), I ((4 - d : Nat) : Int)) ∧ DJ A p go gs rs' hd' nx' pv' re W' D c' (c s) s (4 - d) 4 ∧ c' s = c s) (Q := fun q => ∃ rs' hd' nx' pv' W' c', q = some (wSt σ rs' hd' nx' pv' re) ∧ DJ A p go gs rs' hd' nx' pv' re W' D c' (c s) s 4 4 ∧ c' s = c s) (fun d a hp => ?_) F 4 _ (by omega) ⟨Nat.le_refl _, rs, hd, nx, pv, W, c, rfl, by rw [Nat.sub_self]; exact h, rfl⟩
    obtain ⟨hd4', rs', hd', nx', pv', W', c', rfl, hJ, hcs⟩ := hp
    cases d with
    | zero =>
      refine Or.inl fun rec => ⟨rs', hd', nx', pv', W', c', ?_, hJ, hcs⟩
      have e7 : (4 : Int32) ≤ I ((4 - 0 : Nat) : Int) := by decide
      simp only [fc_X8_goBackFrom_L55_c, e7, if_true]
    | succ d =>
      have hj1 : 4 - d = 4 - (d + 1) + 1 := by omega
      have hj4 : 4 - (d + 1) < 4 := by omega
      generalize 4 - (d + 1) = i at hJ hj1 hj4 ⊢
      have e7 : ¬ (4 : Int32) ≤ I i := by rw [I_4, I_le] <;> omega
      have hx : ∀ (W2 : Nat → Prop) (c2 : Nat → Nat), (W2 (4 * b + i) ∨ D (4 * b + i)) → c2 (4 * b + i) ≤ w + bnd p i (s % 4) + c s → c2 s = c s → ∀ n e, e < 4 → e ≠ opp i → opA A n e = true → 4 * tgA n e + e = s → (W2 (4 * n + i) ∨ D (4 * n + i)) ∧ c2 (4 * n + i) ≤ lnA A n e + bnd p i e + c2 s := fun W2 c2 z1 z2 z3 n e he hne ho2 hs0 => by
        have k1 : e = s % 4 := by omega
        have k2 : tgA n e = s / 4 := by omega
        subst k1
        have k3 := hG n (s % 4) he ho2
        have k4 : tgA (tgA n (s % 4)) (opp (s % 4)) = n := k3.2.1
        rw [k2, hb] at k4
        subst k4
        rw [z3, g3']
        exact ⟨z1, z2⟩
      by_cases q : i = opp (s % 4)
      · have e8 : I i = I (opp (s % 4) : Nat) := by rw [q]
        have hJ' : DJ A p go gs rs' hd' nx' pv' re W' D c' (c s) s (i + 1) 4 := by
          obtain ⟨j1, j2, j3, j4⟩ := hJ
          refine ⟨dj_ext5 hG j1 (fun n e he hne ho2 hs0 => ?_), j2, j3, j4⟩
          exact absurd (by rw [q, opp_opp hd4]; omega) hne
        refine Or.inr ⟨d, (wSt σ rs' hd' nx' pv' re, I ((s % 4 : Nat) : Int), I (opp (s % 4) : Nat), I (b : Nat), I ((c s + w : Nat) : Int), I ((i + 1 : Nat) : Int)), by omega, ⟨by omega, rs', hd', nx', pv', W', c', by rw [hj1], by rw [hj1]; exact hJ', hcs⟩, fun rec => ?_⟩
        simp only [fc_X8_goBackFrom_L55_c, fc_X8_goBackFrom_L97, e7, if_false, e8, if_true, lt_r]
        rw [← e8, I_S, if_neg e7]
      · have e8 : ¬ I i = I (opp (s % 4) : Nat) := by
          have := opp_lt (s % 4)
          rw [I_eq] <;> omega
        have hne : s % 4 ≠ opp i := fun z => q (by rw [z, opp_opp hj4])
        have e9 : I (b : Nat) * 4 + I i = I ((4 * b + i : Nat) : Int) := by
          rw [I_4, I_mul, I_add]
          exact congrArg I (by omega)
        have n1 : (4 * b + i) / 4 = b := by omega
        have n2 : (4 * b + i) % 4 = i := by omega
        have hR2 : Rc (GA A p go gs) (t0 + 1) ((4 * b + i) / 4) ((4 * b + i) % 4) (w + bnd p i (s % 4) + c s) := by
          rw [n1, n2]
          refine ⟨s % 4, c s, hd4, hne, g1', ?_, ?_⟩
          · show Rc (GA A p go gs) t0 (tgA b (s % 4)) (s % 4) (c s)
            rw [g2']
            exact hRc
          · show w + bnd p i (s % 4) + c s = lnA A b (s % 4) + bnd p i (s % 4) + c s
            rw [g3']
        have hbl := bnd_le p i (s % 4)
        obtain ⟨rs2, hd2, nx2, pv2, W2, c2, f1, f2, f3, f4, f5⟩ := sc_offer (F := F) (σ := σ) hJ (by omega) (u := 4 * b + i) (x := w + bnd p i (s % 4) + c s) (by omega) (by rw [n1]; exact st1) hR2 (by omega) (by omega)
        have hc2 : c2 s = c s := by rw [f5 s hDs, hcs]
        have hJ' : DJ A p go gs rs2 hd2 nx2 pv2 re W2 D c2 (c s) s (i + 1) 4 := by
          obtain ⟨j1, j2, j3, j4⟩ := f2
          exact ⟨dj_ext5 hG j1 (hx W2 c2 f3 f4 hc2), j2, j3, j4⟩
        refine Or.inr ⟨d, (wSt σ rs2 hd2 nx2 pv2 re, I ((s % 4 : Nat) : Int), I (opp (s % 4) : Nat), I (b : Nat), I ((c s + w : Nat) : Int), I ((i + 1 : Nat) : Int)), by omega, ⟨by omega, rs2, hd2, nx2, pv2, W2, c2, by rw [hj1], by rw [hj1]; exact hJ', hc2⟩, fun rec => ?_⟩
        by_cases q3 : i = s % 4
        · have e10 : I i = I ((s % 4 : Nat) : Int) := by rw [q3]
          have e11 : ((c s + w : Nat) : Int) = ((w + bnd p i (s % 4) + c s : Nat) : Int) := by
            unfold bnd
            rw [if_pos q3.symm]
            omega
          simp only [fc_X8_goBackFrom_L55_c, fc_X8_goBackFrom_L97, fc_X8_goBackFrom_L94, fc_X8_stateOf, e7, if_false, e8, e9, bd_s, eq_true e10, if_true, e11, f1, lt_r, I_S]
        · have e10 : ¬ I i = I ((s % 4 : Nat) : Int) := by rw [I_eq] <;> omega
          have e11 : I ((c s + w : Nat) : Int) + I p = I ((w + bnd p i (s % 4) + c s : Nat) : Int) := by
            rw [I_add]
            refine congrArg I ?_
            unfold bnd
            rw [if_neg (Ne.symm q3)]
            omega
          have e12 : cs_fpen (wSt σ rs' hd' nx' pv' re) = I p := hpen
          simp only [fc_X8_goBackFrom_L55_c, fc_X8_goBackFrom_L97, fc_X8_goBackFrom_L94, fc_X8_stateOf, e7, if_false, e8, e9, bd_s, e10, e12, e11, f1, lt_r, I_S]
  · rw [if_neg ho] at hnb
    refine ⟨rs, hd, nx, pv, W, c, ?_, ?_, rfl⟩
    · simp (disch := omega) only [fc_X8_goBackFrom, m1, m2, lt_r, hop, bd_s, hnb, if_true]
    · obtain ⟨j1, j2, j3, j4⟩ := h
      have hno : ∀ n e, e < 4 → opA A n e = true → 4 * tgA n e + e = s → False := fun n e he ho2 hs0 => by
        have k1 : e = s % 4 := by omega
        have k2 : tgA n e = s / 4 := by omega
        have k3 := (hG n e he ho2).1
        have k4 : opA A (tgA n e) (opp e) = true := k3
        rw [k2, k1] at k4
        exact ho k4
      exact ⟨dj_ext5 hG (dj_ext5 hG (dj_ext5 hG (dj_ext5 hG j1 (fun n e he _ ho2 hs0 => (hno n e he ho2 hs0).elim)) (fun n e he _ ho2 hs0 => (hno n e he ho2 hs0).elim)) (fun n e he _ ho2 hs0 => (hno n e he ho2 hs0).elim)) (fun n e he _ ho2 hs0 => (hno n e he ho2 hs0).elim), j2, j3, j4⟩
/-- what the search leaves -/
def FinC (A : GD) (p go gs : Nat) (rs : Nat → Int32) (st : Nat) (c : Nat → Nat) : Prop :=
  (∀ s, s < 1296 → rs s = I (c s) ∧ c s ≤ 1000000) ∧ (∀ s, s < 1296 → c s < 1000000 → inG A (s / 4) ∧ ∃ t, Rc (GA A p go gs) t (s / 4) (s % 4) (c s)) ∧ ((c st ≤ 300000 ∧ IsV (GA A p go gs) (st / 4) (st % 4) (c st) ∧ ∀ t n d x, d < 4 → Rc (GA A p go gs) t n d x → x < c st → c (4 * n + d) ≤ x ∧ 4 * n + d < 1296) ∨ (c st = 1000000 ∧ ∀ t x, ¬ Rc (GA A p go gs) t (st / 4) (st % 4) x))
theorem sc_search (hF : 2000 ≤ F) (hS : SrC σ A p go gs) {st : Nat} (hst : st < 1296) (h : DJ A p go gs rs hd nx pv re W D c 0 s0 4 4) (hD0 : ∀ s, ¬ D s) : ∃ rs' hd' nx' pv' re' c', fc_X8_findCost_L55 F F (wSt σ rs hd nx pv re) (I st) 0 = some (if c' st < 1000000 then I ((2 + c' st : Nat) : Int) else -1000, wSt σ rs' hd' nx' pv' re') ∧ FinC A p go gs rs' st c' := by
  have e0 : ((st : Nat) : Int).toNat = st := by omega
  have fin : ∀ (rs' hd' nx' pv' : Nat → Int32) (re' : Int32) (c' : Nat → Nat), FinC A p go gs rs' st c' → fc_X8_findCost_L99 F (wSt σ rs' hd' nx' pv' re') (I st) = some (if c' st < 1000000 then I ((2 + c' st : Nat) : Int) else -1000, wSt σ rs' hd' nx' pv' re') := fun rs' hd' nx' pv' re' c' hf => by
    obtain ⟨f1, f2, f3⟩ := hf
    obtain ⟨g1, g2⟩ := f1 st hst
    have e1 : (I (c' st) < 1000000) = (c' st < 1000000) := by
      rw [show (1000000 : Int32) = I 1000000 from rfl, I_lt (by omega) (by omega) (by omega) (by omega)]
      exact propext ⟨fun q => by omega, fun q => by omega⟩
    have e2 : (2 : Int32) + I (c' st) = I ((2 + c' st : Nat) : Int) := by rw [I_2, I_add]; rfl
    simp (disch := omega) only [fc_X8_findCost_L99, fc_X8_findCost_L124, I_ix, gd_T, I_cl, e0, wS_1, g1, e1, e2]
    split <;> rfl
  refine lp_inv (P := fun d a => d ≤ 1296 ∧ ∃ rs' hd' nx' pv' re' W' D' c' rn' s', a = (wSt σ rs' hd' nx' pv' re', I st, I ((1296 - d : Nat) : Int)) ∧ DJ A p go gs rs' hd' nx' pv' re' W' D' c' rn' s' 4 4 ∧ ¬ D' st ∧ rn' ≤ 150 * (1296 - d) ∧ 1296 - d ≤ cntN (fun s => cdec (D' s)) 1296) (Q := fun q => ∃ rs' hd' nx' pv' re' c', q = some (if c' st < 1000000 then I ((2 + c' st : Nat) : Int) else -1000, wSt σ rs' hd' nx' pv' re') ∧ FinC A p go gs rs' st c') (fun d a hp => ?_) F 1296 _ (by omega) ⟨Nat.le_refl _, rs, hd, nx, pv, re, W, D, c, 0, s0, rfl, h, hD0 st, by omega, by omega⟩
  obtain ⟨hd0, rs', hd', nx', pv', re', W', D', c', rn', s', rfl, hJ, hDst, hrn, hcnt⟩ := hp
  have hlt : 1296 - d < 1296 := by
    have h1 := cntN_sub1 (p := fun s => cdec (D' s)) (q := fun _ => true) (y := st) (n := 1296) (fun _ _ _ => rfl) hst (by
      cases hq : cdec (D' st) with
      | false => rfl
      | true => exact absurd (cdec_t.mp hq) hDst) rfl
    have h2 := cntN_le (p := fun _ => true) (n := 1296)
    omega
  have hd1 : d - 1 + 1 = d := by omega
  have hk1 : 1296 - (d - 1) = 1296 - d + 1 := by omega
  generalize 1296 - d = k at hrn hcnt hlt hk1 ⊢
  have e1 : ¬ (1296 : Int32) ≤ I k := by rw [show (1296 : Int32) = I 1296 from rfl, I_le] <;> omega
  rcases sc_take (F := F) (σ := σ) (by omega) hJ (by omega) with ⟨s, hd2, nx2, pv2, t1, t2, t3, t4⟩ | ⟨t1, t2⟩
  · have h3 := hJ.1.2.2.1 s t1
    have hs2 := (hJ.1.2.1 s (Or.inl t1)).1
    have e2 : ¬ I s = -1 := by
      rw [show (-1 : Int32) = I (-1) from rfl]
      intro q
      rw [I_eq] at q <;> omega
    by_cases q : s = st
    · subst q
      have hcs := hJ.1.1 s hs2
      have hlt2 := hcs.2.mpr (Or.inl t1)
      have hf : FinC A p go gs rs' s c' := by
        obtain ⟨j1, j2, j3, j4⟩ := hJ
        refine ⟨fun u hu => ⟨j3 u hu, (j1.1 u hu).1⟩, fun u hu hc => (j1.2.1 u ((j1.1 u hu).2.mp hc)).2, Or.inl ⟨by omega, ⟨(j1.2.1 s (Or.inl t1)).2.2, (t4.1.2.2.2.1 s (Or.inl rfl)).2⟩, fun t n d' x hd' hR hx => ?_⟩⟩
        rcases dj_cmp j1 t n d' x hd' hR with ⟨a1, a2⟩ | ⟨u, a1, a2⟩
        · exact ⟨a2, (j1.2.1 _ (Or.inr a1)).1⟩
        · have := t2 u a1
          omega
      refine Or.inl fun rec => ⟨rs', hd2, nx2, pv2, I (c' s), c', ?_, hf⟩
      simp only [fc_X8_findCost_L55_c, e1, if_false, t3, bd2_s, e2, if_true]
      exact fin _ _ _ _ _ _ hf
    · have e3 : ¬ I s = I st := by rw [I_eq] <;> omega
      obtain ⟨rs3, hd3, nx3, pv3, W3, c3, g1, g2, g3⟩ := sc_goBack (F := F) (σ := σ) (by omega) hS t4 (Or.inl rfl) (by omega)
      refine Or.inr ⟨d - 1, (wSt σ rs3 hd3 nx3 pv3 (I (c' s)), I st, I ((k + 1 : Nat) : Int)), by omega, ⟨by omega, rs3, hd3, nx3, pv3, _, W3, _, c3, _, _, by rw [hk1], g2, ?_, by rw [hk1]; omega, ?_⟩, fun rec => ?_⟩
      · rintro (z | z)
        · exact q z.symm
        · exact hDst z
      · rw [hk1]
        refine Nat.le_trans (Nat.succ_le_succ hcnt) (cntN_sub1 (y := s) (fun i _ hi => cdec_t.mpr (Or.inr (cdec_t.mp hi))) hs2 ?_ (cdec_t.mpr (Or.inl rfl)))
        cases hq : cdec (D' s) with
        | false => rfl
        | true => exact absurd (cdec_t.mp hq) h3.1
      · simp only [fc_X8_findCost_L55_c, e1, if_false, t3, bd2_s, e2, e3, g1, bd_s, lt_r, I_S]
  · have hf : FinC A p go gs rs' st c' := by
      obtain ⟨j1, j2, j3, j4⟩ := hJ
      refine ⟨fun u hu => ⟨j3 u hu, (j1.1 u hu).1⟩, fun u hu hc => (j1.2.1 u ((j1.1 u hu).2.mp hc)).2, Or.inr ⟨?_, fun t x hR => ?_⟩⟩
      · have h5 := j1.1 st hst
        have h6 : ¬ c' st < 1000000 := fun z => by
          rcases h5.2.mp z with z | z
          · exact t1 st z
          · exact hDst z
        omega
      · rcases dj_cmp j1 t (st / 4) (st % 4) x (by omega) hR with ⟨a1, a2⟩ | ⟨u, a1, a2⟩
        · rw [show 4 * (st / 4) + st % 4 = st by omega] at a1
          exact hDst a1
        · exact t1 u a1
    refine Or.inl fun rec => ⟨rs', hd', nx', pv', re', c', ?_, hf⟩
    simp only [fc_X8_findCost_L55_c, e1, if_false, t2, bd2_s, if_true]
    exact fin _ _ _ _ _ _ hf
end E1
