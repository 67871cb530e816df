/-! the class's walk: its corners -/
section H2
variable {F : Nat} {σ : CSt} {A : GD} {p go s1 st s0 b0 b1 : Nat} {o0 o1 : Int} {N D V : Nat → Nat} {T : Nat} {cf : Nat → Nat}
def wyX (A : GD) (N : Nat → Nat) (T b0 s0 : Nat) (o0 : Int) (b1 s1 : Nat) (o1 : Int) : Nat → Int := wyQ (fun i => d_X A (N i % 18)) T (ptX (d_B A) b0 s0 o0 0) (ptX (d_B A) b1 s1 o1 0)
def wyY (A : GD) (N : Nat → Nat) (T b0 s0 : Nat) (o0 : Int) (b1 s1 : Nat) (o1 : Int) : Nat → Int := wyQ (fun i => d_Y A (N i / 18)) T (ptY (d_B A) b0 s0 o0 0) (ptY (d_B A) b1 s1 o1 0)
theorem WkD.ch (h : WkD A p go s1 st s0 N D V T) : cntN (chE (edir D s1 T)) (T + 1) ≤ 64 := ch_le h.1 h.2.2.2.2.2.2.2 h.2.1 h.2.2.2.2.2.2.1
theorem cS_1 {fx fy : Nat → Int32} {n : Int32} : cs_fgs (cSt σ fx fy n) = cs_fgs σ := rfl
theorem cS_2 {fx fy : Nat → Int32} {n : Int32} : cs_fgoal (cSt σ fx fy n) = cs_fgoal σ := rfl
set_option maxHeartbeats 10000000 in
theorem sc_walk (hF : 2000 ≤ F) (hS : SrC σ A p go s1) (hst : cs_fstart σ = I st) (hss : cs_fss σ = I s0) (hs4 : s0 < 4) (hf : FinC A p go s1 (cs_frests σ) (4 * st + s0) cf) (hlt : cf (4 * st + s0) < 1000000) (h : WkD A p go s1 st s0 N D V T) (hn0 : NdP A st b0 s0 o0) (hn1 : NdP A go b1 s1 o1) : ∃ fx fy, fc_X8_walk F σ = some (cSt σ fx fy (I (nC (edir D s1 T) (T + 2) : Nat))) ∧ (∀ k, k < nC (edir D s1 T) (T + 2) → fx k = I (wyX A N T b0 s0 o0 b1 s1 o1 (cpF (edir D s1 T) (T + 2) k))) ∧ ∀ k, k < nC (edir D s1 T) (T + 2) → fy k = I (wyY A N T b0 s0 o0 b1 s1 o1 (cpF (edir D s1 T) (T + 2) k)) := by
  obtain ⟨hGr, hpen, hp50, hgo, hgoG, hgs, hgs4⟩ := id hS
  have hch := h.ch
  have hT := h.len
  obtain ⟨-, -, t1, t2, t3⟩ := h.2.1
  have t1' : N T = go := t1
  generalize hE : edir D s1 T = E at hch
  have hEm : ∀ i, i ≤ T → E i = D i := fun i hi => by rw [← hE]; exact ed_m hi
  have hEe : E (T + 1) = opp s1 := by rw [← hE]; exact ed_e
  have hcm : ∀ m, m ≤ T + 1 → cntN (chE E) m ≤ 64 := fun m hm => Nat.le_trans (cntN_mn hm) hch
  have hx0 : wyX A N T b0 s0 o0 b1 s1 o1 0 = ptX (d_B A) b0 s0 o0 0 := rfl
  have hy0 : wyY A N T b0 s0 o0 b1 s1 o1 0 = ptY (d_B A) b0 s0 o0 0 := rfl
  have hxm : ∀ m, m ≤ T → wyX A N T b0 s0 o0 b1 s1 o1 (m + 1) = d_X A (N m % 18) := fun m hm => wyQ_m hm
  have hym : ∀ m, m ≤ T → wyY A N T b0 s0 o0 b1 s1 o1 (m + 1) = d_Y A (N m / 18) := fun m hm => wyQ_m hm
  have hxe : wyX A N T b0 s0 o0 b1 s1 o1 (T + 2) = ptX (d_B A) b1 s1 o1 0 := wyQ_e
  have hye : wyY A N T b0 s0 o0 b1 s1 o1 (T + 2) = ptY (d_B A) b1 s1 o1 0 := wyQ_e
  generalize wyX A N T b0 s0 o0 b1 s1 o1 = qx at hx0 hxm hxe ⊢
  generalize wyY A N T b0 s0 o0 b1 s1 o1 = qy at hy0 hym hye ⊢
  have xy : ∀ (fx fy : Nat → Int32) (n : Int32) (i : Nat), i ≤ T → fc_X4_xOf F (cSt σ fx fy n) (I (N i)) = some (I (qx (i + 1))) ∧ fc_X4_yOf F (cSt σ fx fy n) (I (N i)) = some (I (qy (i + 1))) := fun fx fy n i hi => by
    rw [hxm i hi, hym i hi]
    exact sc_xOf (F := F) (σ := cSt σ fx fy n) (A := A) hGr.1 (h.ing i hi)
  have l166 : ∀ (fx fy : Nat → Int32), fx 0 = I (qx 0) → fy 0 = I (qy 0) → (∀ j, j < T + 1 → chE E j = true → fx (1 + cntN (chE E) j) = I (qx (j + 1))) → (∀ j, j < T + 1 → chE E j = true → fy (1 + cntN (chE E) j) = I (qy (j + 1))) → ∃ fx' fy', fc_X8_walk_L166 F (cSt σ fx fy (I ((1 + cntN (chE E) (T + 1) : Nat) : Int))) = some (cSt σ fx' fy' (I (nC E (T + 2) : Nat))) ∧ (∀ k, k < nC E (T + 2) → fx' k = I (qx (cpF E (T + 2) k))) ∧ ∀ k, k < nC E (T + 2) → fy' k = I (qy (cpF E (T + 2) k)) := fun fx fy z1 z2 z3 z4 => by
    obtain ⟨⟨r1, u1, -, u2⟩, r2, u3, -, u4⟩ := sc_outer (F := F) (σ := cSt σ fx fy (I ((1 + cntN (chE E) (T + 1) : Nat) : Int))) (b := b1) (s := s1) (o := o1) (B := d_B A) hgs4
    obtain ⟨v1, v2⟩ := xy fx fy (I ((1 + cntN (chE E) (T + 1) : Nat) : Int)) T (Nat.le_refl _)
    rw [t1', hxm T (Nat.le_refl _), t1', hn1.2.1] at v1
    rw [t1', hym T (Nat.le_refl _), t1', hn1.2.2] at v2
    have hc := hcm (T + 1) (Nat.le_refl _)
    refine ⟨upd fx (1 + cntN (chE E) (T + 1)) (I (qx (T + 2))), upd fy (1 + cntN (chE E) (T + 1)) (I (qy (T + 2))), ?_, ?_, ?_⟩
    · unfold fc_X8_walk_L166
      rw [cS_1, cS_2, hgo, hgs, v1, bd_s, u1, bd_s, v2, bd_s, u3, bd_s, u2, u4, sc_addC (by omega), bd_s, hxe, hye]
      exact congrArg (fun q : Nat => some (cSt σ _ _ (I (q : Int)))) (by show 1 + cntN (chE E) (T + 1) + 1 = 2 + cntN (chE E) (T + 1); omega)
    · refine cor_fin ?_ (fun m hm hc2 => ?_) ?_
      · unfold upd; rw [if_neg (by omega)]; exact z1
      · have : cntN (chE E) m < cntN (chE E) (T + 1) := by
          have a1 := cntN_mn (p := chE E) (show m + 1 ≤ T + 1 by omega)
          have a2 := cnt_y hc2
          omega
        unfold upd; rw [if_neg (by omega)]; exact z3 m hm hc2
      · unfold upd; rw [if_pos rfl]
    · refine cor_fin ?_ (fun m hm hc2 => ?_) ?_
      · unfold upd; rw [if_neg (by omega)]; exact z2
      · have : cntN (chE E) m < cntN (chE E) (T + 1) := by
          have a1 := cntN_mn (p := chE E) (show m + 1 ≤ T + 1 by omega)
          have a2 := cnt_y hc2
          omega
        unfold upd; rw [if_neg (by omega)]; exact z4 m hm hc2
      · unfold upd; rw [if_pos rfl]
  have l129 : ∀ (fx fy : Nat → Int32), fx 0 = I (qx 0) → fy 0 = I (qy 0) → (∀ j, j < T → chE E j = true → fx (1 + cntN (chE E) j) = I (qx (j + 1))) → (∀ j, j < T → chE E j = true → fy (1 + cntN (chE E) j) = I (qy (j + 1))) → ∃ fx' fy', fc_X8_walk_L129 F (cSt σ fx fy (I ((1 + cntN (chE E) T : Nat) : Int))) (I (D T)) = some (cSt σ fx' fy' (I (nC E (T + 2) : Nat))) ∧ (∀ k, k < nC E (T + 2) → fx' k = I (qx (cpF E (T + 2) k))) ∧ ∀ k, k < nC E (T + 2) → fy' k = I (qy (cpF E (T + 2) k)) := fun fx fy z1 z2 z3 z4 => by
    have hop := sc_opp (F := F) (σ := cSt σ fx fy (I ((1 + cntN (chE E) T : Nat) : Int))) s1 hgs4
    have hol := opp_lt s1
    have hdT := (h.2.1.1 T (Nat.le_refl _)).1
    unfold fc_X8_walk_L129
    rw [cS_1, hgs, hop, bd_s]
    by_cases c1 : D T = opp s1
    · have hcT : chE E T = false := by
        unfold chE
        rw [hEe, hEm T (Nat.le_refl _), c1]
        simp
      rw [if_pos (by rw [c1])]
      have hcn := cnt_n hcT
      obtain ⟨fx', fy', w1, w2⟩ := l166 fx fy z1 z2 (fun j hj hc => z3 j (by rcases Nat.lt_or_ge j T with q | q; exact q; exact absurd hc (by rw [show j = T by omega, hcT]; simp)) hc) (fun j hj hc => z4 j (by rcases Nat.lt_or_ge j T with q | q; exact q; exact absurd hc (by rw [show j = T by omega, hcT]; simp)) hc)
      rw [hcn] at w1
      exact ⟨fx', fy', w1, w2⟩
    · have hcT : chE E T = true := by
        unfold chE
        rw [hEe, hEm T (Nat.le_refl _)]
        simpa using Ne.symm c1
      have e1 : ¬ I (D T) = I (opp s1 : Nat) := by rw [I_eq] <;> omega
      have hcn := cnt_y hcT
      obtain ⟨v1, v2⟩ := xy fx fy (I ((1 + cntN (chE E) T : Nat) : Int)) T (Nat.le_refl _)
      rw [t1'] at v1 v2
      have hc := hcm T (by omega)
      obtain ⟨p1, p2⟩ := psh (ch := chE E) (q := fun j => qx (j + 1)) z1 z3 hcT (v := I (qx (T + 1))) rfl
      obtain ⟨p3, p4⟩ := psh (ch := chE E) (q := fun j => qy (j + 1)) z2 z4 hcT (v := I (qy (T + 1))) rfl
      obtain ⟨fx', fy', w1, w2⟩ := l166 _ _ p1 p3 p2 p4
      refine ⟨fx', fy', ?_, w2⟩
      rw [if_neg e1, cS_2, hgo, v1, bd_s, v2, bd_s, sc_addC (by omega), bd_s, ← w1]
      exact congrArg (fun q : Nat => fc_X8_walk_L166 F (cSt σ _ _ (I (q : Int)))) (by omega)
  obtain ⟨⟨r1, u1, -, u2⟩, r2, u3, -, u4⟩ := sc_outer (F := F) (σ := cSt σ (cs_fcx σ) (cs_fcy σ) (I ((0 : Nat) : Int))) (b := b0) (s := s0) (o := o0) (B := d_B A) hs4
  obtain ⟨v1, v2⟩ := xy (cs_fcx σ) (cs_fcy σ) (I ((0 : Nat) : Int)) 0 (Nat.zero_le _)
  have hN0 := h.2.2.1
  have hD0 := h.2.2.2.1
  rw [hxm 0 (Nat.zero_le _), hN0, hn0.2.1] at v1
  rw [hym 0 (Nat.zero_le _), hN0, hn0.2.2] at v2
  have start : fc_X8_walk F σ = fc_X8_walk_L59 F F (cSt σ (upd (cs_fcx σ) 0 (I (qx 0))) (upd (cs_fcy σ) 0 (I (qy 0))) (I ((1 : Nat) : Int))) (I (N 0)) (I (D 0)) 0 := by
    show lt (cSt σ (cs_fcx σ) (cs_fcy σ) (I ((0 : Nat) : Int))) (fun σ2 => bd (fc_X4_xOf F σ2 (cs_fstart σ2)) (fun r14 => bd (fc_X3_stepX F σ2 (cs_fss σ2)) (fun r21 => bd (fc_X4_yOf F σ2 (cs_fstart σ2)) (fun r33 => bd (fc_X3_stepY F σ2 (cs_fss σ2)) (fun r40 => bd (fc_X8_addCorner F σ2 (r14 - r21) (r33 - r40)) (fun σ44 => lt (cs_fstart σ44) (fun x1_51 => lt (cs_fss σ44) (fun x2_56 => fc_X8_walk_L59 F F σ44 x1_51 x2_56 0)))))))) = _
    have e1 : ∀ fx fy n, cs_fstart (cSt σ fx fy n) = I st := fun _ _ _ => hst
    have e2 : ∀ fx fy n, cs_fss (cSt σ fx fy n) = I s0 := fun _ _ _ => hss
    rw [lt_r, e1, e2, v1, bd_s, u1, bd_s, v2, bd_s, u3, bd_s, u2, u4, sc_addC (by omega), bd_s, lt_r, e1, lt_r, e2, hN0, hD0, hx0, hy0]
  rw [start]
  refine lp_inv (P := fun d a => d ≤ T ∧ ∃ fx fy, a = (cSt σ fx fy (I ((1 + cntN (chE E) (T - d) : Nat) : Int)), I (N (T - d)), I (D (T - d)), I ((T - d : Nat) : Int)) ∧ fx 0 = I (qx 0) ∧ fy 0 = I (qy 0) ∧ (∀ j, j < T - d → chE E j = true → fx (1 + cntN (chE E) j) = I (qx (j + 1))) ∧ ∀ j, j < T - d → chE E j = true → fy (1 + cntN (chE E) j) = I (qy (j + 1))) (Q := fun q => ∃ fx' fy', q = some (cSt σ fx' fy' (I (nC E (T + 2) : Nat))) ∧ (∀ k, k < nC E (T + 2) → fx' k = I (qx (cpF E (T + 2) k))) ∧ ∀ k, k < nC E (T + 2) → fy' k = I (qy (cpF E (T + 2) k))) (fun d a hp => ?_) F T _ (by omega) ⟨Nat.le_refl _, _, _, by rw [Nat.sub_self]; rfl, rfl, rfl, by rw [Nat.sub_self]; exact fun j hj => absurd hj (Nat.not_lt_zero _), by rw [Nat.sub_self]; exact fun j hj => absurd hj (Nat.not_lt_zero _)⟩
  obtain ⟨hd, fx, fy, rfl, z1, z2, z3, z4⟩ := hp
  have e3 : ∀ i, i ≤ T → ¬ (1296 : Int32) ≤ I i := fun i hi => by rw [show (1296 : Int32) = I 1296 from rfl, I_le] <;> omega
  have nx := sc_next (F := F) (σ := cSt σ fx fy (I ((1 + cntN (chE E) (T - d) : Nat) : Int))) (by omega) hS hs4 hf hlt h (i := T - d) (by omega)
  cases d with
  | zero =>
    refine Or.inl fun rec => ?_
    obtain ⟨fx', fy', w1, w2⟩ := l129 fx fy z1 z2 z3 z4
    refine ⟨fx', fy', ?_, w2⟩
    rw [if_neg (by omega)] at nx
    show fc_X8_walk_L59_c F _ (cSt σ fx fy (I ((1 + cntN (chE E) (T - 0) : Nat) : Int))) (I (N (T - 0))) (I (D (T - 0))) (I ((T - 0 : Nat) : Int)) = _
    unfold fc_X8_walk_L59_c
    rw [if_neg (e3 _ (by omega)), nx, bd_s, if_pos rfl]
    exact w1
  | succ d =>
    have hk1 : T - d = T - (d + 1) + 1 := by omega
    have hkT : T - (d + 1) < T := by omega
    generalize T - (d + 1) = i at z3 z4 nx hk1 hkT ⊢
    rw [if_pos hkT] at nx
    obtain ⟨s1', s2, s3, s4, -⟩ := h.2.1.2.1 i hkT
    have hd1 := (h.2.1.1 (i + 1) (by omega)).1
    have hdi := (h.2.1.1 i (by omega)).1
    have hin := h.ing i (by omega)
    have s2' : opA A (N i) (D (i + 1)) = true := s2
    have s3' : N (i + 1) = tgA (N i) (D (i + 1)) := s3
    have e4 : ¬ I (D (i + 1)) = -1 := I_nm1 (by omega)
    have nb : ∀ (f g : Nat → Int32) (n : Int32), fc_X4_neighbour F (cSt σ f g n) (I (N i)) (I (D (i + 1))) = some (I (N (i + 1))) := fun f g n => by
      have := sc_nbr (F := F) (σ := cSt σ f g n) (A := A) hGr hin hd1
      rw [if_pos s2', ← s3'] at this
      exact this
    have hcE : chE E i = decide (D (i + 1) ≠ D i) := by
      unfold chE
      rw [hEm i (by omega), hEm (i + 1) (by omega)]
    by_cases c1 : D (i + 1) = D i
    · have hci : chE E i = false := by
        rw [hcE]
        simp [c1]
      have e5 : I (D (i + 1)) = I (D i) := by rw [c1]
      have hcn := cnt_n hci
      refine Or.inr ⟨d, (cSt σ fx fy (I ((1 + cntN (chE E) (i + 1) : Nat) : Int)), I (N (i + 1)), I (D (i + 1)), I ((i + 1 : Nat) : Int)), by omega, ⟨by omega, fx, fy, by rw [hk1], z1, z2, fun j hj hc => z3 j ?_ hc, fun j hj hc => z4 j ?_ hc⟩, fun rec => ?_⟩
      · rcases Nat.lt_or_ge j i with q | q
        · exact q
        · exact absurd hc (by rw [show j = i by omega, hci]; simp)
      · rcases Nat.lt_or_ge j i with q | q
        · exact q
        · exact absurd hc (by rw [show j = i by omega, hci]; simp)
      · show fc_X8_walk_L59_c F (fun a b c d => rec (a, b, c, d)) (cSt σ fx fy (I ((1 + cntN (chE E) i : Nat) : Int))) (I (N i)) (I (D i)) (I i) = _
        unfold fc_X8_walk_L59_c fc_X8_walk_L109
        rw [if_neg (e3 i (by omega)), nx, bd_s, if_neg e4, if_pos e5, nb, bd_s, lt_r, I_S, hcn]
    · have hci : chE E i = true := by
        rw [hcE]
        simp [c1]
      have e5 : ¬ I (D (i + 1)) = I (D i) := by rw [I_eq] <;> omega
      have hcn := cnt_y hci
      have hc := hcm i (by omega)
      obtain ⟨v1, v2⟩ := xy fx fy (I ((1 + cntN (chE E) i : Nat) : Int)) i (by omega)
      obtain ⟨p1, p2⟩ := psh (ch := chE E) (q := fun j => qx (j + 1)) z1 z3 hci (v := I (qx (i + 1))) rfl
      obtain ⟨p3, p4⟩ := psh (ch := chE E) (q := fun j => qy (j + 1)) z2 z4 hci (v := I (qy (i + 1))) rfl
      refine Or.inr ⟨d, (cSt σ (upd fx (1 + cntN (chE E) i) (I (qx (i + 1)))) (upd fy (1 + cntN (chE E) i) (I (qy (i + 1)))) (I ((1 + cntN (chE E) (i + 1) : Nat) : Int)), I (N (i + 1)), I (D (i + 1)), I ((i + 1 : Nat) : Int)), by omega, ⟨by omega, _, _, by rw [hk1], p1, p3, fun j hj hc => p2 j (by omega) hc, fun j hj hc => p4 j (by omega) hc⟩, fun rec => ?_⟩
      show fc_X8_walk_L59_c F (fun a b c d => rec (a, b, c, d)) (cSt σ fx fy (I ((1 + cntN (chE E) i : Nat) : Int))) (I (N i)) (I (D i)) (I i) = _
      unfold fc_X8_walk_L59_c fc_X8_walk_L109
      rw [if_neg (e3 i (by omega)), nx, bd_s, if_neg e4, if_neg e5, v1, bd_s, v2, bd_s, sc_addC (by omega), bd_s, nb, bd_s, lt_r, I_S]
      exact congrArg (fun q : Nat => rec (cSt σ _ _ (I (q : Int)), _, _, _)) (by omega)
end H2
