/-! write, written: the calls -/
section W3
variable {F : Nat} {σ σ' σ'' : CSt} {τ τ' τ'' : MS} {O : Nat → Int32} {m : Nat}
def WrC (σ : CSt) (τ : MS) : Prop := ∃ (O : Nat → Int32) (m : Nat), m ≤ 201 ∧ SbO σ O m ∧ OuM τ O m
theorem wr_x {v : RV} (hv : RtI v) {k : Nat} (hk : k < v.2.1) : ∃ a b : Nat, a ≤ 99 ∧ b ≤ 99 ∧ v.2.2.1 k = I a ∧ v.2.2.2 k = I b ∧ rX v k = a ∧ rY v k = b := by
  obtain ⟨⟨p1, p2⟩, p3, p4⟩ := hv.2.2.1 k hk
  refine ⟨(rX v k).toNat, (rY v k).toNat, by omega, by omega, ?_, ?_, by omega, by omega⟩
  · rw [show (((rX v k).toNat : Nat) : Int) = rX v k by omega]
    exact (I_of _).symm
  · rw [show (((rY v k).toNat : Nat) : Int) = rY v k by omega]
    exact (I_of _).symm
theorem wr_lp (hF : 1000 ≤ F) {v : RV} {c : Nat} {τ0 : MS} (hv : RtI v) (hR : ∀ τ9, KoM τ0 τ9 → RdR F τ9 c v) : ∀ (d t N M : Nat) (σ : CSt) (τ : MS) (O : Nat → Int32) (m : Nat), t + 1 + d = v.2.1 → m + 3 * d ≤ 201 → d < N → d < M → SbO σ O m → OuM τ O m → KoM τ0 τ → ∃ (σ9 : CSt) (τ9 : MS) (m9 : Nat), fc_X9_write_L43 F N σ v (I ((t + 1 : Nat) : Int)) = some (I m9, σ9) ∧ fm_write_L63 F M τ (I c) (I t) = some (I m9, τ9) ∧ WrC σ9 τ9 ∧ SbK σ σ9 ∧ KoM τ0 τ9 := by
  have h66 := hv.2.1
  intro d
  induction d with
  | zero =>
    intro t N M σ τ O m h1 h2 hN hM hS hO hK
    obtain ⟨N9, rfl⟩ : ∃ N9, N = N9 + 1 := ⟨N - 1, by omega⟩
    obtain ⟨M9, rfl⟩ : ∃ M9, M = M9 + 1 := ⟨M - 1, by omega⟩
    have z1 : I ((v.2.1 : Nat) : Int) ≤ I ((t + 1 : Nat) : Int) := by rw [I_le] <;> omega
    have z2 : I ((v.2.1 - 1 : Nat) : Int) ≤ I ((t : Nat) : Int) := by rw [I_le] <;> omega
    refine ⟨σ, τ, m, ?_, ?_, ⟨O, m, by omega, hS, hO⟩, SbK.rf, hK⟩
    · show fc_X9_write_L43_c F (fc_X9_write_L43 F N9) σ v (I ((t + 1 : Nat) : Int)) = _
      unfold fc_X9_write_L43_c fc_X6_corners fc_J4_length_8abf5 fc_J5_length_8abf5
      rw [bd_s, I_nat, if_pos z1, bd_s, bd_s, hS.1]
    · show fm_write_L63_c F (fm_write_L63 F M9) τ (I c) (I t) = _
      unfold fm_write_L63_c
      rw [sm_segs (hR τ hK) hv, bd_s, if_pos z2, hO.1]
  | succ d ih =>
    intro t N M σ τ O m h1 h2 hN hM hS hO hK
    obtain ⟨N9, rfl⟩ : ∃ N9, N = N9 + 1 := ⟨N - 1, by omega⟩
    obtain ⟨M9, rfl⟩ : ∃ M9, M = M9 + 1 := ⟨M - 1, by omega⟩
    have z1 : ¬ I ((v.2.1 : Nat) : Int) ≤ I ((t + 1 : Nat) : Int) := by rw [I_le] <;> omega
    have z2 : ¬ I ((v.2.1 - 1 : Nat) : Int) ≤ I ((t : Nat) : Int) := by rw [I_le] <;> omega
    have z3 : ¬ I ((t + 1 : Nat) : Int) = 0 := by rw [I_0, I_eq] <;> omega
    have e1 : I ((t + 1 : Nat) : Int) - 1 = I t := by rw [I_1, I_sub]; exact congrArg I (by omega)
    have hs : t + 1 < v.2.1 := by omega
    have ixt : ix (I ((t + 1 : Nat) : Int)) v.2.1 = true := of_eq_true (I_ix (by omega) (by omega) (by omega))
    have n6 : (I ((t + 1 : Nat) : Int)).toNatClampNeg = t + 1 := by rw [I_cl (by omega) (by omega)]; omega
    obtain ⟨a, b, ha, hb, xa, yb, rxa, ryb⟩ := wr_x hv hs
    have ec : ∀ k9, fc_X9_write_L43_c F k9 σ v (I ((t + 1 : Nat) : Int)) = if b2 (lvB v t) = 0 then (bd (fc_J4_append_cf468 F σ 86) (fun σ129 => bd (fc_J4_append_bf812 F σ129 (I b)) (fun σ138 => k9 σ138 v (I ((t + 1 + 1 : Nat) : Int))))) else (bd (fc_J4_append_cf468 F σ 72) (fun σ107 => bd (fc_J4_append_bf812 F σ107 (I a)) (fun σ116 => k9 σ116 v (I ((t + 1 + 1 : Nat) : Int))))) := fun k9 => by
      unfold fc_X9_write_L43_c fc_X6_corners fc_X9_write_L142
      simp only [bd_s, I_nat, z1, if_false, z3, e1, sc_lvl hv hs, eq_true ixt, gd_T, n6, xa, yb, lt_r, I_S]
    have em : ∀ k9, fm_write_L63_c F k9 τ (I c) (I t) = if b2 (lvB v t) = 0 then fm_write_L91 F k9 τ (I c) (I t) (b2 (lvB v t)) 86 else fm_write_L91 F k9 τ (I c) (I t) (b2 (lvB v t)) 72 := fun k9 => by
      unfold fm_write_L63_c
      rw [sm_segs (hR τ hK) hv, bd_s, if_neg z2, sm_flat (hR τ hK) hv hs, bd_s]
    show ∃ (σ9 : CSt) (τ9 : MS) (m9 : Nat), fc_X9_write_L43_c F (fc_X9_write_L43 F N9) σ v (I ((t + 1 : Nat) : Int)) = some (I m9, σ9) ∧ fm_write_L63_c F (fm_write_L63 F M9) τ (I c) (I t) = some (I m9, τ9) ∧ _
    rw [ec, em]
    unfold fm_write_L91 fm_write_L118
    cases hl : lvB v t with
    | false =>
      rw [if_pos (show b2 false = 0 from rfl), if_pos (show b2 false = 0 from rfl)]
      obtain ⟨σ1, g1, g2, g3⟩ := sb_chr (F := F) hS (by omega) (c := 86) (by omega)
      obtain ⟨τ1, k1, k2, k3⟩ := om_chr (F := F) hO (by omega) 86
      obtain ⟨σ2, g4, g5, g6⟩ := sb_int (F := F) (by omega) g2 hb (by omega)
      obtain ⟨τ2, k4, k5, k6⟩ := om_int (F := F) k2 hb (by omega)
      have hl2 := nmL_le (v := b)
      obtain ⟨-, cy⟩ := (hR τ1 (hK.tr k3)).2.2.2.2 (t + 1) hs
      rw [ryb] at cy
      have g1' : fc_J4_append_cf468 F σ 86 = some σ1 := g1
      have k2' : OuM τ1 (upd O m (I ((86 : Nat) : Int))) (m + 1) := k2
      obtain ⟨σ9, τ9, m9, q1, q2, q3, q4, q5⟩ := ih (t + 1) N9 M9 σ2 τ2 _ (m + 1 + nmL b) (by omega) (by omega) (by omega) (by omega) g5 k5 ((hK.tr k3).tr k6)
      refine ⟨σ9, τ9, m9, ?_, ?_, q3, (g3.tr g6).tr q4, q5⟩
      · rw [g1', bd_s, g4, bd_s, q1]
      · rw [k1, bd_s, if_pos (show b2 false = 0 from rfl), I_S, cy, bd_s, k4, bd_s, lt_r, q2]
    | true =>
      rw [if_neg (show ¬ b2 true = 0 by decide), if_neg (show ¬ b2 true = 0 by decide)]
      obtain ⟨σ1, g1, g2, g3⟩ := sb_chr (F := F) hS (by omega) (c := 72) (by omega)
      obtain ⟨τ1, k1, k2, k3⟩ := om_chr (F := F) hO (by omega) 72
      obtain ⟨σ2, g4, g5, g6⟩ := sb_int (F := F) (by omega) g2 ha (by omega)
      obtain ⟨τ2, k4, k5, k6⟩ := om_int (F := F) k2 ha (by omega)
      have hl2 := nmL_le (v := a)
      obtain ⟨cx, -⟩ := (hR τ1 (hK.tr k3)).2.2.2.2 (t + 1) hs
      rw [rxa] at cx
      have g1' : fc_J4_append_cf468 F σ 72 = some σ1 := g1
      obtain ⟨σ9, τ9, m9, q1, q2, q3, q4, q5⟩ := ih (t + 1) N9 M9 σ2 τ2 _ (m + 1 + nmL a) (by omega) (by omega) (by omega) (by omega) g5 k5 ((hK.tr k3).tr k6)
      refine ⟨σ9, τ9, m9, ?_, ?_, q3, (g3.tr g6).tr q4, q5⟩
      · rw [g1', bd_s, g4, bd_s, q1]
      · rw [k1, bd_s, if_neg (show ¬ b2 true = 0 by decide), I_S, cx, bd_s, k4, bd_s, lt_r, q2]
theorem sb_clr (h : SbO σ O m) : ∃ σ9 : CSt, fc_J4_setLength_d00df F σ 0 = some σ9 ∧ SbO σ9 (fun _ => 0) 0 ∧ SbK σ σ9 := by
  obtain ⟨h1, h2, h3, h4, h5, h6⟩ := id h
  obtain ⟨σ1, g1, ⟨a1, a2, a3, a4, a5, a6⟩, g3, g4⟩ := sb_ens (F := F) h (x := 0) (by omega)
  have g1' : fc_J5_ensureCapacityInternal_d00df F σ 0 = some σ1 := g1
  unfold fc_J4_setLength_d00df fc_J5_setLength_d00df fc_J5_setLength_d00df_L76
  have z1 : (0 : Int32) ≤ cs_sct σ1 := by rw [a1, I_0, I_le] <;> omega
  rw [if_pos (show (0 : Int32) ≤ 0 from i_rf 0), g1', bd_s, if_pos z1]
  by_cases hq : cs_sct σ1 ≤ 0
  · rw [if_pos hq, lt_r, bd_s]
    exact ⟨_, rfl, ⟨rfl, Nat.zero_le _, a3, a4, a5, fun j hj => absurd hj (Nat.not_lt_zero _)⟩, g3.tr (SbK_sct _)⟩
  · rw [if_neg hq, lt_r, lt_r, bd_s]
    exact ⟨_, rfl, ⟨rfl, Nat.zero_le _, a3, a4, a5, fun j hj => absurd hj (Nat.not_lt_zero _)⟩, (g3.tr (SbK_sml _)).tr (SbK_sct _)⟩
theorem op_write (hF : 1000 ≤ F) (hC : Core σ τ) (hW : WrC σ τ) (x : Int32) : ∃ (r : Int32) (σ' : CSt) (τ' : MS), fc_X9_write F σ x = some (r, σ') ∧ fm_write F τ x = some (r, τ') ∧ WrC σ' τ' ∧ SbK σ σ' ∧ KoM τ τ' := by
  unfold fc_X9_write fm_write
  rcases lk_ok (F := F) hC x with ⟨a1, a2⟩ | ⟨nl, c, h1, h2, h3, rfl, a1, a2⟩
  · rw [a1, a2]
    exact ⟨-1001, σ, τ, by rw [bd_s, if_pos rfl], by rw [bd_s, if_pos rfl], hW, SbK.rf, KoM.rf⟩
  · have ixc : ix (I c) 10 = true := of_eq_true (I_ix (by omega) (by omega) (by omega))
    have n6 : (I c).toNatClampNeg = c := by rw [I_cl (by omega) (by omega)]; omega
    rw [a1, a2, bd_s, bd_s, if_neg (show ¬ (1 : Int32) = 0 by decide), if_neg (show ¬ (1 : Int32) = 0 by decide), gd_t ixc, n6]
    rcases rt_get (F := F) hC h3 h1 h2 with ⟨w1, w2, w3⟩ | ⟨v, w1, hv, w3, w4⟩
    · rw [w1, mo_N, w2, bd_s]
      exact ⟨-1003, σ, τ, rfl, by rw [if_pos rfl], hW, SbK.rf, KoM.rf⟩
    · have hR : ∀ τ9, KoM τ τ9 → RdR F τ9 c v := fun τ9 hk => by
        rcases rt_get (F := F) (hC.kf Kf.rf hk.1 hk.2.1) h3 h1 h2 with ⟨w5, -⟩ | ⟨v9, w5, w6, w7, w8⟩
        · rw [w1] at w5
          cases w5
        · rw [w1] at w5
          cases w5
          exact w8
      have h66 := hv.2.1
      have h2c := hv.1
      obtain ⟨O, m, hm, hS, hO⟩ := hW
      rw [w1, mo_S, w4.1, bd_s, if_neg (show ¬ (1 : Int32) = 0 by decide), lt_r]
      obtain ⟨σ1, s1, s2, s3⟩ := sb_clr (F := F) hS
      have o2 : OuM (ms_outMany_s τ 0) (fun _ => 0) 0 := ⟨rfl, fun j hj => absurd hj (Nat.not_lt_zero _)⟩
      have o3 : KoM τ (ms_outMany_s τ 0) := KoM_many _
      obtain ⟨xx, yy, hxx, hyy, cxx, cyy, rxx, ryy⟩ := wr_x hv (show 0 < v.2.1 by omega)
      obtain ⟨σ2, s4, s5, s6⟩ := sb_chr (F := F) s2 (by omega) (c := 77) (by omega)
      obtain ⟨τ2, o4, o5, o6⟩ := om_chr (F := F) o2 (by omega) 77
      have hx2 := nmL_le (v := xx)
      have hy2 := nmL_le (v := yy)
      obtain ⟨σ3, s7, s8, s9⟩ := sb_int (F := F) (by omega) s5 hxx (by omega)
      obtain ⟨τ3, o7, o8, o9⟩ := om_int (F := F) o5 hxx (by omega)
      obtain ⟨σ4, t1, t2, t3⟩ := sb_chr (F := F) s8 (by omega) (c := 44) (by omega)
      obtain ⟨τ4, u1, u2, u3⟩ := om_chr (F := F) o8 (by omega) 44
      obtain ⟨σ5, t4, t5, t6⟩ := sb_int (F := F) (by omega) t2 hyy (by omega)
      obtain ⟨τ5, u4, u5, u6⟩ := om_int (F := F) u2 hyy (by omega)
      have k2 : KoM τ τ2 := o3.tr o6
      have k4 : KoM τ τ4 := (k2.tr o9).tr u3
      obtain ⟨N9, hN9⟩ : ∃ N9, F = N9 + 1 := ⟨F - 1, by omega⟩
      obtain ⟨σ9, τ9, m9, q1, q2, q3, q4, q5⟩ := wr_lp (F := F) hF hv hR (v.2.1 - 1) 0 N9 F σ5 τ5 _ _ (by omega) (by omega) (by omega) (by omega) t5 u5 (k4.tr u6)
      refine ⟨I m9, σ9, τ9, ?_, ?_, q3, ((((s3.tr s6).tr s9).tr t3).tr t6).tr q4, q5⟩
      · rw [s1, bd_s]
        have z1 : ¬ I ((v.2.1 : Nat) : Int) ≤ 0 := by rw [I_0, I_le] <;> omega
        have stp : ∀ (K : Nat), fc_X9_write_L43 F (K + 1) σ1 v 0 = fc_X9_write_L43_c F (fc_X9_write_L43 F K) σ1 v 0 := fun _ => rfl
        have key : fc_X9_write_L43 F (N9 + 1) σ1 v 0 = some (I m9, σ9) := by
          rw [stp]
          unfold fc_X9_write_L43_c fc_X6_corners fc_X9_write_L142
          have s4' : fc_J4_append_cf468 F σ1 77 = some σ2 := s4
          have t1' : fc_J4_append_cf468 F σ3 44 = some σ4 := t1
          rw [bd_s, I_nat, if_neg z1, if_pos (show (0 : Int32) = 0 from rfl), s4', bd_s, gd_t (of_eq_true (ixz (n := v.2.1) (by omega))), cN0, cxx, s7, bd_s, t1', bd_s, gd_t (of_eq_true (ixz (n := v.2.1) (by omega))), cyy, t4, bd_s, lt_r]
          exact q1
        rw [← hN9] at key
        exact key
      · have c0 : ∀ τ9, KoM τ τ9 → fm_cornerX F τ9 (I c) 0 = some (I xx) ∧ fm_cornerY F τ9 (I c) 0 = some (I yy) := fun τ9 hk => by
          have := (hR τ9 hk).2.2.2.2 0 (by omega)
          rw [rxx, ryy] at this
          exact this
        rw [o4, bd_s, (c0 τ2 k2).1, bd_s, o7, bd_s, u1, bd_s, (c0 τ4 k4).2, bd_s, u4, bd_s]
        exact q2
theorem op_written (hW : WrC σ τ) (x : Int32) : ∃ r : Int32, fc_X9_written F σ x = some r ∧ fm_written F τ x = some r := by
  obtain ⟨O, m, hm, ⟨h1, h2, h3, h4, h5, h6⟩, h7, h8⟩ := hW
  unfold fc_X9_written fm_written fm_written_L26 fc_J4_length_8abf5 fc_J5_length_8abf5
  rw [h1, h7, bd_s, bd_s, sc_isWithin, sm_in, bd_s, bd_s]
  have em : I ((m : Nat) : Int) - 1 = I ((m : Int) - 1) := by rw [I_1, I_sub]
  rw [em]
  cases hq : (decide (0 ≤ x) && decide (x ≤ I ((m : Int) - 1))) with
  | false => exact ⟨-1001, by rw [if_pos (show b2 false = 0 by decide)], by rw [if_pos (show b2 false = 0 by decide)]⟩
  | true =>
    obtain ⟨e1, e2, e3⟩ := in_num (a := 0) (b := (m : Int) - 1) (by omega) (by omega) (by omega) (by omega) hq
    obtain ⟨j, hj⟩ : ∃ j : Nat, x.toInt = j := ⟨x.toInt.toNat, by omega⟩
    rw [hj] at e1 e2 e3
    subst e1
    rw [if_neg (show ¬ b2 true = 0 by decide), if_neg (show ¬ b2 true = 0 by decide)]
    have n6 : (I ((j : Nat) : Int)).toNatClampNeg = j := by rw [I_cl (by omega) (by omega)]; omega
    have z1 : ¬ I ((cs_scap σ : Nat) : Int) < I ((m : Nat) : Int) := by rw [I_lt] <;> omega
    have z2 : ¬ I ((j : Nat) : Int) < 0 := by rw [I_0, I_lt] <;> omega
    have z3 : I ((j : Nat) : Int) < I ((m : Nat) : Int) := by rw [I_lt] <;> omega
    obtain ⟨b, hb⟩ := byt_n (h5 j).1 (h5 j).2
    unfold fc_J4_charAt_5068e fc_J5_charAt_5068e fc_J0_checkIndex_df160 fc_J3_checkIndex_8e157_n
    rw [h1, shr0, I_nat, if_neg z1, lt_r, if_neg z2, if_pos z3, bd_s, bd_s, if_pos (show (0 : Int32) = 0 from rfl), gd_t (of_eq_true (I_ix (by omega) (by omega) (by omega))), n6, hb, byt_2 b, gd_t (byt_3 b), bd_s, gd_t (byt_3 b), bd_s, gd_t (of_eq_true (I_ix (by omega) (by omega) (by omega)))]
    refine ⟨_, rfl, ?_⟩
    rw [h8 j (by omega), ← h6 j (by omega), hb]
end W3
