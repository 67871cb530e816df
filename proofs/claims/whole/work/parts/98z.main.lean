/-! the invariant of the law's loop -/
section Z1
variable {F k : Nat} {σ σ' : CSt} {τ τ' : MS}
theorem WrC.cg (h : WrC σ τ) (h1 : gsb σ' = gsb σ) (h2 : ms_out τ' = ms_out τ) (h3 : ms_outMany τ' = ms_outMany τ) : WrC σ' τ' := by
  obtain ⟨O, m, hm, hS, hO⟩ := h
  have e1 : cs_sct σ' = cs_sct σ := congrArg (fun q : CT_sb => q.1) h1
  have e2 : cs_sv σ' = cs_sv σ := congrArg (fun q : CT_sb => q.2.2.1) h1
  have e3 : cs_scap σ' = cs_scap σ := congrArg (fun q : CT_sb => q.2.2.2) h1
  refine ⟨O, m, hm, ?_, ?_⟩
  · unfold SbO at hS ⊢
    rw [e1, e2, e3]
    exact hS
  · unfold OuM at hO ⊢
    rw [h2, h3]
    exact hO
theorem TxC.cg (h : TxC σ τ) (h1 : gtx σ' = gtx σ) (h2 : ms_text τ' = ms_text τ) (h3 : ms_length τ' = ms_length τ) : TxC σ' τ' := by
  obtain ⟨T, n, hS, hM, hB⟩ := h
  have e1 : cs_tl σ' = cs_tl σ := congrArg (fun q : CT_tx => q.1) h1
  have e2 : cs_tb σ' = cs_tb σ := congrArg (fun q : CT_tx => q.2.1) h1
  refine ⟨T, n, ?_, ?_, hB⟩
  · unfold TxS at hS ⊢
    rw [e1, e2]
    exact hS
  · unfold TxM at hM ⊢
    rw [h2, h3]
    exact hM
def Wh (σ : CSt) (τ : MS) : Prop := Core σ τ ∧ G17 σ ∧ cs_run σ = 0 ∧ ms_silent τ = 0 ∧ TxC σ τ ∧ WrC σ τ
def InvK (k : Nat) (σ : CSt) (τ : MS) : Prop := Wh σ τ ∧ cs_nc σ ≤ 1000 * k ∧ cs_ns σ ≤ 14000 * k
theorem InvK.up (h : InvK k σ τ) : InvK (k + 1) σ τ := ⟨h.1, by have := h.2.1; omega, by have := h.2.2; omega⟩
theorem InvK.go {a b : Nat} (h : InvK k σ τ) (hw : Wh σ' τ') (hg : GhR σ σ' a b) (ha : a ≤ 1000) (hb : b ≤ 14000) : Sres InvK k σ σ' τ' := by
  obtain ⟨-, h1, h2⟩ := h
  obtain ⟨g1, g2, g3, g4⟩ := hg
  exact ⟨⟨hw, by omega, by omega⟩, g1, g3⟩
theorem InvK.rd (h : InvK k σ τ) : Sres InvK k σ σ τ := ⟨h.up, Nat.le_refl _, Nat.le_refl _⟩
theorem Wh.kp (h : Wh σ τ) (hC : Core σ' τ') (kp : Kp σ σ') (km : Km τ τ') : Wh σ' τ' := by
  obtain ⟨-, h2, h3, h4, h5, h6⟩ := h
  obtain ⟨m1, m2, -, -, -, m6, m7, m8⟩ := km
  obtain ⟨p1, p2, p3, p4⟩ := kp
  exact ⟨hC, p4 h2, p3.trans h3, m8.trans h4, h5.cg p1 m1 m2, h6.cg p2 m6 m7⟩
theorem InvK.opr (h : InvK k σ τ) (ho : OpR σ σ' τ τ') : Sres InvK k σ σ' τ' := h.go (h.1.kp ho.1 ho.2.1 ho.2.2.1) (GhR.eq ho.2.2.2) (by omega) (by omega)
theorem InvK.rtg {m : Nat} (h : InvK k σ τ) (ho : RtG σ σ' τ τ' m) (hm : m ≤ 10) : Sres InvK k σ σ' τ' := by
  obtain ⟨h1, h2, h3, a, h4, -, h6⟩ := ho
  exact h.go (h.1.kp h1 h2 h3) h6 (by omega) (by omega)
theorem InvK.ok (h : InvK k σ τ) : RunOk σ τ := Or.inl ⟨h.1.2.2.1, h.1.2.2.2.1⟩
theorem g17_cg (h : G17 σ) (e : σ'.2.2.2.2.1 = σ.2.2.2.2.1) : G17 σ' := by
  have e1 : cs_goR σ' = cs_goR σ := by
    unfold cs_goR
    rw [e]
  unfold G17 at h ⊢
  rw [e1]
  exact h
theorem run_cg (h : cs_run σ = 0) (e : σ'.2.2.1 = σ.2.2.1) : cs_run σ' = 0 := by
  have e1 : cs_run σ' = cs_run σ := congrArg (fun q : CT_hi => q.2.2) e
  rw [e1, h]
theorem core_cg (hC : Core σ τ) (a1 : σ'.1 = σ.1) (a2 : σ'.2.1 = σ.2.1) (a3 : σ'.2.2.1 = σ.2.2.1) (h1 : ms_row τ' = ms_row τ) (h2 : ms_kept τ' = ms_kept τ) : Core σ' τ' :=
  hC.kf (σ' := (σ'.1, σ'.2.1, σ'.2.2.1, σ.2.2.2.1, σ.2.2.2.2.1, σ.2.2.2.2.2.1, σ.2.2.2.2.2.2)) ⟨a1, a2, a3, rfl⟩ h1 h2
theorem wh_0 : InvK 0 cs0 ms0 := by
  refine ⟨⟨⟨⟨0, 0, rfl, rfl, ⟨by omega, by omega, rfl, rfl, rfl, fun j hj => ?_, fun c hc j hj => ?_, fun c hc => absurd hc (Nat.not_lt_zero _)⟩, ⟨⟨by decide, by decide⟩, fun k hk => absurd hk (Nat.not_lt_zero _), fun j k hj => absurd hj (Nat.not_lt_zero _), fun c hc => absurd hc (Nat.not_lt_zero _), fun c hc => absurd hc (Nat.not_lt_zero _)⟩⟩, ⟨0, 0, by omega, by omega, rfl, rfl, rfl, fun i hi => absurd hi (Nat.not_lt_zero _)⟩⟩, fun r hr => rfl, rfl, rfl, ⟨fun _ => 0, 0, ⟨rfl, by omega, fun j hj => absurd hj (Nat.not_lt_zero _)⟩, ⟨rfl, by omega, fun j hj => absurd hj (Nat.not_lt_zero _)⟩, fun j hj => absurd hj (Nat.not_lt_zero _)⟩, ⟨fun _ => 0, 0, by omega, ⟨rfl, Nat.zero_le _, Nat.le_refl 16, Nat.le_of_ble_eq_true rfl, fun j => (show 0 ≤ (0 : Int32).toInt ∧ (0 : Int32).toInt ≤ 127 by decide), fun j hj => absurd hj (Nat.not_lt_zero _)⟩, ⟨rfl, fun j hj => absurd hj (Nat.not_lt_zero _)⟩⟩⟩, Nat.le_refl _, Nat.le_refl _⟩
  · show upd (fun _ => 0) 2 10 (3 + j) = 0
    unfold upd
    rw [if_neg (by omega)]
  · show upd (fun _ => 0) 2 10 (35 + 169 * c + j) = 0
    unfold upd
    rw [if_neg (by omega)]
theorem pure_of (hL : S_lane InvK 1000000000000) : PureMain := by
  refine ⟨InvK, 1000000000000, fun k σ τ h => h.2, wh_0, fun k σ τ h => h.up, ?_, ?_, ?_, ?_, ?_, ?_, ?_, ?_, ?_, ?_, ?_, ?_, ?_, ?_, ?_, ?_, ?_, ?_, ?_, hL, ?_, ?_, ?_, ?_, ?_, ?_, ?_, ?_⟩
  · intro k σ τ z1 z2 z3 z4 hk h
    obtain ⟨r, σ1, τ1, e1, e2, e3⟩ := op_addBox (F := 1000000000000) (by omega) h.1.1 h.ok z1 z2 z3 z4
    exact ⟨r, σ1, τ1, e1, e2, h.opr e3⟩
  · intro k σ τ z1 z2 z3 hk h
    obtain ⟨r, σ1, τ1, e1, e2, e3⟩ := op_move (F := 1000000000000) (by omega) h.1.1 h.ok z1 z2 z3
    exact ⟨r, σ1, τ1, e1, e2, h.opr e3⟩
  · intro k σ τ z1 z2 hk h
    obtain ⟨r, e1, e2⟩ := op_box (F := 1000000000000) (by omega) h.1.1 z1 z2
    exact ⟨r, e1, e2, h.rd⟩
  · intro k σ τ z1 z2 hk h
    obtain ⟨r, e1, e2⟩ := op_blocker (F := 1000000000000) (by omega) h.1.1 z1 z2
    exact ⟨r, e1, e2, h.rd⟩
  · intro k σ τ z1 z2 z3 z4 z5 z6 hk h
    obtain ⟨r, σ1, τ1, e1, e2, e3, -⟩ := op_link (F := 1000000000000) (by omega) h.1.1 h.ok z1 z2 z3 z4 z5 z6
    exact ⟨r, σ1, τ1, e1, e2, h.opr e3⟩
  · intro k σ τ z1 hk h
    obtain ⟨r, σ1, τ1, e1, e2, e3, -⟩ := op_drop (F := 1000000000000) (by omega) h.1.1 h.ok z1
    exact ⟨r, σ1, τ1, e1, e2, h.opr e3⟩
  · intro k σ τ z1 hk h
    obtain ⟨r, σ1, τ1, e1, e2, e3⟩ := op_penalty (F := 1000000000000) (by omega) h.1.1 h.ok z1
    exact ⟨r, σ1, τ1, e1, e2, h.opr e3⟩
  · intro k σ τ z1 hk h
    obtain ⟨r, e1, e2⟩ := op_count (F := 1000000000000) (by omega) h.1.1 z1
    exact ⟨r, e1, e2, h.rd⟩
  · intro k σ τ z1 z2 hk h
    obtain ⟨r, e1, e2⟩ := op_connector (F := 1000000000000) (by omega) h.1.1 z1 z2
    exact ⟨r, e1, e2, h.rd⟩
  · intro k σ τ z1 hk h
    obtain ⟨r, σ1, τ1, e1, e2, e3⟩ := op_route (F := 1000000000000) (by omega) h.1.1 h.ok h.1.2.1 z1
    exact ⟨r, σ1, τ1, e1, e2, h.rtg e3 (by omega)⟩
  · intro k σ τ hk h
    obtain ⟨r, σ1, τ1, e1, e2, e3⟩ := op_all (F := 1000000000000) (by omega) h.1.1 h.ok h.1.2.1
    exact ⟨r, σ1, τ1, e1, e2, h.rtg e3 (by omega)⟩
  · intro k σ τ hk h
    obtain ⟨r, σ1, τ1, e1, e2, e3⟩ := op_reroute (F := 1000000000000) (by omega) h.1.1 h.ok h.1.2.1
    exact ⟨r, σ1, τ1, e1, e2, h.rtg e3 (by omega)⟩
  · intro k σ τ hk h
    obtain ⟨r, σ1, τ1, e1, e2, e3⟩ := op_refresh (F := 1000000000000) (by omega) h.1.1 h.ok h.1.2.1
    exact ⟨r, σ1, τ1, e1, e2, h.rtg e3 (by omega)⟩
  · intro k σ τ z1 hk h
    obtain ⟨r, σ1, τ1, e1, e2, e3⟩ := op_best (F := 1000000000000) (by omega) h.1.1 h.1.2.1 z1
    exact ⟨r, σ1, τ1, e1, e2, h.rtg e3 (by omega)⟩
  · intro k σ τ z1 z2 hk h
    obtain ⟨r, e1, e2⟩ := op_measure (F := 1000000000000) (by omega) h.1.1 z1 z2
    exact ⟨r, e1, e2, h.rd⟩
  · intro k σ τ z1 z2 z3 hk h
    obtain ⟨r, e1, e2⟩ := op_corner (F := 1000000000000) (by omega) h.1.1 z1 z2 z3
    exact ⟨r, e1, e2, h.rd⟩
  · intro k σ τ z1 z2 z3 hk h
    obtain ⟨r, e1, e2⟩ := op_isOn (F := 1000000000000) (by omega) h.1.1 z1 z2 z3
    exact ⟨r, e1, e2, h.rd⟩
  · intro k σ τ z1 z2 hk h
    obtain ⟨r, e1, e2⟩ := op_crossings (F := 1000000000000) (by omega) h.1.1 z1 z2
    exact ⟨r, e1, e2, h.rd⟩
  · intro k σ τ z1 z2 hk h
    obtain ⟨r, e1, e2⟩ := op_shared (F := 1000000000000) (by omega) h.1.1 z1 z2
    exact ⟨r, e1, e2, h.rd⟩
  · intro k σ τ z1 hk h
    obtain ⟨r, σ1, τ1, e1, e2, e3, ⟨⟨a1, a2, a3, a4, a5⟩, a6⟩, b1, b2', b3, b4, b5⟩ := op_write (F := 1000000000000) (by omega) h.1.1 h.1.2.2.2.2.2 z1
    obtain ⟨O, m, hm, hS, hO⟩ := id e3
    obtain ⟨O0, m0, hm0, hS0, hO0⟩ := id h.1.2.2.2.2.2
    have c1 := hS.2.2.2.1
    have c2 := hS0.2.2.1
    obtain ⟨g1, g2, g3, g4, g5⟩ := a6
    refine ⟨r, σ1, τ1, e1, e2, h.go (a := 402) (b := 804) ⟨core_cg h.1.1 a1 a2 a3 b1 b2', g17_cg h.1.2.1 a4, run_cg h.1.2.2.1 a3, b5.trans h.1.2.2.2.1, h.1.2.2.2.2.1.cg a5 b3 b4, e3⟩ ⟨g2, by omega, g4, by omega⟩ (by omega) (by omega)⟩
  · intro k σ τ z1 hk h
    obtain ⟨r, e1, e2⟩ := op_written (F := 1000000000000) h.1.2.2.2.2.2 z1
    exact ⟨r, e1, e2, h.rd⟩
  · intro k σ τ z1 hk h
    obtain ⟨r, σ1, τ1, e1, e2, e3, ⟨a1, a2, a3, a4, a5, a6⟩, b1, b2', b3, b4, b5⟩ := op_type (F := 1000000000000) h.1.2.2.2.2.1 z1
    exact ⟨r, σ1, τ1, e1, e2, h.go ⟨core_cg h.1.1 a1 a2 a3 b1 b2', g17_cg h.1.2.1 a4, run_cg h.1.2.2.1 a3, b5.trans h.1.2.2.2.1, e3, h.1.2.2.2.2.2.cg a5 b3 b4⟩ (GhR.eq a6) (by omega) (by omega)⟩
  · intro k σ τ hk h
    obtain ⟨r, σ1, τ1, e1, e2, e3, ⟨a1, a2, a3, a4, a5, a6⟩, b1, b2', b3, b4, b5⟩ := op_clear (F := 1000000000000) h.1.2.2.2.2.1
    exact ⟨r, σ1, τ1, e1, e2, h.go ⟨core_cg h.1.1 a1 a2 a3 b1 b2', g17_cg h.1.2.1 a4, run_cg h.1.2.2.1 a3, b5.trans h.1.2.2.2.1, e3, h.1.2.2.2.2.2.cg a5 b3 b4⟩ (GhR.eq a6) (by omega) (by omega)⟩
  · intro k σ τ hk h
    obtain ⟨r, σ1, τ1, e1, e2, e3, e4⟩ := op_textFault (F := 1000000000000) (by omega) h.1.2.2.2.2.1
    obtain ⟨T, n, hS, hT, hB⟩ := id h.1.2.2.2.2.1
    obtain ⟨b1, b2', b3, b4, b5, b6, b7⟩ := id e4
    exact ⟨r, σ1, τ1, e1, e2, h.go ⟨e3.core h.1.1 b1 b2', e3.g17 h.1.2.1, run_cg h.1.2.2.1 e3.2.2.1, b7.trans h.1.2.2.2.1, ⟨T, n, e3.tx hS, e4.tx hT, hB⟩, h.1.2.2.2.2.2.cg e3.2.2.2.2.1 b5 b6⟩ (GhR.eq e3.2.2.2.2.2.1) (by omega) (by omega)⟩
  · intro k σ τ hk h
    obtain ⟨r, σ1, τ1, e1, e2, a1, a2, a3, a4, a5, a6, a7, a8, a9⟩ := op_run (F := 1000000000000) (by omega) h.1.1 h.1.2.1 h.1.2.2.1 h.1.2.2.2.1 h.1.2.2.2.2.1
    exact ⟨r, σ1, τ1, e1, e2, h.go ⟨a1, a2, a3, a4, a5, h.1.2.2.2.2.2.cg a6 a7 a8⟩ a9 (by omega) (by omega)⟩
  · intro k σ τ hk h
    obtain ⟨r, σ1, τ1, e1, e2, e3⟩ := op_undo (F := 1000000000000) (by omega) h.1.1
    exact ⟨r, σ1, τ1, e1, e2, h.opr e3⟩
  · intro k σ τ hk h
    obtain ⟨r, τ1, e1, e2, e3, e4⟩ := op_digest (F := 1000000000000) (by omega) h.1.1
    exact ⟨r, τ1, e1, e2, h.go (h.1.kp e3 Kp.rf e4) GhR.rf (by omega) (by omega)⟩
end Z1
