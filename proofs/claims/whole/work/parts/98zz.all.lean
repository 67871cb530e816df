/-! all calls -/
theorem s_lane : S_lane InvK 1000000000000 := by
  intro k σ τ z1 z2 z3 hk h
  obtain ⟨r, σ1, τ1, e1, e2, ⟨a1, a2, a3, a4, a5, a6, a7⟩, b1, b2', b3, b4, b5, b6, b7⟩ := op_lane (F := 1000000000000) (by omega) h.1.1 z1 z2 z3
  exact ⟨r, σ1, τ1, e1, e2, h.go ⟨core_cg h.1.1 a1 a2 a3 b1 b2', g17_cg h.1.2.1 a4, run_cg h.1.2.2.1 a3, b7.trans h.1.2.2.2.1, h.1.2.2.2.2.1.cg a5 b3 b4, h.1.2.2.2.2.2.cg a6 b5 b6⟩ (GhR.eq a7) (by omega) (by omega)⟩
theorem pure_main : PureMain := pure_of s_lane
