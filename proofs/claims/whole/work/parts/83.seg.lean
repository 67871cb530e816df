/-! routes in numbers; touched -/
def rX (v : RV) (k : Nat) : Int := (v.2.2.1 k).toInt
def rY (v : RV) (k : Nat) : Int := (v.2.2.2 k).toInt
theorem rX_I (v : RV) (k : Nat) : v.2.2.1 k = I (rX v k) := (I_of _).symm
theorem rY_I (v : RV) (k : Nat) : v.2.2.2 k = I (rY v k) := (I_of _).symm
def RtI (v : RV) : Prop := 2 ≤ v.2.1 ∧ v.2.1 ≤ 66 ∧ (∀ k, k < v.2.1 → (0 ≤ rX v k ∧ rX v k ≤ 99) ∧ (0 ≤ rY v k ∧ rY v k ≤ 99)) ∧ (∀ k, k + 1 < v.2.1 → (rY v k = rY v (k + 1) ↔ ¬ rX v k = rX v (k + 1))) ∧ (∀ k, k + 2 < v.2.1 → (rY v k = rY v (k + 1) ↔ ¬ rY v (k + 1) = rY v (k + 2))) ∧ (v.2.1 = 2 → 2 ≤ (rX v 0 - rX v 1).natAbs + (rY v 0 - rY v 1).natAbs)
theorem RouteOk.ri {v : RV} (h : RouteOk v) : RtI v := by
  obtain ⟨h1, h2, -, h4, h5, h6, h7⟩ := h
  have eX : ∀ j k, (v.2.2.1 j = v.2.2.1 k) ↔ (rX v j = rX v k) := fun j k => Int32.toInt_inj.symm
  have eY : ∀ j k, (v.2.2.2 j = v.2.2.2 k) ↔ (rY v j = rY v k) := fun j k => Int32.toInt_inj.symm
  refine ⟨h1, h2, fun k hk => ?_, fun k hk => ?_, fun k hk => ?_, h7⟩
  · obtain ⟨⟨a1, a2⟩, a3, a4⟩ := h4 k hk
    exact ⟨⟨Int32.le_iff_toInt_le.mp a1, Int32.le_iff_toInt_le.mp a2⟩, Int32.le_iff_toInt_le.mp a3, Int32.le_iff_toInt_le.mp a4⟩
  · rw [← eX, ← eY]; exact h5 k hk
  · rw [← eY, ← eY]; exact h6 k hk
def lvB (v : RV) (s : Nat) : Bool := decide (rY v s = rY v (s + 1))
def loS (v : RV) (s : Nat) : Int := if lvB v s = true then min (rX v s) (rX v (s + 1)) else min (rY v s) (rY v (s + 1))
def hiS (v : RV) (s : Nat) : Int := if lvB v s = true then max (rX v s) (rX v (s + 1)) else max (rY v s) (rY v (s + 1))
def liS (v : RV) (s : Nat) : Int := if lvB v s = true then rY v s else rX v s
def upB (v : RV) (s : Nat) : Bool := if lvB v s = true then decide (rX v (s + 1) < rX v s) else decide (rY v (s + 1) < rY v s)
section V1
variable {F : Nat} {σ : CSt} {v : RV} {s : Nat}
theorem sc_lvl (h : RtI v) (hs : s + 1 < v.2.1) : fc_X6_isLevel F σ v (I s) = some (b2 (lvB v s)) := by
  obtain ⟨h1, h2, -⟩ := h
  have n1 : ((s : Nat) : Int).toNat = s := by omega
  have n2 : ((s + 1 : Nat) : Int).toNat = s + 1 := by omega
  simp (disch := omega) only [fc_X6_isLevel, fc_X6_isLevel_L22, I_S, I_ix, gd_T, I_cl, n1, n2]
  have e : (v.2.2.2 s = v.2.2.2 (s + 1)) = (rY v s = rY v (s + 1)) := propext Int32.toInt_inj.symm
  unfold lvB
  by_cases c : rY v s = rY v (s + 1)
  · rw [if_pos (by rw [e]; exact c), decide_eq_true c]; rfl
  · rw [if_neg (by rw [e]; exact c), decide_eq_false c]; rfl
theorem I_min {a b : Int} (h1 : 0 ≤ a) (h2 : a ≤ 99) (h3 : 0 ≤ b) (h4 : b ≤ 99) : (if I b < I a then I b else I a) = I (min a b) := by
  have e : (I b < I a) = (b < a) := I_lt (by omega) (by omega) (by omega) (by omega)
  by_cases c : b < a
  · rw [if_pos (by rw [e]; exact c)]; exact congrArg I (by omega)
  · rw [if_neg (by rw [e]; exact c)]; exact congrArg I (by omega)
theorem I_max {a b : Int} (h1 : 0 ≤ a) (h2 : a ≤ 99) (h3 : 0 ≤ b) (h4 : b ≤ 99) : (if I a < I b then I b else I a) = I (max a b) := by
  have e : (I a < I b) = (a < b) := I_lt (by omega) (by omega) (by omega) (by omega)
  by_cases c : a < b
  · rw [if_pos (by rw [e]; exact c)]; exact congrArg I (by omega)
  · rw [if_neg (by rw [e]; exact c)]; exact congrArg I (by omega)
theorem sc_lo (h : RtI v) (hs : s + 1 < v.2.1) : fc_X6_startOf F σ v (I s) = some (I (loS v s)) := by
  have hl := sc_lvl (F := F) (σ := σ) h hs
  obtain ⟨h1, h2, h3, -⟩ := h
  have n1 : ((s : Nat) : Int).toNat = s := by omega
  have n2 : ((s + 1 : Nat) : Int).toNat = s + 1 := by omega
  obtain ⟨⟨a1, a2⟩, a3, a4⟩ := h3 s (by omega)
  obtain ⟨⟨b1, b2⟩, b3, b4⟩ := h3 (s + 1) hs
  simp (disch := omega) only [fc_X6_startOf, fc_X6_startOf_L45, hl, bd_s, b2_0, I_S, I_ix, gd_T, I_cl, n1, n2, rX_I, rY_I]
  rw [I_min (by omega) (by omega) (by omega) (by omega), I_min (by omega) (by omega) (by omega) (by omega)]
  unfold loS
  cases lvB v s <;> rfl
theorem sc_hi (h : RtI v) (hs : s + 1 < v.2.1) : fc_X6_endOf F σ v (I s) = some (I (hiS v s)) := by
  have hl := sc_lvl (F := F) (σ := σ) h hs
  obtain ⟨h1, h2, h3, -⟩ := h
  have n1 : ((s : Nat) : Int).toNat = s := by omega
  have n2 : ((s + 1 : Nat) : Int).toNat = s + 1 := by omega
  obtain ⟨⟨a1, a2⟩, a3, a4⟩ := h3 s (by omega)
  obtain ⟨⟨b1, b2⟩, b3, b4⟩ := h3 (s + 1) hs
  simp (disch := omega) only [fc_X6_endOf, fc_X6_endOf_L45, hl, bd_s, b2_0, I_S, I_ix, gd_T, I_cl, n1, n2, rX_I, rY_I]
  rw [I_max (by omega) (by omega) (by omega) (by omega), I_max (by omega) (by omega) (by omega) (by omega)]
  unfold hiS
  cases lvB v s <;> rfl
theorem sc_li (h : RtI v) (hs : s + 1 < v.2.1) : fc_X6_lineOf F σ v (I s) = some (I (liS v s)) := by
  have hl := sc_lvl (F := F) (σ := σ) h hs
  obtain ⟨h1, h2, h3, -⟩ := h
  have n1 : ((s : Nat) : Int).toNat = s := by omega
  simp (disch := omega) only [fc_X6_lineOf, fc_X6_lineOf_L23, hl, bd_s, b2_0, I_ix, gd_T, I_cl, n1, rX_I, rY_I]
  unfold liS
  cases lvB v s <;> rfl
theorem sc_up (h : RtI v) (hs : s + 1 < v.2.1) : fc_X6_runsUp F σ v (I s) = some (b2 (upB v s)) := by
  have hl := sc_lvl (F := F) (σ := σ) h hs
  obtain ⟨h1, h2, h3, -⟩ := h
  have n1 : ((s : Nat) : Int).toNat = s := by omega
  have n2 : ((s + 1 : Nat) : Int).toNat = s + 1 := by omega
  obtain ⟨⟨a1, a2⟩, a3, a4⟩ := h3 s (by omega)
  obtain ⟨⟨b1, b2⟩, b3, b4⟩ := h3 (s + 1) hs
  simp (disch := omega) only [fc_X6_runsUp, fc_X6_runsUp_L55, hl, bd_s, b2_0, I_S, I_ix, gd_T, I_cl, n1, n2, rX_I, rY_I, I_le]
  unfold upB
  cases lvB v s with
  | false =>
    simp only [eq_self, if_true, if_false, Bool.false_eq_true, Bool.true_eq_false, true_or, or_true, gd_T]
    by_cases c : rY v s ≤ rY v (s + 1)
    · rw [if_pos c, decide_eq_false (by omega)]; rfl
    · rw [if_neg c, decide_eq_true (by omega)]; rfl
  | true =>
    simp only [eq_self, if_true, if_false, Bool.false_eq_true, Bool.true_eq_false, true_or, or_true, gd_T]
    by_cases c : rX v s ≤ rX v (s + 1)
    · rw [if_pos c, decide_eq_false (by omega)]; rfl
    · rw [if_neg c, decide_eq_true (by omega)]; rfl
/-- ends of a segment without the route's ends -/
def frT (v : RV) (s : Nat) : Int := loS v s + if (if upB v s = true then decide (s + 2 = v.2.1) else decide (s = 0)) = true then 1 else 0
def toT (v : RV) (s : Nat) : Int := hiS v s - if (if upB v s = true then decide (s = 0) else decide (s + 2 = v.2.1)) = true then 1 else 0
def bkB (B : Nat → Int) (nb : Nat) (v : RV) (s : Nat) : Bool := if lvB v s = true then anyN (blk B (frT v s) (liS v s) (toT v s) (liS v s)) nb else anyN (blk B (liS v s) (frT v s) (liS v s) (toT v s)) nb
theorem sc_blocked (hF : 100 ≤ F) {nb : Nat} (h0 : cs_cb σ = I nb) (hnb : nb ≤ 8) (hB : ∀ k, k < nb → BxB (bxI (cs_ce σ)) k) (h : RtI v) (hs : s + 1 < v.2.1) : fc_X1_isBlocked F σ v (I s) = some (b2 (bkB (bxI (cs_ce σ)) nb v s)) := by
  have hl := sc_lvl (F := F) (σ := σ) h hs
  have h_lo := sc_lo (F := F) (σ := σ) h hs
  have h_hi := sc_hi (F := F) (σ := σ) h hs
  have h_li := sc_li (F := F) (σ := σ) h hs
  have h_up := sc_up (F := F) (σ := σ) h hs
  obtain ⟨h1, h2, h3, -⟩ := h
  obtain ⟨⟨a1, a2⟩, a3, a4⟩ := h3 s (by omega)
  obtain ⟨⟨b1, b2'⟩, b3, b4⟩ := h3 (s + 1) hs
  have blo : 0 ≤ loS v s ∧ loS v s ≤ 99 := by unfold loS; split <;> omega
  have bhi : 0 ≤ hiS v s ∧ hiS v s ≤ 99 := by unfold hiS; split <;> omega
  have bli : 0 ≤ liS v s ∧ liS v s ≤ 99 := by unfold liS; split <;> omega
  have eseg : fc_X6_segments F σ v = some (I ((v.2.1 : Int) - 1)) := by
    unfold fc_X6_segments
    rw [I_nat, I_1, I_sub]
  have l90 : ∀ f t : Int, -1 ≤ f → f ≤ 100 → -1 ≤ t → t ≤ 100 → f = frT v s → t = toT v s → fc_X1_isBlocked_L90 F σ v (I s) (I f) (I t) = some (b2 (bkB (bxI (cs_ce σ)) nb v s)) := fun f t f1 f2 t1 t2 e1 e2 => by
    have q1 := sc_first (F := F) (σ := σ) hF h0 hnb hB (x0 := f) (y0 := liS v s) (x1 := t) (y1 := liS v s) (by omega) (by omega) (by omega) (by omega)
    have q2 := sc_first (F := F) (σ := σ) hF h0 hnb hB (x0 := liS v s) (y0 := f) (x1 := liS v s) (y1 := t) (by omega) (by omega) (by omega) (by omega)
    simp only [fc_X1_isBlocked_L90, fc_X1_isBlocked_L130, fc_X1_isBlocked_L143, h_li, hl, bd_s, b2_0, q1, q2, fbR_no hnb (Or.inl rfl)]
    subst e1
    subst e2
    unfold bkB
    cases lvB v s with
    | false =>
      simp only [eq_self, if_true, if_false, Bool.false_eq_true, Bool.true_eq_false, true_or, or_true, gd_T]
      cases anyN (blk (bxI (cs_ce σ)) (liS v s) (frT v s) (liS v s) (toT v s)) nb <;> rfl
    | true =>
      simp only [eq_self, if_true, if_false, Bool.false_eq_true, Bool.true_eq_false, true_or, or_true, gd_T]
      cases anyN (blk (bxI (cs_ce σ)) (frT v s) (liS v s) (toT v s) (liS v s)) nb <;> rfl
  have e46 : ∀ (fi la : Bool), fi = decide (s = 0) → la = decide (s + 2 = v.2.1) → fc_X1_isBlocked_L46 F σ v (I s) (I (loS v s)) (I (hiS v s)) (b2 (upB v s)) (b2 fi) (b2 la) = some (b2 (bkB (bxI (cs_ce σ)) nb v s)) := fun fi la hfi hla => by
    have hm : I (hiS v s) + -1 = I (hiS v s - 1) := by rw [show (-1 : Int32) = I (-1) from rfl, I_add]; rfl
    have hp : I (loS v s) + 1 = I (loS v s + 1) := by rw [I_1, I_add]
    simp only [fc_X1_isBlocked_L46, fc_X1_isBlocked_L66, fc_X1_isBlocked_L69, fc_X1_isBlocked_L87, lt_r, hm, hp, b2_0]
    unfold frT at l90
    unfold toT at l90
    rw [← hfi, ← hla] at l90
    generalize upB v s = u at l90 ⊢
    cases u <;> cases fi <;> cases la <;> simp only [eq_self, if_true, if_false, Bool.true_eq_false, Bool.false_eq_true] at l90 ⊢ <;> exact l90 _ _ (by omega) (by omega) (by omega) (by omega) (by omega) (by omega)
  have e1 : (I s = 0) = (s = 0) := by
    rw [I_0, I_eq (by omega) (by omega) (by omega) (by omega)]
    exact propext ⟨fun q => by omega, fun q => by omega⟩
  have e2 : (I s = I ((v.2.1 : Int) - 1) - 1) = (s + 2 = v.2.1) := by
    rw [I_1, I_sub, I_eq (by omega) (by omega) (by omega) (by omega)]
    exact propext ⟨fun q => by omega, fun q => by omega⟩
  have e29 : ∀ fi : Bool, fi = decide (s = 0) → fc_X1_isBlocked_L29 F σ v (I s) (I (loS v s)) (I (hiS v s)) (b2 (upB v s)) (b2 fi) = some (b2 (bkB (bxI (cs_ce σ)) nb v s)) := fun fi hfi => by
    simp only [fc_X1_isBlocked_L29, eseg, bd_s, e2]
    by_cases c : s + 2 = v.2.1
    · rw [if_pos c]; exact e46 fi true hfi (decide_eq_true c).symm
    · rw [if_neg c]; exact e46 fi false hfi (decide_eq_false c).symm
  simp only [fc_X1_isBlocked, h_lo, h_hi, h_up, bd_s, e1]
  by_cases c : s = 0
  · rw [if_pos c]; exact e29 true (decide_eq_true c).symm
  · rw [if_neg c]; exact e29 false (decide_eq_false c).symm
end V1
/-- do a route's ends lie at these points -/
def enE (v : RV) (a b c d : Int) : Bool := decide (rX v 0 = a) && decide (rY v 0 = b) && decide (rX v (v.2.1 - 1) = c) && decide (rY v (v.2.1 - 1) = d)
def tcB (B : Nat → Int) (nb : Nat) (a b c d : Int) : Option RV → Bool
  | none => true
  | some v => !enE v a b c d || anyN (bkB B nb v) (v.2.1 - 1)
theorem tcB_s {B : Nat → Int} {nb : Nat} {a b c d : Int} {v : RV} : tcB B nb a b c d (some v) = (!enE v a b c d || anyN (bkB B nb v) (v.2.1 - 1)) := rfl
theorem mo_S {α : Type} {v : RV} {a : Option α} {k : RV → Option α} : mo (some v) a k = k v := rfl
theorem mo_N {α : Type} {a : Option α} {k : RV → Option α} : mo none a k = a := rfl
section V2
variable {F : Nat} {σ : CSt} {c nb : Nat} {B : Nat → Int} {p b0 s0 b1 s1 : Nat} {o0 o1 : Int}
theorem sc_touched (hF : 1000 ≤ F) (h : CnC σ c nb B p b0 s0 o0 b1 s1 o1) (hR : ∀ v, cs_cr σ c = some v → RtI v) : fc_X1_isTouched F σ (I c) = some (b2 (tcB B nb (ptX B b0 s0 o0 0) (ptY B b0 s0 o0 0) (ptX B b1 s1 o1 0) (ptY B b1 s1 o1 0) (cs_cr σ c))) := by
  obtain ⟨⟨hnb, hB, hp, h0, h1⟩, hc, e1, rfl, e3, q0, q1, q2, q3, q4, q5⟩ := h
  obtain ⟨pX0, pY0⟩ := sc_port (F := F) (σ := σ) (nb := nb) (c := c) (pt := 0) (b := b0) (s := s0) (o := o0) hc (by omega) hnb q0 q1 q2 h0
  obtain ⟨pX1, pY1⟩ := sc_port (F := F) (σ := σ) (nb := nb) (c := c) (pt := 1) (b := b1) (s := s1) (o := o1) hc (by omega) hnb q3 q4 q5 h1
  have k0 := (pt_bd h0 hB).1 0 (by omega) (by omega)
  have k1 := (pt_bd h1 hB).1 0 (by omega) (by omega)
  generalize ptX (bxI (cs_ce σ)) b0 s0 o0 0 = pa at pX0 k0 ⊢
  generalize ptY (bxI (cs_ce σ)) b0 s0 o0 0 = pb at pY0 k0 ⊢
  generalize ptX (bxI (cs_ce σ)) b1 s1 o1 0 = pc at pX1 k1 ⊢
  generalize ptY (bxI (cs_ce σ)) b1 s1 o1 0 = pd at pY1 k1 ⊢
  have pX0' : fc_X1_portX F σ (I c) 0 = _ := pX0
  have pY0' : fc_X1_portY F σ (I c) 0 = _ := pY0
  have pX1' : fc_X1_portX F σ (I c) 1 = _ := pX1
  have pY1' : fc_X1_portY F σ (I c) 1 = _ := pY1
  have n6 : ((c : Nat) : Int).toNat = c := by omega
  unfold fc_X1_isTouched
  rw [gd_t (of_eq_true (I_ix (by omega) (by omega) (by omega))), I_cl (by omega) (by omega), n6]
  cases hq : cs_cr σ c with
  | none => rfl
  | some v =>
    have hv := hR v hq
    obtain ⟨v1, v2, v3, -⟩ := id hv
    have eseg : fc_X6_segments F σ v = some (I ((v.2.1 - 1 : Nat) : Int)) := by
      unfold fc_X6_segments
      rw [I_nat, I_1, I_sub]
      exact congrArg (fun z => some (I z)) (by omega)
    have m1 : (ix 0 v.2.1 = true) := of_eq_true (ixz (by omega))
    have m2 : ix (I ((v.2.1 - 1 : Nat) : Int)) v.2.1 = true := of_eq_true (I_ix (by omega) (by omega) (by omega))
    have n7 : (I ((v.2.1 - 1 : Nat) : Int)).toNatClampNeg = v.2.1 - 1 := by rw [I_cl (by omega) (by omega)]; omega
    have eq1 : ∀ {a b : Int}, 0 ≤ a → a ≤ 99 → 0 ≤ b → b ≤ 99 → (I a = I b) = (a = b) := fun a1 a2 b1 b2 => I_eq (by omega) (by omega) (by omega) (by omega)
    obtain ⟨⟨x1, x2⟩, x3, x4⟩ := v3 0 (by omega)
    obtain ⟨⟨y1, y2⟩, y3, y4⟩ := v3 (v.2.1 - 1) (by omega)
    rw [mo_S, eseg, bd_s, gd_t m1, pX0', bd_s, cN0, rX_I v 0]
    have fin : fc_X1_isTouched_L83 F σ F v (I ((v.2.1 - 1 : Nat) : Int)) 0 = some (b2 (anyN (bkB (bxI (cs_ce σ)) nb v) (v.2.1 - 1))) := by
      have hle := fstN_le (p := bkB (bxI (cs_ce σ)) nb v) (n := v.2.1 - 1)
      rw [anyN_fst]
      have key : ∀ (k : Nat) (rec : RV → Int32 → Int32 → Option Int32), k < v.2.1 - 1 → fc_X1_isTouched_L83_c F σ rec v (I ((v.2.1 - 1 : Nat) : Int)) (I k) = if bkB (bxI (cs_ce σ)) nb v k = true then some 1 else rec v (I ((v.2.1 - 1 : Nat) : Int)) (I ((k + 1 : Nat) : Int)) := fun k rec hk => by
        have z1 : ¬ I ((v.2.1 - 1 : Nat) : Int) ≤ I k := by rw [I_le] <;> omega
        have z2 := sc_blocked (F := F) (σ := σ) (by omega) e1 hnb hB hv (s := k) (by omega)
        simp only [fc_X1_isTouched_L83_c, z1, if_false, z2, bd_s, b2_0, lt_r, I_S]
        cases bkB (bxI (cs_ce σ)) nb v k <;> rfl
      refine lp_r (fun k => (v, I ((v.2.1 - 1 : Nat) : Int), I k)) _ (fstN (bkB (bxI (cs_ce σ)) nb v) (v.2.1 - 1)) rfl (by omega) (fun k rec hk => ?_) (fun rec => ?_)
      · refine (key k _ (by omega)).trans ?_
        rw [fstN_no hk]
        rfl
      · rcases Nat.lt_or_ge (fstN (bkB (bxI (cs_ce σ)) nb v) (v.2.1 - 1)) (v.2.1 - 1) with hm' | hm'
        · refine (key _ _ hm').trans ?_
          rw [fstN_at hm', if_pos rfl, decide_eq_true hm']
          rfl
        · have z1 : I ((v.2.1 - 1 : Nat) : Int) ≤ I (fstN (bkB (bxI (cs_ce σ)) nb v) (v.2.1 - 1)) := by rw [I_le] <;> omega
          simp only [fc_X1_isTouched_L83_c, z1, if_true]
          rw [decide_eq_false (by omega)]
          rfl
    rw [tcB_s]
    unfold enE
    by_cases c1 : rX v 0 = pa
    · rw [if_pos (by rw [c1]), gd_t m1, pY0', bd_s, rY_I v 0]
      by_cases c2 : rY v 0 = pb
      · rw [if_pos (by rw [c2]), gd_t m2, pX1', bd_s, n7, rX_I v (v.2.1 - 1)]
        by_cases c3 : rX v (v.2.1 - 1) = pc
        · rw [if_pos (by rw [c3]), gd_t m2, pY1', bd_s, rY_I v (v.2.1 - 1)]
          by_cases c4 : rY v (v.2.1 - 1) = pd
          · rw [if_pos (by rw [c4]), fin, decide_eq_true c1, decide_eq_true c2, decide_eq_true c3, decide_eq_true c4]
            rfl
          · rw [if_neg (by rw [eq1 (by omega) (by omega) (by omega) (by omega)]; exact c4), decide_eq_false c4, Bool.and_false]
            rfl
        · rw [if_neg (by rw [eq1 (by omega) (by omega) (by omega) (by omega)]; exact c3), decide_eq_false c3, Bool.and_false]
          rfl
      · rw [if_neg (by rw [eq1 (by omega) (by omega) (by omega) (by omega)]; exact c2), decide_eq_false c2, Bool.and_false]
        rfl
    · rw [if_neg (by rw [eq1 (by omega) (by omega) (by omega) (by omega)]; exact c1), decide_eq_false c1]
      rfl
end V2
