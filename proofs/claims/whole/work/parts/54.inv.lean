/-! what holds of a canvas; the coupling of both sides -/
def BoxOk (E : Nat → Int32) (k : Nat) : Prop := rgB (E (4 * k)) (E (4 * k + 2)) = true ∧ rgB (E (4 * k + 1)) (E (4 * k + 3)) = true
def PortOk (nb : Nat) (E Q : Nat → Int32) (p : Nat) : Prop := ∃ b s : Nat, b < nb ∧ s < 4 ∧ Q p = I b ∧ Q (p + 1) = I s ∧ 0 ≤ Q (p + 2) ∧ Q (p + 2) ≤ (if s % 2 = 0 then E (4 * b + 2) - E (4 * b) else E (4 * b + 3) - E (4 * b + 1))
def cntN (p : Nat → Bool) : Nat → Nat
  | 0 => 0
  | n + 1 => cntN p n + if p n then 1 else 0
/-- the inner segments of a route on a line -/
def lnB (v : RV) (lv : Bool) (ln : Int32) (k : Nat) : Bool := decide (1 ≤ k) && (decide (v.2.2.2 k = v.2.2.2 (k + 1)) == lv) && decide ((if lv then v.2.2.2 k else v.2.2.1 k) = ln)
def RouteOk (v : RV) : Prop := 2 ≤ v.2.1 ∧ v.2.1 ≤ 66 ∧ (∀ lv ln, cntN (lnB v lv ln) (v.2.1 - 2) ≤ 18) ∧ (∀ k, k < v.2.1 → (0 ≤ v.2.2.1 k ∧ v.2.2.1 k ≤ 99) ∧ (0 ≤ v.2.2.2 k ∧ v.2.2.2 k ≤ 99)) ∧ (∀ k, k + 1 < v.2.1 → (v.2.2.2 k = v.2.2.2 (k + 1) ↔ ¬ v.2.2.1 k = v.2.2.1 (k + 1))) ∧ (∀ k, k + 2 < v.2.1 → (v.2.2.2 k = v.2.2.2 (k + 1) ↔ ¬ v.2.2.2 (k + 1) = v.2.2.2 (k + 2))) ∧ (v.2.1 = 2 → 2 ≤ ((v.2.2.1 0).toInt - (v.2.2.1 1).toInt).natAbs + ((v.2.2.2 0).toInt - (v.2.2.2 1).toInt).natAbs)
def Vld (nb nl : Nat) (cp : Int32) (E Q : Nat → Int32) (R : Nat → Option RV) : Prop :=
  (0 ≤ cp ∧ cp ≤ 50) ∧ (∀ k, k < nb → BoxOk E k) ∧ (∀ j k, j < nb → k < nb → j ≠ k → apB E (E (4 * j)) (E (4 * j + 1)) (E (4 * j + 2)) (E (4 * j + 3)) k = true) ∧ (∀ c, c < nl → PortOk nb E Q (6 * c) ∧ PortOk nb E Q (6 * c + 3) ∧ ¬ (Q (6 * c) = Q (6 * c + 3) ∧ Q (6 * c + 1) = Q (6 * c + 4) ∧ Q (6 * c + 2) = Q (6 * c + 5))) ∧ ∀ c, c < nl → ∀ v, R c = some v → RouteOk v
def Canv (f : Nat → Int32) (cb cc cp : Int32) (E Q : Nat → Int32) (R : Nat → Option RV) : Prop := ∃ nb nl : Nat, cb = I nb ∧ cc = I nl ∧ Cpl f nb nl cp E Q R ∧ Vld nb nl cp E Q R
theorem RtC.cg {g g' : Nat → Int32} {o : Option RV} (h : RtC g o) (hg : ∀ j, j < 169 → g' j = g j) : RtC g' o := by
  cases o with
  | none => exact (hg 6 (by omega)).trans h
  | some v =>
    obtain ⟨h1, h2, h3, h4, h5⟩ := h
    exact ⟨(hg 6 (by omega)).trans h1, (hg 7 (by omega)).trans h2, h3, (hg 8 (by omega)).trans h4, fun k hk => ⟨(hg _ (by omega)).trans (h5 k hk).1, (hg _ (by omega)).trans (h5 k hk).2⟩⟩
section K1
variable {f f' : Nat → Int32} {nb nl : Nat} {cb cc cp : Int32} {E E' Q Q' : Nat → Int32} {R R' : Nat → Option RV}
theorem Cpl.cg (h : Cpl f nb nl cp E Q R) (hf : ∀ j, j < 1725 → f' j = f j) (hE : ∀ j, j < 32 → E' j = E j) (hQ : ∀ j, j < 60 → Q' j = Q j) (hR : ∀ c, c < 10 → R' c = R c) : Cpl f' nb nl cp E' Q' R' := by
  obtain ⟨h1, h2, h3, h4, h5, h6, h7, h8⟩ := h
  refine ⟨h1, h2, (hf 0 (by omega)).trans h3, (hf 1 (by omega)).trans h4, (hf 2 (by omega)).trans h5, fun j hj => ?_, fun c hc j hj => ?_, fun c hc => ?_⟩
  · rw [hf _ (by omega), hE j hj, h6 j hj]
  · rw [hf _ (by omega), hQ _ (by omega), h7 c hc j hj]
  · rw [hR c (by omega)]
    exact (h8 c hc).cg fun j hj => hf _ (by omega)
theorem BoxOk.cg {k : Nat} (h : BoxOk E k) (hk : k < 8) (hE : ∀ j, j < 32 → E' j = E j) : BoxOk E' k := by
  unfold BoxOk at h ⊢
  rw [hE (4 * k) (by omega), hE (4 * k + 1) (by omega), hE (4 * k + 2) (by omega), hE (4 * k + 3) (by omega)]
  exact h
theorem PortOk.cg {p : Nat} (h : PortOk nb E Q p) (hn : nb ≤ 8) (hp : p + 2 < 60) (hE : ∀ j, j < 32 → E' j = E j) (hQ : ∀ j, j < 60 → Q' j = Q j) : PortOk nb E' Q' p := by
  obtain ⟨b, s, h1, h2, h3, h4, h5, h6⟩ := h
  refine ⟨b, s, h1, h2, (hQ _ (by omega)).trans h3, (hQ _ (by omega)).trans h4, ?_, ?_⟩
  · rw [hQ _ hp]; exact h5
  · rw [hQ _ hp, hE (4 * b) (by omega), hE (4 * b + 1) (by omega), hE (4 * b + 2) (by omega), hE (4 * b + 3) (by omega)]
    exact h6
theorem apB_cg {x1 y1 x2 y2 : Int32} {k : Nat} (hk : k < 8) (hE : ∀ j, j < 32 → E' j = E j) : apB E' x1 y1 x2 y2 k = apB E x1 y1 x2 y2 k := by
  unfold apB
  rw [hE (4 * k) (by omega), hE (4 * k + 1) (by omega), hE (4 * k + 2) (by omega), hE (4 * k + 3) (by omega)]
theorem Vld.cg (h : Vld nb nl cp E Q R) (hn : nb ≤ 8) (hl : nl ≤ 10) (hE : ∀ j, j < 32 → E' j = E j) (hQ : ∀ j, j < 60 → Q' j = Q j) (hR : ∀ c, c < 10 → R' c = R c) : Vld nb nl cp E' Q' R' := by
  obtain ⟨h1, h2, h3, h4, h5⟩ := h
  refine ⟨h1, fun k hk => (h2 k hk).cg (by omega) hE, fun j k hj hk hjk => ?_, fun c hc => ?_, fun c hc v hv => h5 c hc v ((hR c (by omega)).symm.trans hv)⟩
  · rw [apB_cg (by omega) hE, hE (4 * j) (by omega), hE (4 * j + 1) (by omega), hE (4 * j + 2) (by omega), hE (4 * j + 3) (by omega)]
    exact h3 j k hj hk hjk
  · obtain ⟨a1, a2, a3⟩ := h4 c hc
    refine ⟨a1.cg hn (by omega) hE hQ, a2.cg hn (by omega) hE hQ, ?_⟩
    rw [hQ (6 * c) (by omega), hQ (6 * c + 1) (by omega), hQ (6 * c + 2) (by omega), hQ (6 * c + 3) (by omega), hQ (6 * c + 4) (by omega), hQ (6 * c + 5) (by omega)]
    exact a3
theorem Canv.cg {cb' cc' cp' : Int32} (h : Canv f cb cc cp E Q R) (hf : ∀ j, j < 1725 → f' j = f j) (e1 : cb' = cb) (e2 : cc' = cc) (e3 : cp' = cp) (hE : ∀ j, j < 32 → E' j = E j) (hQ : ∀ j, j < 60 → Q' j = Q j) (hR : ∀ c, c < 10 → R' c = R c) : Canv f' cb' cc' cp' E' Q' R' := by
  subst e1
  subst e2
  subst e3
  obtain ⟨nb, nl, h1, h2, h3, h4⟩ := h
  exact ⟨nb, nl, h1, h2, h3.cg hf hE hQ hR, h4.cg h3.1 h3.2.1 hE hQ hR⟩
end K1
def Hist (σ : CSt) (τ : MS) : Prop := ∃ h o : Nat, h ≤ 4 ∧ o < 4 ∧ cs_hs σ = I h ∧ cs_ho σ = I o ∧ ms_kept τ = I h ∧ ∀ i, i < h → Canv (fun j => ms_row τ (1725 * (i + 1) + j)) (cs_kb σ ((o + i) % 4)) (cs_kc σ ((o + i) % 4)) (cs_kp σ ((o + i) % 4)) (cs_ke σ ((o + i) % 4)) (cs_kq σ ((o + i) % 4)) (cs_kr σ ((o + i) % 4))
def CurC (σ : CSt) (τ : MS) : Prop := Canv (ms_row τ) (cs_cb σ) (cs_cc σ) (cs_cp σ) (cs_ce σ) (cs_cq σ) (cs_cr σ)
def Core (σ : CSt) (τ : MS) : Prop := CurC σ τ ∧ Hist σ τ
def gcv (σ : CSt) : CT_cv := σ.1
def ghi (σ : CSt) : CT_kv × CT_hi := (σ.2.1, σ.2.2.1)
def gtx (σ : CSt) : CT_tx := σ.2.2.2.2.2.2.2.1
def gsb (σ : CSt) : CT_sb := σ.2.2.2.2.2.2.2.2.1
def ggh (σ : CSt) : CT_gh := σ.2.2.2.2.2.2.2.2.2
/-- nothing opens to the right from the last column -/
def G17 (σ : CSt) : Prop := ∀ r, r < 18 → cs_goR σ (18 * r + 17) = 0
/-- what a call on the canvas leaves alone -/
def Kp (σ σ' : CSt) : Prop := gtx σ' = gtx σ ∧ gsb σ' = gsb σ ∧ cs_run σ' = cs_run σ ∧ (G17 σ → G17 σ')
def Km (τ τ' : MS) : Prop := ms_text τ' = ms_text τ ∧ ms_length τ' = ms_length τ ∧ ms_at τ' = ms_at τ ∧ ms_fine τ' = ms_fine τ ∧ ms_number τ' = ms_number τ ∧ ms_out τ' = ms_out τ ∧ ms_outMany τ' = ms_outMany τ ∧ ms_silent τ' = ms_silent τ
theorem Kp.rf {σ : CSt} : Kp σ σ := ⟨rfl, rfl, rfl, fun h => h⟩
theorem Kp.tr {a b c : CSt} (h : Kp a b) (h' : Kp b c) : Kp a c := ⟨h'.1.trans h.1, h'.2.1.trans h.2.1, h'.2.2.1.trans h.2.2.1, fun q => h'.2.2.2 (h.2.2.2 q)⟩
theorem Km.rf {τ : MS} : Km τ τ := ⟨rfl, rfl, rfl, rfl, rfl, rfl, rfl, rfl⟩
theorem Km.tr {a b c : MS} (h : Km a b) (h' : Km b c) : Km a c := ⟨h'.1.trans h.1, h'.2.1.trans h.2.1, h'.2.2.1.trans h.2.2.1, h'.2.2.2.1.trans h.2.2.2.1, h'.2.2.2.2.1.trans h.2.2.2.2.1, h'.2.2.2.2.2.1.trans h.2.2.2.2.2.1, h'.2.2.2.2.2.2.1.trans h.2.2.2.2.2.2.1, h'.2.2.2.2.2.2.2.trans h.2.2.2.2.2.2.2⟩
def RunOk (σ : CSt) (τ : MS) : Prop := (cs_run σ = 0 ∧ ms_silent τ = 0) ∨ (cs_run σ = 1 ∧ ms_silent τ = 1)
theorem cpy0 {α : Type} (f g : Nat → α) {n j : Nat} (h : j < n) : va_cpy f g 0 0 n j = f j := by
  unfold va_cpy
  rw [if_pos (by omega)]
  exact congrArg f (by omega)
/-- both remember -/
theorem rem_ok {F : Nat} (hF : 2000 ≤ F) {σ : CSt} {τ : MS} (hC : Core σ τ) (hr : RunOk σ τ) : ∃ (σ' : CSt) (τ' : MS), fc_X9_remember F σ = some σ' ∧ fm_records F τ = some τ' ∧ Core σ' τ' ∧ Kp σ σ' ∧ Km τ τ' ∧ ggh σ' = ggh σ ∧ gcv σ' = gcv σ ∧ ∀ j, j < 1725 → ms_row τ' j = ms_row τ j := by
  rcases hr with ⟨r1, r2⟩ | ⟨r1, r2⟩
  · obtain ⟨hCur, h, o, hh, ho, e1, e2, e3, hK⟩ := hC
    obtain ⟨r', er, hR1, hR2⟩ := sm_records hF τ h hh e3 r2
    have ec := sc_keep hF σ h o hh ho e1 e2
    have ec2 : fc_X9_remember F σ = fc_X5_keep F σ := by
      simp only [fc_X9_remember, r1, if_true, ec, bd_s, fc_X9_remember_L18]
    rw [ec2, ec]
    by_cases h4 : h = 4
    · subst h4
      simp only [if_true] at er hR2 ⊢
      refine ⟨_, _, rfl, er, ⟨?_, 4, (o + 1) % 4, by omega, by omega, e1, rfl, rfl, fun i hi => ?_⟩, ⟨rfl, rfl, rfl, fun h => h⟩, ⟨rfl, rfl, rfl, rfl, rfl, rfl, rfl, rfl⟩, rfl, rfl, fun j hj => ?_⟩
      · exact Canv.cg hCur hR1 rfl rfl rfl (fun _ _ => rfl) (fun _ _ => rfl) (fun _ _ => rfl)
      · by_cases hi3 : i = 3
        · subst hi3
          have ei : ((o + 1) % 4 + 3) % 4 = (o + 4) % 4 := by omega
          rw [ei]
          refine Canv.cg hCur (fun j hj => hR2.1 j hj) (va_up_self _ _ _) (va_up_self _ _ _) (va_up_self _ _ _) (fun j hj => ?_) (fun j hj => ?_) (fun c hc => ?_)
          · exact (congrFun (va_up_self _ _ _) j).trans (cpy0 _ _ hj)
          · exact (congrFun (va_up_self _ _ _) j).trans (cpy0 _ _ hj)
          · exact if_pos ⟨rfl, hc⟩
        · have ei : ((o + 1) % 4 + i) % 4 ≠ (o + 4) % 4 := by omega
          have ej : ((o + 1) % 4 + i) % 4 = (o + (i + 1)) % 4 := by omega
          have hK1 := hK (i + 1) (by omega)
          rw [← ej] at hK1
          exact Canv.cg hK1 (fun j hj => hR2.2 (i + 1) (by omega) (by omega) j hj) (va_up_ne _ _ ei) (va_up_ne _ _ ei) (va_up_ne _ _ ei) (fun j hj => congrFun (va_up_ne _ _ ei) j) (fun j hj => congrFun (va_up_ne _ _ ei) j) (fun c hc => if_neg (fun q => ei q.1))
      · exact hR1 j hj
    · simp only [h4, if_false] at er hR2 ⊢
      refine ⟨_, _, rfl, er, ⟨?_, h + 1, o, by omega, ho, rfl, e2, rfl, fun i hi => ?_⟩, ⟨rfl, rfl, rfl, fun h => h⟩, ⟨rfl, rfl, rfl, rfl, rfl, rfl, rfl, rfl⟩, rfl, rfl, fun j hj => ?_⟩
      · exact Canv.cg hCur hR1 rfl rfl rfl (fun _ _ => rfl) (fun _ _ => rfl) (fun _ _ => rfl)
      · by_cases hih : i = h
        · subst hih
          refine Canv.cg hCur (fun j hj => hR2.1 j hj) (va_up_self _ _ _) (va_up_self _ _ _) (va_up_self _ _ _) (fun j hj => ?_) (fun j hj => ?_) (fun c hc => ?_)
          · exact (congrFun (va_up_self _ _ _) j).trans (cpy0 _ _ hj)
          · exact (congrFun (va_up_self _ _ _) j).trans (cpy0 _ _ hj)
          · exact if_pos ⟨rfl, hc⟩
        · have ei : (o + i) % 4 ≠ (o + h) % 4 := by omega
          refine Canv.cg (hK i (by omega)) (fun j hj => hR2.2 (i + 1) (by omega) (by omega) j hj) (va_up_ne _ _ ei) (va_up_ne _ _ ei) (va_up_ne _ _ ei) (fun j hj => congrFun (va_up_ne _ _ ei) j) (fun j hj => congrFun (va_up_ne _ _ ei) j) (fun c hc => if_neg (fun q => ei q.1))
      · exact hR1 j hj
  · refine ⟨σ, τ, ?_, ?_, hC, Kp.rf, Km.rf, rfl, rfl, fun _ _ => rfl⟩
    · have e : ¬ cs_run σ = 0 := by rw [r1]; decide
      simp only [fc_X9_remember, e, if_false, fc_X9_remember_L18]
    · have e : ¬ ms_silent τ = 0 := by rw [r2]; decide
      simp only [fm_records, e, if_false]
