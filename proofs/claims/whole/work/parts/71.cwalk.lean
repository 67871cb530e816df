/-! the class's walk -/
def WkD (A : GD) (p go gs st s0 : Nat) (N D V : Nat → Nat) (T : Nat) : Prop := GrOk A ∧ Wlk (GA A p go gs) N D V T ∧ N 0 = st ∧ D 0 = s0 ∧ inG A st ∧ (∀ i, i < T → ¬ (N i = go ∧ D i ≠ gs ∧ V i = enB (GA A p go gs) (D i))) ∧ (∀ s t, s < t → t ≤ T → N s ≠ N t) ∧ d_nb A ≤ 8
section H1
variable {F : Nat} {σ : CSt} {A : GD} {p go gs st s0 : Nat} {N D V : Nat → Nat} {T : Nat} {cf : Nat → Nat}
theorem WkD.ing (h : WkD A p go gs st s0 N D V T) : ∀ i, i ≤ T → inG A (N i) := by
  obtain ⟨hg, hW, h0, -, hs, -⟩ := h
  intro i hi
  cases i with
  | zero => rw [h0]; exact hs
  | succ i => exact (wk_in hg hW (show i < T by omega)).2
theorem WkD.len (h : WkD A p go gs st s0 N D V T) : T + 1 ≤ 324 := by
  have h1 := pig (p := fun _ => true) (m := 324) (Q := fun i y => y = N i) (T + 1) (fun i hi _ => ⟨N i, inG_lt h.1 (h.ing i (by omega)), rfl⟩) (fun i j y hi hj _ _ e1 e2 => by
    rcases Nat.lt_trichotomy i j with q | q | q
    · exact absurd (e1.symm.trans e2) (h.2.2.2.2.2.2.1 i j q (by omega))
    · exact q
    · exact absurd (e2.symm.trans e1) (h.2.2.2.2.2.2.1 j i q (by omega)))
  have h2 : ∀ n, cntN (fun _ => true) n = n := fun n => by
    induction n with
    | zero => rfl
    | succ n ih => unfold cntN; rw [ih]; rfl
  rw [h2] at h1
  exact h1
theorem WkD.V0 (h : WkD A p go gs st s0 N D V T) : ∀ i, i ≤ T → V i ≤ V 0 ∧ (0 < i → V i < V 0) := by
  intro i hi
  have := wk_le (GA_ok h.1 p go gs) h.2.1 0 i (by omega)
  rw [Nat.zero_add] at this
  constructor <;> omega
/-- the row's number at a place of the way is its cost -/
theorem WkD.c (h : WkD A p go gs st s0 N D V T) (hs4 : s0 < 4) {rs : Nat → Int32} (hf : FinC A p go gs rs (4 * st + s0) cf) (hlt : cf (4 * st + s0) < 1000000) : V 0 = cf (4 * st + s0) ∧ cf (4 * st + s0) ≤ 300000 ∧ ∀ i, i ≤ T → cf (4 * N i + D i) = V i := by
  obtain ⟨f1, f2, f3⟩ := hf
  obtain ⟨hg, hW, h0, hd0, hs, -⟩ := id h
  rcases f3 with ⟨g1, g2, g3⟩ | ⟨g1, -⟩
  · rw [show (4 * st + s0) / 4 = st by omega, show (4 * st + s0) % 4 = s0 by omega] at g2
    have hV0 : V 0 = cf (4 * st + s0) := by
      have := (hW.1 0 (by omega)).2
      rw [h0, hd0] at this
      exact this.uq g2
    refine ⟨hV0, g1, fun i hi => ?_⟩
    by_cases q : i = 0
    · subst q
      rw [h0, hd0]
      exact hV0.symm
    · have hlt2 := (h.V0 i hi).2 (by omega)
      obtain ⟨hd, ⟨t, ht⟩, hmin⟩ := hW.1 i hi
      obtain ⟨k1, k2⟩ := g3 t (N i) (D i) (V i) hd ht (by omega)
      obtain ⟨-, t2, ht2⟩ := f2 _ k2 (by omega)
      rw [show (4 * N i + D i) / 4 = N i by omega, show (4 * N i + D i) % 4 = D i by omega] at ht2
      have := hmin _ _ ht2
      omega
  · omega
theorem sc_next (hF : 100 ≤ F) (hS : SrC σ A p go gs) (hs4 : s0 < 4) (hf : FinC A p go gs (cs_frests σ) (4 * st + s0) cf) (hlt : cf (4 * st + s0) < 1000000) (h : WkD A p go gs st s0 N D V T) {i : Nat} (hi : i ≤ T) : fc_X8_nextDirection F σ (I (N i)) (I (D i)) = some (if i < T then I (D (i + 1)) else -1) := by
  obtain ⟨hV0, hc3, hcv⟩ := h.c hs4 hf hlt
  obtain ⟨hGr, hpen, hp50, hgo, hgoG, hgs, hgs4⟩ := id hS
  have hin := h.ing i hi
  have hn := inG_lt h.1 hin
  obtain ⟨hd, hIs⟩ := h.2.1.1 i hi
  have hci := hcv i hi
  have hvi := (h.V0 i hi).1
  have e1 : I (N i) * 4 + I (D i) = I ((4 * N i + D i : Nat) : Int) := by
    rw [I_4, I_mul, I_add]
    exact congrArg I (by omega)
  have e2 : ((4 * N i + D i : Nat) : Int).toNat = 4 * N i + D i := by omega
  have e3 := (hf.1 (4 * N i + D i) (by omega)).1
  rw [hci] at e3
  have er := sc_rest (F := F) hS hd
  have hgl := inG_lt h.1 hgoG
  have eg : (I (N i) = I go) = (N i = go) := by
    rw [I_eq (by omega) (by omega) (by omega) (by omega)]
    exact propext ⟨fun q => by omega, fun q => by omega⟩
  by_cases q : i < T
  · rw [if_pos q]
    obtain ⟨k1, k2, k3, k4, k5⟩ := h.2.1.2.1 i q
    have hd1 := (h.2.1.1 (i + 1) (by omega)).1
    have hc1 := hcv (i + 1) (by omega)
    have hsum : ∀ e, e < 4 → e ≠ opp (D i) → opA A (N i) e = true → e ≤ D (i + 1) → ((lnA A (N i) e + bnd p (D i) e + cf (4 * tgA (N i) e + e) = V i) = (e = D (i + 1))) ∧ cf (4 * tgA (N i) e + e) ≤ 1000000 ∧ 4 * tgA (N i) e + e < 1296 := fun e he hne ho hle => by
      have hin2 := inG_lt h.1 (op_in h.1 he ho).2
      have hfe := hf.1 (4 * tgA (N i) e + e) (by omega)
      refine ⟨propext ⟨fun z => ?_, fun z => ?_⟩, hfe.2, by omega⟩
      · rcases Nat.lt_or_ge e (D (i + 1)) with y | y
        · obtain ⟨-, t2, ht2⟩ := hf.2.1 (4 * tgA (N i) e + e) (by omega) (by omega)
          rw [show (4 * tgA (N i) e + e) / 4 = tgA (N i) e by omega, show (4 * tgA (N i) e + e) % 4 = e by omega] at ht2
          have : V i < lnA A (N i) e + bnd p (D i) e + cf (4 * tgA (N i) e + e) := k5 e t2 _ y hne ho ht2
          omega
        · omega
      · subst z
        have k3' : N (i + 1) = tgA (N i) (D (i + 1)) := k3
        have k4' : V i = lnA A (N i) (D (i + 1)) + bnd p (D i) (D (i + 1)) + V (i + 1) := k4
        rw [← k3', hc1]
        exact k4'.symm
    have body : ∀ (e : Nat) (rec : Int32 → Int32 → Int32 → Int32 → Option Int32), e ≤ D (i + 1) → fc_X8_nextDirection_L33_c F σ rec (I (N i)) (I (D i)) (I (V i)) (I e) = if e = D (i + 1) then some (I e) else rec (I (N i)) (I (D i)) (I (V i)) (I ((e + 1 : Nat) : Int)) := fun e rec he => by
      have he4 : e < 4 := by omega
      have e4 : ¬ (4 : Int32) ≤ I e := by rw [I_4, I_le] <;> omega
      have hop := sc_opp (F := F) (σ := σ) (D i) hd
      have hol := opp_lt (D i)
      by_cases c1 : e = opp (D i)
      · have e5 : I e = I (opp (D i) : Nat) := by rw [c1]
        have e6 : e ≠ D (i + 1) := fun z => k1 (by rw [← z]; exact c1)
        simp only [fc_X8_nextDirection_L33_c, e4, if_false, hop, bd_s, eq_true e5, if_true, fc_X8_nextDirection_L62, fc_X8_nextDirection_L122, lt_r, I_S]
        rw [if_neg e6]
      · have e5 : ¬ I e = I (opp (D i) : Nat) := by rw [I_eq] <;> omega
        have hnb := sc_nbr (F := F) hGr hin he4
        by_cases c2 : opA A (N i) e = true
        · rw [if_pos c2] at hnb
          obtain ⟨g1, g2, -, g4⟩ := sc_step (F := F) hGr hin he4 c2
          obtain ⟨m1, m2, m3⟩ := hsum e he4 c1 c2 he
          have hin2 := inG_lt h.1 g1
          have e6 : ¬ I (tgA (N i) e : Nat) = -1 := I_nm1 (by omega)
          have e7 : I (tgA (N i) e : Nat) * 4 + I e = I ((4 * tgA (N i) e + e : Nat) : Int) := by
            rw [I_4, I_mul, I_add]
            exact congrArg I (by omega)
          have e8 : ((4 * tgA (N i) e + e : Nat) : Int).toNat = 4 * tgA (N i) e + e := by omega
          have e9 := (hf.1 (4 * tgA (N i) e + e) m3).1
          have hbl := bnd_le p (D i) e
          have key : ∀ s, s = I (bnd p (D i) e : Nat) → fc_X8_nextDirection_L87 F σ rec (I (N i)) (I (D i)) (I (V i)) (I e) (I (tgA (N i) e : Nat)) s = if e = D (i + 1) then some (I e) else rec (I (N i)) (I (D i)) (I (V i)) (I ((e + 1 : Nat) : Int)) := fun s hs => by
            subst hs
            have e10 : (I (lnA A (N i) e : Nat) + I (bnd p (D i) e : Nat) + I (cf (4 * tgA (N i) e + e)) = I (V i)) = (e = D (i + 1)) := by
              rw [I_add, I_add, I_eq (by omega) (by omega) (by omega) (by omega), ← m1]
              exact propext ⟨fun z => by omega, fun z => by omega⟩
            simp (disch := omega) only [fc_X8_nextDirection_L87, fc_X8_stateOf, g2, bd_s, e7, I_ix, gd_T, I_cl, e8, e9, e10, fc_X8_nextDirection_L122, lt_r, I_S]
          by_cases c3 : e = D i
          · have e11 : I e = I (D i) := by rw [c3]
            have e12 : (0 : Int32) = I (bnd p (D i) e : Nat) := by
              unfold bnd
              rw [if_pos c3]
              rfl
            simp only [fc_X8_nextDirection_L33_c, e4, if_false, hop, bd_s, e5, hnb, fc_X8_nextDirection_L62, e6, eq_true e11, if_true]
            exact key _ e12
          · have e11 : ¬ I e = I (D i) := by rw [I_eq] <;> omega
            have e12 : cs_fpen σ = I (bnd p (D i) e : Nat) := by
              unfold bnd
              rw [if_neg c3]
              exact hpen
            simp only [fc_X8_nextDirection_L33_c, e4, if_false, hop, bd_s, e5, hnb, fc_X8_nextDirection_L62, e6, e11]
            exact key _ e12
        · rw [if_neg c2] at hnb
          have e6 : e ≠ D (i + 1) := fun z => c2 (by rw [z]; exact k2)
          simp only [fc_X8_nextDirection_L33_c, e4, if_false, hop, bd_s, e5, hnb, fc_X8_nextDirection_L62, fc_X8_nextDirection_L122, lt_r, I_S, if_true]
          rw [if_neg e6]
    have lp : fc_X8_nextDirection_L30 F σ (I (N i)) (I (D i)) (I (V i)) = some (I (D (i + 1))) := by
      refine lp_r (fun e => (I (N i), I (D i), I (V i), I e)) _ (D (i + 1)) rfl (by omega) (fun e rec he => ?_) (fun rec => ?_)
      · refine (body e _ (by omega)).trans ?_
        rw [if_neg (by omega)]
      · refine (body _ _ (Nat.le_refl _)).trans ?_
        rw [if_pos rfl]
    by_cases c1 : N i = go
    · have hst := h.2.2.2.2.2.1 i q
      have e4 : ¬ I (V i) = (if D i = gs then (1000000 : Int32) else I (enB (GA A p go gs) (D i) : Nat)) := by
        by_cases c2 : D i = gs
        · rw [if_pos c2, show (1000000 : Int32) = I 1000000 from rfl, I_eq] <;> omega
        · rw [if_neg c2]
          have hel := enB_le (GA A p go gs) (D i)
          have hp5 : g_p (GA A p go gs) ≤ 50 := hp50
          have : ¬ V i = enB (GA A p go gs) (D i) := fun z => hst ⟨c1, c2, z⟩
          rw [I_eq] <;> omega
      simp (disch := omega) only [fc_X8_nextDirection, fc_X8_stateOf, e1, bd_s, I_ix, gd_T, I_cl, e2, e3, lt_r, hgo, eg, eq_true c1, if_true, er, e4, if_false]
      exact lp
    · simp (disch := omega) only [fc_X8_nextDirection, fc_X8_stateOf, e1, bd_s, I_ix, gd_T, I_cl, e2, e3, lt_r, hgo, eg, c1, if_false]
      exact lp
  · rw [if_neg q]
    have hiT : i = T := by omega
    subst hiT
    obtain ⟨-, -, t1, t2, t3⟩ := h.2.1
    have t1' : N i = go := t1
    have t2' : D i ≠ gs := t2
    rw [if_neg t2', ← t3] at er
    simp (disch := omega) only [fc_X8_nextDirection, fc_X8_stateOf, e1, bd_s, I_ix, gd_T, I_cl, e2, e3, lt_r, hgo, eg, eq_true t1', if_true, er]
def cSt (σ : CSt) (fx fy : Nat → Int32) (n : Int32) : CSt := cs_fcn_s (cs_fcy_s (cs_fcx_s σ fx) fy) n
theorem cX_M {f : Nat → Int32} {n : Int32} : cs_fcx_s (cs_fcn_s σ n) f = cs_fcn_s (cs_fcx_s σ f) n := rfl
theorem cX_Y {f g : Nat → Int32} : cs_fcx_s (cs_fcy_s σ g) f = cs_fcy_s (cs_fcx_s σ f) g := rfl
theorem cX_X {f g : Nat → Int32} : cs_fcx_s (cs_fcx_s σ g) f = cs_fcx_s σ f := rfl
theorem cY_M {f : Nat → Int32} {n : Int32} : cs_fcy_s (cs_fcn_s σ n) f = cs_fcn_s (cs_fcy_s σ f) n := rfl
theorem cY_Y {f g : Nat → Int32} : cs_fcy_s (cs_fcy_s σ g) f = cs_fcy_s σ f := rfl
theorem cM_M {n m : Int32} : cs_fcn_s (cs_fcn_s σ n) m = cs_fcn_s σ m := rfl
theorem cSS_1 {f g : Nat → Int32} {n : Int32} : cs_fcn (cSt σ f g n) = n := rfl
theorem cSS_2 {f g : Nat → Int32} {n : Int32} : cs_fcx (cSt σ f g n) = f := rfl
theorem cSS_3 {f g : Nat → Int32} {n : Int32} : cs_fcy (cSt σ f g n) = g := rfl
theorem cSS_4 {f g h : Nat → Int32} {n : Int32} : cs_fcx_s (cSt σ f g n) h = cSt σ h g n := by
  unfold cSt
  rw [cX_M, cX_Y, cX_X]
theorem cSS_5 {f g h : Nat → Int32} {n : Int32} : cs_fcy_s (cSt σ f g n) h = cSt σ f h n := by
  unfold cSt
  rw [cY_M, cY_Y]
theorem cSS_6 {f g : Nat → Int32} {n m : Int32} : cs_fcn_s (cSt σ f g n) m = cSt σ f g m := by
  unfold cSt
  rw [cM_M]
theorem sc_addC {fx fy : Nat → Int32} {n : Nat} (hn : n < 326) (x y : Int32) : fc_X8_addCorner F (cSt σ fx fy (I n)) x y = some (cSt σ (upd fx n x) (upd fy n y) (I ((n + 1 : Nat) : Int))) := by
  have e1 : ¬ (326 : Int32) ≤ I n := by rw [show (326 : Int32) = I 326 from rfl, I_le] <;> omega
  have e2 : ((n : Nat) : Int).toNat = n := by omega
  have e4 : ∀ v, sc_fcx (cSt σ fx fy (I n)) (I n) v = cSt σ (upd fx n v) fy (I n) := fun v => by
    unfold sc_fcx
    rw [I_cl (by omega) (by omega), e2, cSS_2, cSS_4]
  have e5 : ∀ f v, sc_fcy (cSt σ f fy (I n)) (I n) v = cSt σ f (upd fy n v) (I n) := fun f v => by
    unfold sc_fcy
    rw [I_cl (by omega) (by omega), e2, cSS_3, cSS_5]
  have e6 : ix (I n) 326 = true := of_eq_true (I_ix (by omega) (by omega) (by omega))
  unfold fc_X8_addCorner
  rw [cSS_1, if_neg e1, gd_t e6, lt_r, e4, cSS_1, gd_t e6, lt_r, e5, lt_r, cSS_1, I_S, cSS_6]
  rfl
/-- rows of corners, pushed one by one -/
theorem cor_fin {E : Nat → Nat} {T : Nat} {q : Nat → Int} {f : Nat → Int32} (h0 : f 0 = I (q 0)) (h1 : ∀ m, m < T + 1 → chE E m = true → f (1 + cntN (chE E) m) = I (q (m + 1))) (h2 : f (1 + cntN (chE E) (T + 1)) = I (q (T + 2))) : ∀ k, k < nC E (T + 2) → f k = I (q (cpF E (T + 2) k)) := by
  intro k hk
  unfold nC at hk
  have hk' : k < 2 + cntN (chE E) (T + 1) := hk
  by_cases c0 : k = 0
  · subst c0
    exact h0
  · by_cases c1 : k ≤ cntN (chE E) (T + 1)
    · rw [cp_m (by omega) c1]
      obtain ⟨a1, a2, a3⟩ := psB_sp (ch := chE E) (n := T + 1) (k := k - 1) (by omega)
      have := h1 _ a1 a2
      rw [a3, show 1 + (k - 1) = k by omega] at this
      exact this
    · rw [cp_e (by omega) (by show cntN (chE E) (T + 1) < k; omega), show k = 1 + cntN (chE E) (T + 1) by omega]
      exact h2
/-- the points of a way with its ports -/
def wyQ (z : Nat → Int) (T : Nat) (a b : Int) : Nat → Int := fun j => if j = 0 then a else if j ≤ T + 1 then z (j - 1) else b
theorem wyQ_0 {z : Nat → Int} {T : Nat} {a b : Int} : wyQ z T a b 0 = a := rfl
theorem wyQ_m {z : Nat → Int} {T : Nat} {a b : Int} {m : Nat} (h : m ≤ T) : wyQ z T a b (m + 1) = z m := by
  unfold wyQ
  rw [if_neg (by omega), if_pos (by omega)]
  rfl
theorem wyQ_e {z : Nat → Int} {T : Nat} {a b : Int} : wyQ z T a b (T + 2) = b := by
  unfold wyQ
  rw [if_neg (by omega), if_neg (by omega)]
/-- what one push does to the rows -/
theorem psh {ch : Nat → Bool} {q : Nat → Int} {f : Nat → Int32} {m : Nat} {v : Int32} {a : Int} (h0 : f 0 = I a) (h1 : ∀ j, j < m → ch j = true → f (1 + cntN ch j) = I (q j)) (hm : ch m = true) (hv : v = I (q m)) : upd f (1 + cntN ch m) v 0 = I a ∧ ∀ j, j < m + 1 → ch j = true → upd f (1 + cntN ch m) v (1 + cntN ch j) = I (q j) := by
  subst hv
  unfold upd
  constructor
  · rw [if_neg (by omega)]; exact h0
  · intro j hj hc
    by_cases c : j = m
    · subst c
      rw [if_pos rfl]
    · have : cntN ch j < cntN ch m := by
        have a1 := cntN_mn (p := ch) (show j + 1 ≤ m by omega)
        have a2 : cntN ch (j + 1) = cntN ch j + 1 := by
          show cntN ch j + (if ch j = true then 1 else 0) = _
          rw [if_pos hc]
        omega
      rw [if_neg (by omega)]
      exact h1 j (by omega) hc
theorem cnt_y {ch : Nat → Bool} {m : Nat} (h : ch m = true) : cntN ch (m + 1) = cntN ch m + 1 := by
  show cntN ch m + (if ch m = true then 1 else 0) = _
  rw [if_pos h]
theorem cnt_n {ch : Nat → Bool} {m : Nat} (h : ch m = false) : cntN ch (m + 1) = cntN ch m := by
  show cntN ch m + (if ch m = true then 1 else 0) = _
  rw [h]
  rfl
theorem ed_m {i : Nat} (hm : i ≤ T) : edir D gs T i = D i := if_pos hm
theorem ed_e : edir D gs T (T + 1) = opp gs := if_neg (by omega)
end H1
