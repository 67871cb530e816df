/-! a found way becomes the route -/
def smP (v : RV) (X Y : Nat → Int) (k : Nat) : Bool := !(decide (v.2.2.1 k = I (X k)) && decide (v.2.2.2 k = I (Y k)))
def smB (o : Option RV) (n : Nat) (X Y : Nat → Int) (k : Nat) : Bool := match o with
  | none => false
  | some v => decide (v.2.1 = n) && !anyN (smP v X Y) k
/-- a route with these corners and this cost -/
def RtV (v : RV) (cost : Int32) (n : Nat) (X Y : Nat → Int) : Prop := v.1 = cost ∧ v.2.1 = n ∧ ∀ k, k < n → v.2.2.1 k = I (X k) ∧ v.2.2.2 k = I (Y k)
theorem smB_t {v : RV} {n : Nat} {X Y : Nat → Int} (h : smB (some v) n X Y n = true) : v.2.1 = n ∧ ∀ k, k < n → v.2.2.1 k = I (X k) ∧ v.2.2.2 k = I (Y k) := by
  simp only [smB, Bool.and_eq_true, decide_eq_true_eq, Bool.not_eq_true'] at h
  refine ⟨h.1, fun k hk => ?_⟩
  have h2 : smP v X Y k = false := by
    cases hq : smP v X Y k with
    | false => rfl
    | true => rw [anyN_ex.mpr ⟨k, hk, hq⟩] at h; cases h.2
  simpa [smP] using h2
theorem smB_of {v : RV} {n : Nat} {X Y : Nat → Int} (h1 : v.2.1 = n) (h2 : ∀ k, k < n → v.2.2.1 k = I (X k) ∧ v.2.2.2 k = I (Y k)) : smB (some v) n X Y n = true := by
  simp only [smB, Bool.and_eq_true, decide_eq_true_eq, Bool.not_eq_true']
  refine ⟨h1, anyN_no fun k hk => ?_⟩
  simp [smP, h2 k hk]
def tkF (row : Nat → Int32) (b : Nat) (X Y : Nat → Int) (k : Nat) : Nat → Int32 := fun j => if b + 9 ≤ j ∧ j < b + 9 + 2 * k then (if (j - b - 9) % 2 = 0 then I (X ((j - b - 9) / 2)) else I (Y ((j - b - 9) / 2))) else row j
theorem tkF_0 (row : Nat → Int32) (b : Nat) (X Y : Nat → Int) : tkF row b X Y 0 = row := by
  funext j
  unfold tkF
  rw [if_neg (by omega)]
theorem tkF_S (row : Nat → Int32) (b : Nat) (X Y : Nat → Int) (k : Nat) : upd (upd (tkF row b X Y k) (b + (9 + 2 * k)) (I (X k))) (b + (10 + 2 * k)) (I (Y k)) = tkF row b X Y (k + 1) := by
  funext j
  unfold upd tkF
  by_cases h1 : j = b + (10 + 2 * k)
  · rw [if_pos h1, if_pos (by omega), if_neg (by omega), show (j - b - 9) / 2 = k by omega]
  · rw [if_neg h1]
    by_cases h2 : j = b + (9 + 2 * k)
    · rw [if_pos h2, if_pos (by omega), if_pos (by omega), show (j - b - 9) / 2 = k by omega]
    · rw [if_neg h2]
      by_cases h3 : b + 9 ≤ j ∧ j < b + 9 + 2 * k
      · have h4 : b + 9 ≤ j ∧ j < b + 9 + 2 * (k + 1) := by omega
        rw [if_pos h3, if_pos h4]
      · rw [if_neg h3, if_neg (by omega)]
section T1
variable {F : Nat} {τ : MS} {c n : Nat} {X Y : Nat → Int} {o : Option RV}
theorem mR_R {f g : Nat → Int32} : ms_row_s (ms_row_s τ f) g = ms_row_s τ g := rfl
theorem sm_puts {f : Nat → Int32} (j : Nat) (hc : c < 10) (hj : j < 169) (v : Int32) : fm_puts F (ms_row_s τ f) (I c) (I j) v = some (ms_row_s τ (upd f (35 + 169 * c + j) v)) := by
  have e1 : (35 : Int32) + 169 * I c + I j = I ((35 + 169 * c + j : Nat) : Int) := by
    rw [I_35, I_169, I_mul, I_add, I_add]
    exact congrArg I (by omega)
  unfold fm_puts
  rw [e1, gd_t (of_eq_true (I_ix (by omega) (by omega) (by omega))), lt_r]
  unfold st_row
  rw [I_cl (by omega) (by omega), show ((35 + 169 * c + j : Nat) : Int).toNat = 35 + 169 * c + j by omega, mR_R, zm_row_row]
theorem sm_ofr {f : Nat → Int32} (j : Nat) (hc : c < 10) (hj : j < 169) : fm_of F (ms_row_s τ f) (I c) (I j) = some (f (35 + 169 * c + j)) := sm_of c j hc hj
theorem sm_cx {f : Nat → Int32} (k : Nat) (hc : c < 10) (hk : k < 80) : fm_cornerX F (ms_row_s τ f) (I c) (I k) = some (f (35 + 169 * c + (9 + 2 * k))) ∧ fm_cornerY F (ms_row_s τ f) (I c) (I k) = some (f (35 + 169 * c + (10 + 2 * k))) := by
  have e1 : (9 : Int32) + 2 * I k = I ((9 + 2 * k : Nat) : Int) := by
    rw [I_9, I_2, I_mul, I_add]
    exact congrArg I (by omega)
  have e2 : (10 : Int32) + 2 * I k = I ((10 + 2 * k : Nat) : Int) := by
    rw [I_10, I_2, I_mul, I_add]
    exact congrArg I (by omega)
  unfold fm_cornerX fm_cornerY
  rw [e1, e2, sm_ofr (9 + 2 * k) hc (by omega), sm_ofr (10 + 2 * k) hc (by omega)]
  exact ⟨rfl, rfl⟩
theorem sm_takes (hF : 1000 ≤ F) (hc : c < 10) (hn : n ≤ 66) (hR : RtC (fun j => ms_row τ (35 + 169 * c + j)) o) (hm : ms_wayMany τ = I n) (hx : ∀ k, k < n → ms_wayX τ k = I (X k)) (hy : ∀ k, k < n → ms_wayY τ k = I (Y k)) (cost : Int32) : ∃ f', fm_takes F τ (I c) cost = some (b2 (!smB o n X Y n), ms_row_s τ f') ∧ (∀ j, (j < 35 + 169 * c + 6 ∨ 35 + 169 * c + 169 ≤ j) → f' j = ms_row τ j) ∧ ∀ v, RtV v cost n X Y → RtC (fun j => f' (35 + 169 * c + j)) (some v) := by
  have hrs : ms_row_s τ (ms_row τ) = τ := rfl
  have h6 := sm_ofr (F := F) (τ := τ) (f := ms_row τ) (c := c) 6 hc (by omega)
  have h8 := sm_ofr (F := F) (τ := τ) (f := ms_row τ) (c := c) 8 hc (by omega)
  rw [hrs] at h6 h8
  have h6' : fm_of F τ (I c) 6 = _ := h6
  have h8' : fm_of F τ (I c) 8 = _ := h8
  have hfr : ∀ v : RV, o = some v → ms_row τ (35 + 169 * c + 8) = I v.2.1 ∧ v.2.1 ≤ 80 ∧ ∀ k, k < v.2.1 → ms_row τ (35 + 169 * c + (9 + 2 * k)) = v.2.2.1 k ∧ ms_row τ (35 + 169 * c + (10 + 2 * k)) = v.2.2.2 k := fun v hv => by
    rw [hv] at hR
    exact ⟨hR.2.2.2.1, hR.2.2.1, hR.2.2.2.2⟩
  have start : fm_takes F τ (I c) cost = fm_takes_L31 F F τ (I c) cost (b2 (!smB o n X Y 0)) 0 := by
    unfold fm_takes fm_hasRoute
    rw [h6']
    cases o with
    | none =>
      have h60 : ms_row τ (35 + 169 * c + 6) = 0 := hR
      rw [bd_s, h60, if_neg (by decide)]
      rfl
    | some v =>
      have h61 : ms_row τ (35 + 169 * c + 6) = 1 := hR.1
      obtain ⟨g1, g2, -⟩ := hfr v rfl
      rw [bd_s, h61, if_pos rfl, h8', g1, hm]
      show bd (fm_hasRoute_L16 F τ 1) _ = _
      rw [show fm_hasRoute_L16 F τ 1 = some 1 from rfl, bd_s, if_neg (by decide), bd_s]
      by_cases q : v.2.1 = n
      · rw [if_pos (by rw [q])]
        have : smB (some v) n X Y 0 = true := by simp [smB, q, anyN]
        rw [this]
        rfl
      · rw [if_neg (by rw [I_eq] <;> omega)]
        have : smB (some v) n X Y 0 = false := by simp [smB, q]
        rw [this]
        rfl
  refine ⟨upd (upd (upd (tkF (ms_row τ) (35 + 169 * c) X Y n) (35 + 169 * c + 6) 1) (35 + 169 * c + 7) cost) (35 + 169 * c + 8) (I n), ?_, fun j hj => ?_, fun v hv => ?_⟩
  · rw [start]
    refine lp_r (fun k => (ms_row_s τ (tkF (ms_row τ) (35 + 169 * c) X Y k), I c, cost, b2 (!smB o n X Y k), I k)) _ n (by rw [tkF_0]; rfl) (by omega) (fun k rec hk => ?_) (fun rec => ?_)
    · have e1 : ¬ I n ≤ I k := by rw [I_le] <;> omega
      have e6 : ((k : Nat) : Int).toNat = k := by omega
      have wm : ∀ f, ms_wayMany (ms_row_s τ f) = I n := fun _ => hm
      have wx : ∀ f, ms_wayX (ms_row_s τ f) k = I (X k) := fun _ => hx k hk
      have wy : ∀ f, ms_wayY (ms_row_s τ f) k = I (Y k) := fun _ => hy k hk
      have i9 : (9 : Int32) + 2 * I k = I ((9 + 2 * k : Nat) : Int) := by
        rw [I_9, I_2, I_mul, I_add]
        exact congrArg I (by omega)
      have i10 : (10 : Int32) + 2 * I k = I ((10 + 2 * k : Nat) : Int) := by
        rw [I_10, I_2, I_mul, I_add]
        exact congrArg I (by omega)
      have ixk : ix (I k) 400 = true := of_eq_true (I_ix (by omega) (by omega) (by omega))
      have f83 : ∀ s, fm_takes_L83 F (fun a b c d e => rec (a, b, c, d, e)) (ms_row_s τ (tkF (ms_row τ) (35 + 169 * c) X Y k)) (I c) cost (I k) s = rec (ms_row_s τ (tkF (ms_row τ) (35 + 169 * c) X Y (k + 1)), I c, cost, s, I ((k + 1 : Nat) : Int)) := fun s => by
        unfold fm_takes_L83
        rw [gd_t ixk, I_cl (by omega) (by omega), e6, wx, i9, sm_puts (9 + 2 * k) hc (by omega), bd_s, gd_t ixk, wy, i10, sm_puts (10 + 2 * k) hc (by omega), bd_s, tkF_S, lt_r, I_S]
      obtain ⟨cx, cy⟩ := sm_cx (F := F) (τ := τ) (c := c) (f := tkF (ms_row τ) (35 + 169 * c) X Y k) k hc (by omega)
      have t1 : tkF (ms_row τ) (35 + 169 * c) X Y k (35 + 169 * c + (9 + 2 * k)) = ms_row τ (35 + 169 * c + (9 + 2 * k)) := by
        unfold tkF
        rw [if_neg (by omega)]
      have t2 : tkF (ms_row τ) (35 + 169 * c) X Y k (35 + 169 * c + (10 + 2 * k)) = ms_row τ (35 + 169 * c + (10 + 2 * k)) := by
        unfold tkF
        rw [if_neg (by omega)]
      rw [t1] at cx
      rw [t2] at cy
      show fm_takes_L31_c F (fun a b c d e => rec (a, b, c, d, e)) (ms_row_s τ (tkF (ms_row τ) (35 + 169 * c) X Y k)) (I c) cost (b2 (!smB o n X Y k)) (I k) = _
      unfold fm_takes_L31_c fm_takes_L78
      rw [wm, if_neg e1]
      cases hs : smB o n X Y k with
      | false =>
        have hs2 : smB o n X Y (k + 1) = false := by
          cases o with
          | none => rfl
          | some v =>
            simp only [smB, anyN] at hs ⊢
            cases h9 : decide (v.2.1 = n) with
            | false => rfl
            | true =>
              rw [h9, Bool.true_and, Bool.not_eq_false'] at hs
              rw [hs]
              rfl
        rw [hs2, if_neg (by decide)]
        exact f83 1
      | true =>
        cases o with
        | none => cases hs
        | some v =>
          have hvn : v.2.1 = n := by
            simp only [smB, Bool.and_eq_true, decide_eq_true_eq] at hs
            exact hs.1
          have hs3 : anyN (smP v X Y) k = false := by
            simp only [smB, Bool.and_eq_true, Bool.not_eq_true'] at hs
            exact hs.2
          obtain ⟨-, -, g3⟩ := hfr v rfl
          obtain ⟨g4, g5⟩ := g3 k (by omega)
          rw [g4] at cx
          rw [g5] at cy
          have hs2 : smB (some v) n X Y (k + 1) = !smP v X Y k := by
            simp only [smB, anyN, hs3, Bool.false_or, decide_eq_true hvn, Bool.true_and]
          rw [if_pos (by decide), cx, bd_s, gd_t ixk, I_cl (by omega) (by omega), e6, wx, hs2, Bool.not_not]
          by_cases q1 : v.2.2.1 k = I (X k)
          · rw [if_pos q1, cy, bd_s, gd_t ixk, wy]
            by_cases q2 : v.2.2.2 k = I (Y k)
            · rw [if_pos q2, f83]
              have : smP v X Y k = false := by simp [smP, q1, q2]
              rw [this]
              rfl
            · rw [if_neg q2, f83]
              have : smP v X Y k = true := by simp [smP, q2]
              rw [this]
              rfl
          · rw [if_neg q1, f83]
            have : smP v X Y k = true := by simp [smP, q1]
            rw [this]
            rfl
    · have e1 : I n ≤ I n := by rw [I_le] <;> omega
      have wm : ∀ f, ms_wayMany (ms_row_s τ f) = I n := fun _ => hm
      have p6 := fun (f : Nat → Int32) v => sm_puts (F := F) (τ := τ) (f := f) (c := c) 6 hc (by omega) v
      have p7 := fun (f : Nat → Int32) v => sm_puts (F := F) (τ := τ) (f := f) (c := c) 7 hc (by omega) v
      have p8 := fun (f : Nat → Int32) v => sm_puts (F := F) (τ := τ) (f := f) (c := c) 8 hc (by omega) v
      have p6' : ∀ (f : Nat → Int32) v, fm_puts F (ms_row_s τ f) (I c) 6 v = _ := p6
      have p7' : ∀ (f : Nat → Int32) v, fm_puts F (ms_row_s τ f) (I c) 7 v = _ := p7
      have p8' : ∀ (f : Nat → Int32) v, fm_puts F (ms_row_s τ f) (I c) 8 v = _ := p8
      show fm_takes_L31_c F (fun a b c d e => rec (a, b, c, d, e)) (ms_row_s τ (tkF (ms_row τ) (35 + 169 * c) X Y n)) (I c) cost (b2 (!smB o n X Y n)) (I n) = _
      unfold fm_takes_L31_c
      rw [wm, if_pos e1, p6', bd_s, p7', bd_s, wm, p8', bd_s, gd_t (b2_ne _)]
  · unfold upd tkF
    rw [if_neg (by omega), if_neg (by omega), if_neg (by omega), if_neg (by omega)]
  · obtain ⟨v1, v2, v3⟩ := hv
    refine ⟨?_, ?_, by omega, ?_, fun k hk => ?_⟩
    · show upd (upd (upd (tkF (ms_row τ) (35 + 169 * c) X Y n) (35 + 169 * c + 6) 1) (35 + 169 * c + 7) cost) (35 + 169 * c + 8) (I n) (35 + 169 * c + 6) = 1
      unfold upd
      rw [if_neg (by omega), if_neg (by omega), if_pos rfl]
    · show upd (upd (upd (tkF (ms_row τ) (35 + 169 * c) X Y n) (35 + 169 * c + 6) 1) (35 + 169 * c + 7) cost) (35 + 169 * c + 8) (I n) (35 + 169 * c + 7) = v.1
      unfold upd
      rw [if_neg (by omega), if_pos rfl, v1]
    · show upd (upd (upd (tkF (ms_row τ) (35 + 169 * c) X Y n) (35 + 169 * c + 6) 1) (35 + 169 * c + 7) cost) (35 + 169 * c + 8) (I n) (35 + 169 * c + 8) = I v.2.1
      unfold upd
      rw [if_pos rfl, v2]
    · show upd (upd (upd (tkF (ms_row τ) (35 + 169 * c) X Y n) (35 + 169 * c + 6) 1) (35 + 169 * c + 7) cost) (35 + 169 * c + 8) (I n) (35 + 169 * c + (9 + 2 * k)) = _ ∧ upd (upd (upd (tkF (ms_row τ) (35 + 169 * c) X Y n) (35 + 169 * c + 6) 1) (35 + 169 * c + 7) cost) (35 + 169 * c + 8) (I n) (35 + 169 * c + (10 + 2 * k)) = _
      rw [(v3 k (by omega)).1, (v3 k (by omega)).2]
      unfold upd tkF
      rw [if_neg (by omega), if_neg (by omega), if_neg (by omega), if_pos (by omega), if_pos (by omega), if_neg (by omega), if_neg (by omega), if_neg (by omega), if_pos (by omega), if_neg (by omega)]
      exact ⟨congrArg (fun q => I (X q)) (by omega), congrArg (fun q => I (Y q)) (by omega)⟩
end T1
section T2
variable {F : Nat} {σ : CSt} {c n : Nat} {X Y : Nat → Int}
theorem sc_along (hF : 1000 ≤ F) (hn : n ≤ 66) (hm : cs_fcn σ = I n) (hx : ∀ k, k < n → cs_fcx σ k = I (X k)) (hy : ∀ k, k < n → cs_fcy σ k = I (Y k)) {v : RV} (hv : v.2.1 ≤ 80) : fc_X8_walkedAlong F σ v = some (b2 (smB (some v) n X Y n)) := by
  unfold fc_X8_walkedAlong fc_X6_corners
  rw [bd_s, I_nat, hm]
  by_cases q : v.2.1 = n
  · rw [if_pos (by rw [q])]
    have hle := fstN_le (p := smP v X Y) (n := n)
    have key : ∀ (k : Nat) (rec : RV → Int32 → Option Int32), k < n → fc_X8_walkedAlong_L15_c F σ rec v (I k) = if smP v X Y k = true then some 0 else rec v (I ((k + 1 : Nat) : Int)) := fun k rec hk => by
      have e1 : ¬ I n ≤ I k := by rw [I_le] <;> omega
      have e6 : ((k : Nat) : Int).toNat = k := by omega
      simp (disch := omega) only [fc_X8_walkedAlong_L15_c, fc_X8_walkedAlong_L53, hm, e1, if_false, I_ix, gd_T, I_cl, e6, hx k hk, hy k hk, lt_r, I_S]
      by_cases q1 : v.2.2.1 k = I (X k)
      · rw [if_pos q1]
        by_cases q2 : v.2.2.2 k = I (Y k)
        · rw [if_pos q2, if_neg (by simp [smP, q1, q2])]
        · rw [if_neg q2, if_pos (by simp [smP, q2])]
      · rw [if_neg q1, if_pos (by simp [smP, q1])]
    refine lp_r (fun k => (v, I k)) _ (fstN (smP v X Y) n) rfl (by omega) (fun k rec hk => ?_) (fun rec => ?_)
    · refine (key k _ (by omega)).trans ?_
      rw [fstN_no hk]
      rfl
    · rcases Nat.lt_or_ge (fstN (smP v X Y) n) n with hm' | hm'
      · refine (key _ _ hm').trans ?_
        rw [fstN_at hm', if_pos rfl]
        have : smB (some v) n X Y n = false := by
          simp only [smB, anyN_fst, decide_eq_true hm', Bool.not_true, Bool.and_false]
        rw [this]
        rfl
      · have e1 : I n ≤ I (fstN (smP v X Y) n) := by rw [I_le] <;> omega
        simp only [fc_X8_walkedAlong_L15_c, hm, e1, if_true]
        have : smB (some v) n X Y n = true := by
          simp only [smB, anyN_fst, decide_eq_true q, decide_eq_false (show ¬ fstN (smP v X Y) n < n by omega), Bool.not_false, Bool.and_true]
        rw [this]
        rfl
  · rw [if_neg (by rw [I_eq] <;> omega)]
    have : smB (some v) n X Y n = false := by simp [smB, q]
    rw [this]
    rfl
end T2
