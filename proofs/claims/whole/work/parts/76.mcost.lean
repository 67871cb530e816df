/-! the reference's costs -/
def sumZ (z : Nat → Nat) : Nat → Nat
  | 0 => 0
  | n + 1 => sumZ z n + z n
theorem sumZ_le {z : Nat → Nat} {m : Nat} : ∀ n, (∀ k, k < n → z k ≤ m) → sumZ z n ≤ m * n
  | 0, _ => Nat.zero_le _
  | n + 1, h => by
    have h1 := sumZ_le n (fun k hk => h k (by omega))
    have h2 := h n (by omega)
    show sumZ z n + z n ≤ m * (n + 1)
    rw [Nat.mul_succ]
    omega
theorem sumZ_up {z : Nat → Nat} {k v : Nat} : ∀ n, (n ≤ k → sumZ (va_up z k v) n = sumZ z n) ∧ (k < n → v < z k → sumZ (va_up z k v) n < sumZ z n)
  | 0 => ⟨fun _ => rfl, fun h => absurd h (Nat.not_lt_zero _)⟩
  | n + 1 => by
    obtain ⟨h1, h2⟩ := sumZ_up (z := z) (k := k) (v := v) n
    constructor
    · intro h
      show sumZ (va_up z k v) n + va_up z k v n = sumZ z n + z n
      rw [h1 (by omega), va_up_ne _ _ (by omega)]
    · intro h hv
      show sumZ (va_up z k v) n + va_up z k v n < sumZ z n + z n
      by_cases c : n = k
      · subst c
        rw [h1 (by omega), va_up_self]
        omega
      · rw [va_up_ne _ _ c]
        have := h2 (by omega) hv
        omega
def zOk (A : GD) (p go gs : Nat) (z : Nat → Nat) : Prop := (∀ k, k < 1600 → z k ≤ 100000000) ∧ (∀ n d, inG A n → d < 4 → z (4 * nd n + d) < 100000000 → ∃ t, Rc (GA A p go gs) t n d (z (4 * nd n + d))) ∧ ∀ d, d < 4 → d ≠ gs → z (4 * nd go + d) ≤ enB (GA A p go gs) d
/-- what is found at the end -/
def MinZ (A : GD) (p go gs : Nat) (z : Nat → Nat) : Prop := ∀ n d, inG A n → d < 4 → (z (4 * nd n + d) < 100000000 → ∃ t, Rc (GA A p go gs) t n d (z (4 * nd n + d))) ∧ ∀ t x, Rc (GA A p go gs) t n d x → z (4 * nd n + d) ≤ x ∨ 100000000 ≤ x
def FixZ (A : GD) (p : Nat) (z : Nat → Nat) : Prop := ∀ n b d, inG A n → b < 4 → d < 4 → z (4 * nd n + b) ≤ gO A p z n b d
section Z1
variable {A : GD} {p go gs : Nat} {z : Nat → Nat}
theorem gO_le (h : ∀ k, k < 1600 → z k ≤ 100000000) (hg : GrOk A) (hp : p ≤ 50) {n b d : Nat} (hd : d < 4) : gO A p z n b d ≤ 2000000000 ∨ opA A n d = true := by
  by_cases c : opA A n d = true
  · exact Or.inr c
  · refine Or.inl ?_
    unfold gO
    rw [if_neg c]
    split <;> omega
theorem fix_min (hg : GrOk A) (h : zOk A p go gs z) (hf : FixZ A p z) : MinZ A p go gs z := by
  have key : ∀ t n d x, inG A n → d < 4 → Rc (GA A p go gs) t n d x → z (4 * nd n + d) ≤ x ∨ 100000000 ≤ x := by
    intro t
    induction t with
    | zero =>
      intro n d x hn hd hR
      obtain ⟨r1, r2, r3⟩ := hR
      have r1' : n = go := r1
      have r2' : d ≠ gs := r2
      subst r1'
      have := h.2.2 d hd r2'
      omega
    | succ t ih =>
      intro n d x hn hd hR
      obtain ⟨e, c', r1, r2, r3, r4, r5⟩ := hR
      have r3' : opA A n e = true := r3
      have r5' : x = lnA A n e + bnd p d e + c' := r5
      have hin2 := (op_in hg r1 r3').2
      have h1 := ih (tgA n e) e c' hin2 r1 r4
      have h2 := hf n d e hn hd r1
      unfold gO at h2
      rw [if_neg r2, if_pos r3'] at h2
      by_cases c : z (4 * nd (tgA n e) + e) < 100000000
      · rw [if_pos c] at h2
        rcases h1 with h1 | h1 <;> omega
      · omega
  exact fun n d hn hd => ⟨h.2.1 n d hn hd, fun t x => key t n d x hn hd⟩
/-- a lower number is a way's cost too -/
theorem zOk.up (hg : GrOk A) (h : zOk A p go gs z) {n b d : Nat} (hn : inG A n) (hb : b < 4) (hd : d < 4) (hlt : gO A p z n b d < z (4 * nd n + b)) : zOk A p go gs (va_up z (4 * nd n + b) (gO A p z n b d)) := by
  obtain ⟨h1, h2, h3⟩ := h
  have l1 := (nd_lt hg hn).1
  have hz1 := h1 (4 * nd n + b) (by omega)
  refine ⟨fun k hk => ?_, fun m e hm he hz => ?_, fun e he hne => ?_⟩
  · by_cases c : k = 4 * nd n + b
    · subst c
      rw [va_up_self]
      omega
    · rw [va_up_ne _ _ c]
      exact h1 k hk
  · by_cases c : 4 * nd m + e = 4 * nd n + b
    · have c1 : nd m = nd n := by omega
      have c2 : e = b := by omega
      have c3 := nd_inj hg hm hn c1
      subst c3
      subst c2
      rw [va_up_self]
      unfold gO at hlt ⊢
      by_cases d1 : d = opp e
      · rw [if_pos d1] at hlt
        omega
      · rw [if_neg d1] at hlt ⊢
        by_cases d2 : opA A m d = true
        · rw [if_pos d2] at hlt ⊢
          by_cases d3 : z (4 * nd (tgA m d) + d) < 100000000
          · rw [if_pos d3]
            obtain ⟨t, ht⟩ := h2 (tgA m d) d (op_in hg hd d2).2 hd d3
            exact ⟨t + 1, d, _, hd, d1, d2, ht, rfl⟩
          · rw [if_neg d3] at hlt
            omega
        · rw [if_neg d2] at hlt
          omega
    · rw [va_up_ne _ _ c] at hz ⊢
      exact h2 m e hm he hz
  · have h4 := h3 e he hne
    by_cases c : 4 * nd go + e = 4 * nd n + b
    · rw [c] at h4 ⊢
      rw [va_up_self]
      omega
    · rw [va_up_ne _ _ c]
      exact h4
end Z1
/-- a node from which nothing is open -/
theorem no_op {A : GD} (hg : GrOk A) (hB : ∀ k, k < d_nb A → BxB (d_B A) k) {n : Nat} (hn : noB A n = false) {d : Nat} (hd : d < 4) : opA A n d = false := by
  cases ho : opA A n d with
  | false => rfl
  | true =>
    exfalso
    have key : noB A n = true := by
      obtain ⟨r, c, hc, rfl⟩ := rc_of n
      unfold noB
      rw [show (18 * r + c) % 18 = c by omega, show (18 * r + c) / 18 = r by omega, fre_iff]
      intro k hk q
      rcases (show d = 0 ∨ d = 1 ∨ d = 2 ∨ d = 3 by omega) with rfl | rfl | rfl | rfl
      · obtain ⟨r', rfl, h1, h2, h3⟩ := (op0_iff hc).mp ho
        have := gY hg (show r' < r' + 1 by omega) h2
        exact h3 k hk (by omega)
      · obtain ⟨h1, h2, h3⟩ := (op1_iff hc).mp ho
        have := gX hg (show c < c + 1 by omega) h1
        exact h3 k hk (by omega)
      · obtain ⟨h1, h2, h3⟩ := (op2_iff hc).mp ho
        have := gY hg (show r < r + 1 by omega) h2
        exact h3 k hk (by omega)
      · obtain ⟨c', rfl, h1, h2, h3⟩ := (op3_iff hg hc).mp ho
        have := gX hg (show c' < c' + 1 by omega) h1
        exact h3 k hk (by omega)
    rw [hn] at key
    cases key
def DnZ (A : GD) (p : Nat) (z : Nat → Nat) (i j : Nat) : Prop := ∀ i' j', i' < d_nx A → j' < d_ny A → (i' < i ∨ (i' = i ∧ j' < j)) → ∀ b d, b < 4 → d < 4 → z (4 * nd (18 * j' + i') + b) ≤ gO A p z (18 * j' + i') b d
/-- how far a pass is -/
def PsZ (A : GD) (p go gs : Nat) (z0 z : Nat → Nat) (fl : Int32) (C : Prop) : Prop := zOk A p go gs z ∧ ((fl = 1 ∧ sumZ z 1600 < sumZ z0 1600) ∨ (fl = 0 ∧ z = z0 ∧ C))
def zI (z : Nat → Nat) : Nat → Int32 := fun k => I (z k)
section Z2
variable {F : Nat} {τ : MS} {c nb p b0 s0 b1 s1 : Nat} {B : Nat → Int} {o0 o1 : Int} {go : Nat}
theorem sm_cell (hF : 1000 ≤ F) (h : CgM τ c nb B p b0 s0 o0 b1 s1 o1) {f : Nat → Int32} {z0 z : Nat → Nat} {fl : Int32} {i j : Nat} (hf : ∀ k, k < 1600 → f k = I (z k)) (hi : i < d_nx (GDn nb B b0 s0 o0 b1 s1 o1)) (hj : j < d_ny (GDn nb B b0 s0 o0 b1 s1 o1)) (hP : PsZ (GDn nb B b0 s0 o0 b1 s1 o1) p go s1 z0 z fl (DnZ (GDn nb B b0 s0 o0 b1 s1 o1) p z0 i j)) (k50 : MS → Int32 → Option MS) (k59 : MS → Int32 → Int32 → Option MS) (k71 : MS → Int32 → Int32 → Int32 → Option MS) : ∃ f' z' fl', fm_findsCosts_L93 F k50 k59 k71 F (ms_toEnd_s τ f) fl (I i) (I j) (I ((20 * i + j : Nat) : Int)) 0 = k71 (ms_toEnd_s τ f') fl' (I i) (I ((j + 1 : Nat) : Int)) ∧ (∀ k, k < 1600 → f' k = I (z' k)) ∧ PsZ (GDn nb B b0 s0 o0 b1 s1 o1) p go s1 z0 z' fl' (DnZ (GDn nb B b0 s0 o0 b1 s1 o1) p z0 i (j + 1)) := by
  have hC := h.1
  have hGM := h.2
  have hgo : ∀ (f : Nat → Int32) (z : Nat → Nat), (∀ k, k < 1600 → f k = I (z k)) → (∀ k, k < 1600 → z k ≤ 100000000) → ∀ n b d : Nat, inG (GDn nb B b0 s0 o0 b1 s1 o1) n → b < 4 → d < 4 → fm_goingOn F (ms_toEnd_s τ f) (I (nd n : Nat)) (I b) (I d) = some (I (gO (GDn nb B b0 s0 o0 b1 s1 o1) p z n b d : Nat)) := fun f z h1 h2 n b d hn hb hd => sm_going (F := F) (τ := ms_toEnd_s τ f) (c := c) (B := B) h (fun k hk => ⟨h1 k hk, h2 k hk⟩) hn hb hd
  generalize GDn nb B b0 s0 o0 b1 s1 o1 = A at *
  have hgk := hGM.1.2.2.2.2.2.2.2.2
  have hBx := hGM.1.2.2.2.2.2.2.1
  have h18 := hgk.1
  have h18' := hgk.2.1
  have m1 : (18 * j + i) % 18 = i := by omega
  have m2 : (18 * j + i) / 18 = j := by omega
  have hn : inG A (18 * j + i) := by
    unfold inG
    rw [m1, m2]
    exact ⟨hi, hj⟩
  have hnd : nd (18 * j + i) = 20 * i + j := by
    unfold nd
    rw [m1, m2]
  rw [← hnd]
  have hl := nd_lt hgk hn
  have eN : ((nd (18 * j + i) : Nat) : Int).toNat = nd (18 * j + i) := by omega
  have hisN : ∀ f, ms_isNode (ms_toEnd_s τ f) (nd (18 * j + i)) = b2 (noB A (18 * j + i)) := fun f => (hGM.at hn).1
  have dnx : ∀ z0 : Nat → Nat, DnZ A p z0 i j → (∀ b d, b < 4 → d < 4 → z0 (4 * nd (18 * j + i) + b) ≤ gO A p z0 (18 * j + i) b d) → DnZ A p z0 i (j + 1) := fun z0 q1 q2 i' j' hi' hj' hor b d hb hd => by
    by_cases c1 : i' = i ∧ j' = j
    · rw [c1.1, c1.2]
      exact q2 b d hb hd
    · exact q1 i' j' hi' hj' (by omega) b d hb hd
  refine lp_inv2 (P := fun d a => d ≤ 16 ∧ ∃ f z fl, a = (ms_toEnd_s τ f, fl, I i, I j, I (nd (18 * j + i) : Nat), I ((16 - d : Nat) : Int)) ∧ (∀ k, k < 1600 → f k = I (z k)) ∧ PsZ A p go s1 z0 z fl (DnZ A p z0 i j ∧ ∀ k, k < 16 - d → z0 (4 * nd (18 * j + i) + k / 4) ≤ gO A p z0 (18 * j + i) (k / 4) (k % 4))) (Q := fun q => ∃ f' z' fl', q = k71 (ms_toEnd_s τ f') fl' (I i) (I ((j + 1 : Nat) : Int)) ∧ (∀ k, k < 1600 → f' k = I (z' k)) ∧ PsZ A p go s1 z0 z' fl' (DnZ A p z0 i (j + 1))) (fun d a hp rec => ?_) F 16 _ (by omega) ⟨Nat.le_refl _, f, z, fl, by rw [Nat.sub_self]; rfl, hf, by
    obtain ⟨q1, q2⟩ := hP
    refine ⟨q1, q2.imp id fun q => ⟨q.1, q.2.1, q.2.2, fun k hk => absurd hk (by omega)⟩⟩⟩
  obtain ⟨hd16, f, z, fl, rfl, hf, hP⟩ := hp
  obtain ⟨hz, hP2⟩ := hP
  cases hno : noB A (18 * j + i) with
  | false =>
    refine Or.inl ⟨f, z, fl, ?_, hf, hz, hP2.imp id fun q => ⟨q.1, q.2.1, dnx z0 q.2.2.1 fun b d' hb hd' => ?_⟩⟩
    · by_cases c16 : d = 0
      · subst c16
        have e1 : (16 : Int32) ≤ I ((16 - 0 : Nat) : Int) := by decide
        simp only [fm_findsCosts_L93_c, e1, if_true, fm_findsCosts_L169, lt_r, I_S]
      · have e1 : ¬ (16 : Int32) ≤ I ((16 - d : Nat) : Int) := by rw [show (16 : Int32) = I 16 from rfl, I_le] <;> omega
        have e2 : b2 (noB A (18 * j + i)) = 0 := by rw [hno]; rfl
        simp (disch := omega) only [fm_findsCosts_L93_c, e1, if_false, I_ix, gd_T, I_cl, eN, hisN, e2, if_true, fm_findsCosts_L169, lt_r, I_S]
    · have := no_op hgk hBx hno hd'
      unfold gO
      rw [this]
      have h5 := hz.1 (4 * nd (18 * j + i) + b) (by omega)
      rw [q.2.1] at h5
      split <;> simp <;> omega
  | true =>
    cases d with
    | zero =>
      have e1 : (16 : Int32) ≤ I ((16 - 0 : Nat) : Int) := by decide
      refine Or.inl ⟨f, z, fl, ?_, hf, hz, hP2.imp id fun q => ⟨q.1, q.2.1, dnx z0 q.2.2.1 fun b d' hb hd' => ?_⟩⟩
      · simp only [fm_findsCosts_L93_c, e1, if_true, fm_findsCosts_L169, lt_r, I_S]
      · have := q.2.2.2 (4 * b + d') (by omega)
        rw [show (4 * b + d') / 4 = b by omega, show (4 * b + d') % 4 = d' by omega] at this
        exact this
    | succ d =>
      have hk1 : 16 - d = 16 - (d + 1) + 1 := by omega
      have hk16 : 16 - (d + 1) < 16 := by omega
      generalize 16 - (d + 1) = k at hP2 hk1 hk16 ⊢
      have e1 : ¬ (16 : Int32) ≤ I k := by rw [show (16 : Int32) = I 16 from rfl, I_le] <;> omega
      have e2 : ¬ b2 (noB A (18 * j + i)) = 0 := by rw [hno]; decide
      have e3 : I k / 4 = I ((k / 4 : Nat) : Int) := I_divn k 4 (by omega) (by omega) (by omega)
      have e4 : I k - I ((k / 4 : Nat) : Int) * 4 = I ((k % 4 : Nat) : Int) := by
        rw [← e3]
        exact I_modn k 4 (by omega) (by omega) (by omega)
      have hg := hgo f z hf hz.1 (18 * j + i) (k / 4) (k % 4) hn (by omega) (by omega)
      have e5 : (4 : Int32) * I (nd (18 * j + i) : Nat) + I ((k / 4 : Nat) : Int) = I ((4 * nd (18 * j + i) + k / 4 : Nat) : Int) := by
        rw [I_4, I_mul, I_add]
        exact congrArg I (by omega)
      have e6 : ((4 * nd (18 * j + i) + k / 4 : Nat) : Int).toNat = 4 * nd (18 * j + i) + k / 4 := by omega
      have e7 : ms_toEnd (ms_toEnd_s τ f) (4 * nd (18 * j + i) + k / 4) = I (z (4 * nd (18 * j + i) + k / 4)) := hf _ (by omega)
      have hzk := hz.1 (4 * nd (18 * j + i) + k / 4) (by omega)
      generalize hgv : gO A p z (18 * j + i) (k / 4) (k % 4) = v at hg
      have hv : v ≤ 200000000 := by
        rw [← hgv]
        unfold gO
        split
        · omega
        · split
          · rename_i q1 q2
            split
            · have := bnd_le p (k / 4) (k % 4)
              have hp := hC.1.2.2.1
              have hin2 := (op_in hgk (show k % 4 < 4 by omega) q2).2
              have := ln_abs hgk (show k % 4 < 4 by omega) q2
              obtain ⟨-, -, -, -, hX, hY, -⟩ := hGM.1
              have a1 := hX _ hn.1
              have a2 := hX _ hin2.1
              have a3 := hY _ hn.2
              have a4 := hY _ hin2.2
              omega
            · omega
          · omega
      by_cases c1 : z (4 * nd (18 * j + i) + k / 4) ≤ v
      · have e8 : I (z (4 * nd (18 * j + i) + k / 4)) ≤ I v := by rw [I_le] <;> omega
        refine Or.inr ⟨d, (ms_toEnd_s τ f, fl, I i, I j, I (nd (18 * j + i) : Nat), I ((k + 1 : Nat) : Int)), by omega, ⟨by omega, f, z, fl, by rw [hk1], hf, hz, hP2.imp id fun q => ⟨q.1, q.2.1, q.2.2.1, fun k' hk' => ?_⟩⟩, ?_⟩
        · by_cases c2 : k' = k
          · subst c2
            have hz0 := q.2.1
            subst hz0
            rw [hgv]
            exact c1
          · exact q.2.2.2 k' (by omega)
        · simp (disch := omega) only [fm_findsCosts_L93_c, e1, if_false, I_ix, gd_T, I_cl, eN, hisN, e2, e3, e4, hg, bd_s, e5, e6, e7, e8, if_true, fm_findsCosts_L163, lt_r, I_S]
      · have e8 : ¬ I (z (4 * nd (18 * j + i) + k / 4)) ≤ I v := by rw [I_le] <;> omega
        have hzu := hz.up hgk hn (b := k / 4) (d := k % 4) (by omega) (by omega) (by rw [hgv]; omega)
        rw [hgv] at hzu
        have hs := (sumZ_up (z := z) (k := 4 * nd (18 * j + i) + k / 4) (v := v) 1600).2 (by omega) (by omega)
        refine Or.inr ⟨d, (ms_toEnd_s τ (upd f (4 * nd (18 * j + i) + k / 4) (I v)), 1, I i, I j, I (nd (18 * j + i) : Nat), I ((k + 1 : Nat) : Int)), by omega, ⟨by omega, _, va_up z (4 * nd (18 * j + i) + k / 4) v, 1, by rw [hk1], fun k' hk' => ?_, hzu, Or.inl ⟨rfl, ?_⟩⟩, ?_⟩
        · unfold upd va_up
          by_cases c2 : k' = 4 * nd (18 * j + i) + k / 4
          · rw [if_pos c2, if_pos c2]
          · rw [if_neg c2, if_neg c2]
            exact hf k' hk'
        · rcases hP2 with q | q
          · omega
          · rw [← q.2.1]
            exact hs
        · simp (disch := omega) only [fm_findsCosts_L93_c, e1, if_false, I_ix, gd_T, I_cl, eN, hisN, e2, e3, e4, hg, bd_s, e5, e6, e7, e8, fm_findsCosts_L163, lt_r, I_S, st_toEnd]
          rfl
end Z2
