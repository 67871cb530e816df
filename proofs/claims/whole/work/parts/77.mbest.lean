/-! the reference's best cost -/
def flZ (z : Nat → Nat) (old : Nat → Int32) (k : Nat) : Nat → Int32 := fun j => if j < k then I (z j) else old j
theorem flZ_S (z : Nat → Nat) (old : Nat → Int32) (k : Nat) : upd (flZ z old k) k (I (z k)) = flZ z old (k + 1) := by
  funext j
  unfold upd flZ
  by_cases h : j = k
  · rw [if_pos h, if_pos (by omega), h]
  · rw [if_neg h]
    by_cases h2 : j < k
    · rw [if_pos h2, if_pos (by omega)]
    · rw [if_neg h2, if_neg (by omega)]
theorem flZ_0 (z : Nat → Nat) (old : Nat → Int32) : flZ z old 0 = old := by
  funext j
  unfold flZ
  rw [if_neg (by omega)]
section Z3
variable {F : Nat} {τ : MS} {c nb p b0 s0 b1 s1 : Nat} {B : Nat → Int} {o0 o1 : Int} {go : Nat}
theorem PsZ.w {A : GD} {gs : Nat} {z0 z : Nat → Nat} {fl : Int32} {C C' : Prop} (h : PsZ A p go gs z0 z fl C) (hc : C → C') : PsZ A p go gs z0 z fl C' := ⟨h.1, h.2.imp id fun q => ⟨q.1, q.2.1, hc q.2.2⟩⟩
theorem sm_71 (hF : 1000 ≤ F) (h : CgM τ c nb B p b0 s0 o0 b1 s1 o1) {f : Nat → Int32} {z0 z : Nat → Nat} {fl : Int32} {i : Nat} (hf : ∀ k, k < 1600 → f k = I (z k)) (hi : i < d_nx (GDn nb B b0 s0 o0 b1 s1 o1)) (hP : PsZ (GDn nb B b0 s0 o0 b1 s1 o1) p go s1 z0 z fl (DnZ (GDn nb B b0 s0 o0 b1 s1 o1) p z0 i 0)) (k50 : MS → Int32 → Option MS) (k59 : MS → Int32 → Int32 → Option MS) : ∃ f' z' fl', fm_findsCosts_L71 F k50 k59 F (ms_toEnd_s τ f) fl (I i) 0 = k59 (ms_toEnd_s τ f') fl' (I ((i + 1 : Nat) : Int)) ∧ (∀ k, k < 1600 → f' k = I (z' k)) ∧ PsZ (GDn nb B b0 s0 o0 b1 s1 o1) p go s1 z0 z' fl' (DnZ (GDn nb B b0 s0 o0 b1 s1 o1) p z0 (i + 1) 0) := by
  have hny : d_ny (GDn nb B b0 s0 o0 b1 s1 o1) ≤ 18 := h.2.1.2.1
  have hym : ∀ f, ms_yMany (ms_toEnd_s τ f) = I (d_ny (GDn nb B b0 s0 o0 b1 s1 o1)) := fun f => h.2.1.2.2.2.1
  have cell := fun {f : Nat → Int32} {z : Nat → Nat} {fl : Int32} {j : Nat} hf hj hP k71 => sm_cell (go := go) hF h (f := f) (z0 := z0) (z := z) (fl := fl) (i := i) (j := j) hf hi hj hP k50 k59 k71
  generalize GDn nb B b0 s0 o0 b1 s1 o1 = A at *
  refine lp_inv2 (P := fun d a => d ≤ d_ny A ∧ ∃ f z fl, a = (ms_toEnd_s τ f, fl, I i, I ((d_ny A - d : Nat) : Int)) ∧ (∀ k, k < 1600 → f k = I (z k)) ∧ PsZ A p go s1 z0 z fl (DnZ A p z0 i (d_ny A - d))) (Q := fun q => ∃ f' z' fl', q = k59 (ms_toEnd_s τ f') fl' (I ((i + 1 : Nat) : Int)) ∧ (∀ k, k < 1600 → f' k = I (z' k)) ∧ PsZ A p go s1 z0 z' fl' (DnZ A p z0 (i + 1) 0)) (fun d a hp rec => ?_) F (d_ny A) _ (by omega) ⟨Nat.le_refl _, f, z, fl, by rw [Nat.sub_self]; rfl, hf, by rw [Nat.sub_self]; exact hP⟩
  obtain ⟨hd, f, z, fl, rfl, hf, hP⟩ := hp
  cases d with
  | zero =>
    have e1 : I (d_ny A) ≤ I ((d_ny A - 0 : Nat) : Int) := by rw [I_le] <;> omega
    refine Or.inl ⟨f, z, fl, ?_, hf, hP.w fun q i' j' hi' hj' hor => q i' j' hi' hj' (by omega)⟩
    simp only [fm_findsCosts_L71_c, hym, e1, if_true, lt_r, I_S]
  | succ d =>
    have hk1 : d_ny A - d = d_ny A - (d + 1) + 1 := by omega
    have hkn : d_ny A - (d + 1) < d_ny A := by omega
    generalize d_ny A - (d + 1) = j at hP hk1 hkn ⊢
    have e1 : ¬ I (d_ny A) ≤ I j := by rw [I_le] <;> omega
    obtain ⟨f', z', fl', g1, g2, g3⟩ := cell hf hkn hP (fun a b c d => rec (a, b, c, d))
    refine Or.inr ⟨d, (ms_toEnd_s τ f', fl', I i, I ((j + 1 : Nat) : Int)), by omega, ⟨by omega, f', z', fl', by rw [hk1], g2, by rw [hk1]; exact g3⟩, ?_⟩
    simp only [fm_findsCosts_L71_c, hym, e1, if_false, lt_r, e20]
    exact g1
theorem sm_59 (hF : 1000 ≤ F) (h : CgM τ c nb B p b0 s0 o0 b1 s1 o1) {f : Nat → Int32} {z : Nat → Nat} (hf : ∀ k, k < 1600 → f k = I (z k)) (hz : zOk (GDn nb B b0 s0 o0 b1 s1 o1) p go s1 z) (k50 : MS → Int32 → Option MS) : ∃ f' z' fl', fm_findsCosts_L59 F k50 F (ms_toEnd_s τ f) 0 0 = k50 (ms_toEnd_s τ f') fl' ∧ (∀ k, k < 1600 → f' k = I (z' k)) ∧ PsZ (GDn nb B b0 s0 o0 b1 s1 o1) p go s1 z z' fl' (FixZ (GDn nb B b0 s0 o0 b1 s1 o1) p z) := by
  have hnx : d_nx (GDn nb B b0 s0 o0 b1 s1 o1) ≤ 18 := h.2.1.1
  have hxm : ∀ f, ms_xMany (ms_toEnd_s τ f) = I (d_nx (GDn nb B b0 s0 o0 b1 s1 o1)) := fun f => h.2.1.2.2.1
  have row := fun {f : Nat → Int32} {z1 : Nat → Nat} {fl : Int32} {i : Nat} hf hi hP k59 => sm_71 (go := go) hF h (f := f) (z0 := z) (z := z1) (fl := fl) (i := i) hf hi hP k50 k59
  generalize GDn nb B b0 s0 o0 b1 s1 o1 = A at *
  refine lp_inv2 (P := fun d a => d ≤ d_nx A ∧ ∃ f z1 fl, a = (ms_toEnd_s τ f, fl, I ((d_nx A - d : Nat) : Int)) ∧ (∀ k, k < 1600 → f k = I (z1 k)) ∧ PsZ A p go s1 z z1 fl (DnZ A p z (d_nx A - d) 0)) (Q := fun q => ∃ f' z' fl', q = k50 (ms_toEnd_s τ f') fl' ∧ (∀ k, k < 1600 → f' k = I (z' k)) ∧ PsZ A p go s1 z z' fl' (FixZ A p z)) (fun d a hp rec => ?_) F (d_nx A) _ (by omega) ⟨Nat.le_refl _, f, z, 0, by rw [Nat.sub_self] <;> rfl, hf, hz, Or.inr ⟨rfl, rfl, by rw [Nat.sub_self]; exact fun i' j' _ _ hor => absurd hor (by omega)⟩⟩
  obtain ⟨hd, f, z1, fl, rfl, hf, hP⟩ := hp
  cases d with
  | zero =>
    have e1 : I (d_nx A) ≤ I ((d_nx A - 0 : Nat) : Int) := by rw [I_le] <;> omega
    refine Or.inl ⟨f, z1, fl, ?_, hf, hP.w fun q n b d hn hb hd => ?_⟩
    · simp only [fm_findsCosts_L59_c, hxm, e1, if_true]
    · have := q (n % 18) (n / 18) hn.1 hn.2 (Or.inl hn.1) b d hb hd
      rw [show 18 * (n / 18) + n % 18 = n by omega] at this
      exact this
  | succ d =>
    have hk1 : d_nx A - d = d_nx A - (d + 1) + 1 := by omega
    have hkn : d_nx A - (d + 1) < d_nx A := by omega
    generalize d_nx A - (d + 1) = i at hP hk1 hkn ⊢
    have e1 : ¬ I (d_nx A) ≤ I i := by rw [I_le] <;> omega
    obtain ⟨f', z', fl', g1, g2, g3⟩ := row hf hkn hP (fun a b c => rec (a, b, c))
    refine Or.inr ⟨d, (ms_toEnd_s τ f', fl', I ((i + 1 : Nat) : Int)), by omega, ⟨by omega, f', z', fl', by rw [hk1], g2, by rw [hk1]; exact g3⟩, ?_⟩
    simp only [fm_findsCosts_L59_c, hxm, e1, if_false]
    exact g1
theorem sm_50 (hF : 1000000000000 ≤ F) (h : CgM τ c nb B p b0 s0 o0 b1 s1 o1) {f : Nat → Int32} {z : Nat → Nat} (hf : ∀ k, k < 1600 → f k = I (z k)) (hz : zOk (GDn nb B b0 s0 o0 b1 s1 o1) p go s1 z) : ∃ f' z', fm_findsCosts_L50 F F (ms_toEnd_s τ f) 1 = some (ms_toEnd_s τ f') ∧ (∀ k, k < 1600 → f' k = I (z' k)) ∧ zOk (GDn nb B b0 s0 o0 b1 s1 o1) p go s1 z' ∧ FixZ (GDn nb B b0 s0 o0 b1 s1 o1) p z' := by
  have pass := fun {f : Nat → Int32} {z : Nat → Nat} hf hz k50 => sm_59 (F := F) (go := go) (by omega) h (f := f) (z := z) hf hz k50
  generalize GDn nb B b0 s0 o0 b1 s1 o1 = A at *
  have hs := sumZ_le (z := z) (m := 100000000) 1600 hz.1
  refine lp_inv2 (P := fun d a => ∃ f z fl, a = (ms_toEnd_s τ f, fl) ∧ (∀ k, k < 1600 → f k = I (z k)) ∧ zOk A p go s1 z ∧ ((fl = 1 ∧ d = sumZ z 1600 + 1) ∨ (fl = 0 ∧ FixZ A p z))) (Q := fun q => ∃ f' z', q = some (ms_toEnd_s τ f') ∧ (∀ k, k < 1600 → f' k = I (z' k)) ∧ zOk A p go s1 z' ∧ FixZ A p z') (fun d a hp rec => ?_) F (sumZ z 1600 + 1) _ (by omega) ⟨f, z, 1, rfl, hf, hz, Or.inl ⟨rfl, rfl⟩⟩
  obtain ⟨f, z, fl, rfl, hf, hz, hor⟩ := hp
  rcases hor with ⟨rfl, hd⟩ | ⟨rfl, hx⟩
  · obtain ⟨f', z', fl', g1, g2, g3, g4⟩ := pass hf hz (fun a b => rec (a, b))
    have e0 : fm_findsCosts_L50_c F (fun a b => rec (a, b)) (ms_toEnd_s τ f) 1 = rec (ms_toEnd_s τ f', fl') := by
      unfold fm_findsCosts_L50_c
      rw [if_neg (by decide)]
      exact g1
    rcases g4 with ⟨q1, q2⟩ | ⟨q1, q2, q3⟩
    · exact Or.inr ⟨sumZ z' 1600 + 1, (ms_toEnd_s τ f', fl'), by omega, ⟨f', z', fl', rfl, g2, g3, Or.inl ⟨q1, rfl⟩⟩, e0⟩
    · exact Or.inr ⟨0, (ms_toEnd_s τ f', fl'), by omega, ⟨f', z', fl', rfl, g2, g3, Or.inr ⟨q1, by rw [q2]; exact q3⟩⟩, e0⟩
  · refine Or.inl ⟨f, z, ?_, hf, hz, hx⟩
    simp only [fm_findsCosts_L50_c, if_true]
theorem sm_costs (hF : 1000000000000 ≤ F) (h : CgM τ c nb B p b0 s0 o0 b1 s1 o1) {st : Nat} (hs : NdP (GDn nb B b0 s0 o0 b1 s1 o1) st b0 s0 o0) (hg : NdP (GDn nb B b0 s0 o0 b1 s1 o1) go b1 s1 o1) : ∃ f z, fm_findsCosts F τ (I c) = some (ms_toEnd_s τ f) ∧ (∀ k, k < 1600 → f k = I (z k) ∧ z k ≤ 100000000) ∧ MinZ (GDn nb B b0 s0 o0 b1 s1 o1) p go s1 z := by
  have hout := (sm_outer (F := F) (by omega) h hs hg).2
  have hgk := h.2.1.2.2.2.2.2.2.2.2
  have hs1 := h.1.1.2.2.2.2.2.1
  have hp50 := h.1.1.2.2.1
  have hen := fun (f : Nat → Int32) (d : Nat) hd => sm_ending (F := F) (τ := ms_toEnd_s τ f) (A := GDn nb B b0 s0 o0 b1 s1 o1) (go := go) (c := c) (B := B) (d := d) h.1 hd
  have m50 := fun {f : Nat → Int32} {z : Nat → Nat} hf hz => sm_50 (go := go) hF h (f := f) (z := z) hf hz
  generalize GDn nb B b0 s0 o0 b1 s1 o1 = A at *
  have hgl := nd_lt hgk hg.1
  generalize hzz : (fun k => if k / 4 = nd go then (if k % 4 = s1 then 100000000 else enB (GA A p go s1) (k % 4)) else 100000000) = zz
  have hle : ∀ d, enB (GA A p go s1) d ≤ 50 := fun d => Nat.le_trans (enB_le _ d) hp50
  have hz1 : ∀ k, zz k ≤ 100000000 := fun k => by
    rw [← hzz]
    have := hle (k % 4)
    show (if k / 4 = nd go then (if k % 4 = s1 then 100000000 else enB (GA A p go s1) (k % 4)) else 100000000) ≤ 100000000
    split
    · split <;> omega
    · omega
  have hzat : ∀ n d, d < 4 → zz (4 * n + d) = if n = nd go then (if d = s1 then 100000000 else enB (GA A p go s1) d) else 100000000 := fun n d hd => by
    rw [← hzz]
    show (if (4 * n + d) / 4 = nd go then (if (4 * n + d) % 4 = s1 then 100000000 else enB (GA A p go s1) ((4 * n + d) % 4)) else 100000000) = _
    rw [show (4 * n + d) / 4 = n by omega, show (4 * n + d) % 4 = d by omega]
  have hzok : zOk A p go s1 zz := by
    refine ⟨fun k _ => hz1 k, fun n d hn hd hlt => ?_, fun d hd hne => ?_⟩
    · rw [hzat _ _ hd] at hlt ⊢
      by_cases c1 : nd n = nd go
      · have c2 := nd_inj hgk hn hg.1 c1
        rw [if_pos c1] at hlt ⊢
        by_cases c3 : d = s1
        · rw [if_pos c3] at hlt
          omega
        · rw [if_neg c3]
          exact ⟨0, c2, c3, rfl⟩
      · rw [if_neg c1] at hlt
        omega
    · rw [hzat _ _ hd, if_pos rfl, if_neg hne]
      exact Nat.le_refl _
  obtain ⟨f', z', g1, g2, g3, g4⟩ := m50 (f := flZ zz (ms_toEnd τ) 1600) (z := zz) (fun k hk => if_pos hk) hzok
  refine ⟨f', z', ?_, fun k hk => ⟨g2 k hk, g3.1 k hk⟩, fix_min hgk g3 g4⟩
  have hini : fm_findsCosts_L9 F F τ (I c) (I (nd go : Nat)) 0 = fm_findsCosts_L50 F F (ms_toEnd_s τ (flZ zz (ms_toEnd τ) 1600)) 1 := by
    refine lp_r (fun k => (ms_toEnd_s τ (flZ zz (ms_toEnd τ) k), I c, I (nd go : Nat), I k)) _ 1600 (by rw [flZ_0]; rfl) (by omega) (fun k rec hk => ?_) (fun rec => ?_)
    · have e1 : ¬ (1600 : Int32) ≤ I k := by rw [show (1600 : Int32) = I 1600 from rfl, I_le] <;> omega
      have e3 : I k / 4 = I ((k / 4 : Nat) : Int) := I_divn k 4 (by omega) (by omega) (by omega)
      have e4 : I k - I ((k / 4 : Nat) : Int) * 4 = I ((k % 4 : Nat) : Int) := by
        rw [← e3]
        exact I_modn k 4 (by omega) (by omega) (by omega)
      have e6 : ((k : Nat) : Int).toNat = k := by omega
      have e5 : (I ((k / 4 : Nat) : Int) = I (nd go : Nat)) = (k / 4 = nd go) := by
        rw [I_eq (by omega) (by omega) (by omega) (by omega)]
        exact propext ⟨fun q => by omega, fun q => by omega⟩
      have f41 : ∀ v, v = I (zz k) → fm_findsCosts_L41 F (fun a b c d => rec (a, b, c, d)) (ms_toEnd_s τ (flZ zz (ms_toEnd τ) k)) (I c) (I (nd go : Nat)) (I k) v (I k) = rec (ms_toEnd_s τ (flZ zz (ms_toEnd τ) (k + 1)), I c, I (nd go : Nat), I ((k + 1 : Nat) : Int)) := fun v hv => by
        subst hv
        simp (disch := omega) only [fm_findsCosts_L41, I_ix, gd_T, lt_r, st_toEnd, I_cl, e6, zm_toEnd_toEnd, flZ_S, I_S]
        rfl
      have hen' := hen (flZ zz (ms_toEnd τ) k) (k % 4) (by omega)
      simp only [fm_findsCosts_L9_c, e1, if_false, e3, e4, e5, hen', bd_s]
      have hzk := hzat (k / 4) (k % 4) (by omega)
      rw [show 4 * (k / 4) + k % 4 = k by omega] at hzk
      by_cases c1 : k / 4 = nd go
      · rw [if_pos c1]
        rw [if_pos c1] at hzk
        refine f41 _ ?_
        rw [hzk]
        by_cases c2 : k % 4 = s1
        · rw [if_pos c2, if_pos c2]; rfl
        · rw [if_neg c2, if_neg c2]
      · rw [if_neg c1]
        rw [if_neg c1] at hzk
        refine f41 _ ?_
        rw [hzk]
        rfl
    · have e1 : (1600 : Int32) ≤ I ((1600 : Nat) : Int) := by decide
      simp only [fm_findsCosts_L9_c, e1, if_true]
  unfold fm_findsCosts
  rw [hout, bd_s, hini, g1]
theorem sm_best (hF : 1000000000000 ≤ F) (h : CnM τ c nb B p b0 s0 o0 b1 s1 o1) {st : Nat} (hs : NdP (GDn nb B b0 s0 o0 b1 s1 o1) st b0 s0 o0) (hg : NdP (GDn nb B b0 s0 o0 b1 s1 o1) go b1 s1 o1) : ∃ τ' z, fm_bestOf F τ (I c) = some (if z (4 * nd st + s0) < 100000000 then I ((z (4 * nd st + s0) + 2 : Nat) : Int) else -1000, τ') ∧ KmF τ τ' ∧ CgM τ' c nb B p b0 s0 o0 b1 s1 o1 ∧ (∀ k, k < 1600 → ms_toEnd τ' k = I (z k) ∧ z k ≤ 100000000) ∧ MinZ (GDn nb B b0 s0 o0 b1 s1 o1) p go s1 z := by
  obtain ⟨τ1, f1, f2, f3⟩ := sm_grid (F := F) (by omega) h
  have hC1 : CnM τ1 c nb B p b0 s0 o0 b1 s1 o1 := by
    obtain ⟨a1, a2, nl, cp, E, Q, R, a3, a4⟩ := h
    exact ⟨a1, a2, nl, cp, E, Q, R, by rw [f2.1]; exact a3, a4⟩
  obtain ⟨f, z, g1, g2, g3⟩ := sm_costs hF ⟨hC1, f3⟩ hs hg
  have hgk := f3.1.2.2.2.2.2.2.2.2
  have hs0 := h.1.2.2.2.1.2.1
  have hsl := nd_lt hgk hs.1
  have hCg : CgM (ms_toEnd_s τ1 f) c nb B p b0 s0 o0 b1 s1 o1 := ⟨hC1, f3⟩
  have hout := (sm_outer (F := F) (by omega) hCg hs hg).1
  have hof := (hC1.sd (F := F) (ms_toEnd_s τ1 f) rfl).2.2.2.1
  have e1 : (4 : Int32) * I (nd st : Nat) + I s0 = I ((4 * nd st + s0 : Nat) : Int) := by
    rw [I_4, I_mul, I_add]
    exact congrArg I (by omega)
  obtain ⟨q1, q2⟩ := g2 (4 * nd st + s0) (by omega)
  have e2 : ms_toEnd (ms_toEnd_s τ1 f) (4 * nd st + s0) = I (z (4 * nd st + s0)) := q1
  have e3 : (I (z (4 * nd st + s0)) < 100000000) = (z (4 * nd st + s0) < 100000000) := by
    rw [show (100000000 : Int32) = I 100000000 from rfl, I_lt (by omega) (by omega) (by omega) (by omega)]
    exact propext ⟨fun q => by omega, fun q => by omega⟩
  refine ⟨ms_toEnd_s τ1 f, z, ?_, f2.tr KmF_toEnd, hCg, g2, g3⟩
  unfold fm_bestOf
  rw [f1, bd_s, g1, bd_s, hout, bd_s, hof, bd_s, e1, gd_t (of_eq_true (I_ix (by omega) (by omega) (by omega))), lt_r, I_cl (by omega) (by omega), show ((4 * nd st + s0 : Nat) : Int).toNat = 4 * nd st + s0 by omega, e2]
  simp only [e3, fm_bestOf_L46]
  by_cases c1 : z (4 * nd st + s0) < 100000000
  · rw [if_pos c1, if_pos c1, I_2, I_add]
    rfl
  · rw [if_neg c1, if_neg c1]
end Z3
