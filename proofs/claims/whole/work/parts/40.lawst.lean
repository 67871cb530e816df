/-! the law's start: words, classes, statics -/
theorem and31 (v : Int32) : ∃ j : Nat, j < 32 ∧ v &&& 31 = Int32.ofNat j := ⟨(v.toBitVec &&& 31#32).toNat, by rw [BitVec.toNat_and]; exact Nat.lt_of_le_of_lt Nat.and_le_right (by decide), by
  apply Int32.toBitVec_inj.mp
  simp⟩
theorem lw_sel {y z : MethodName} {s : State} {args : Array Value} (hy : y.cls ≠ "java/lang/invoke/MethodHandle" ∧ y.cls ≠ "java/lang/invoke/VarHandle") (hC : (Cond.instantiable "java/lang/StringBuilder" 4).before args s = true) (hpriv : (Cond.privateMethod y).before args s = true) (hinst : (Cond.instanceMethod y).before args s = true) (hz : z.cls = y.cls) (hsz : (Cond.selects "java/lang/StringBuilder" z z).before args s = true) : (Cond.selects "java/lang/StringBuilder" y y).before args s = true := by
  obtain ⟨c, k, hc, -, -, -, -, -⟩ := Cond.instantiable_spec hC
  obtain ⟨mk, methM, hnamed, hmethM, -, -⟩ := Cond.instanceMethod_spec hinst
  have hfound : s.methodFound? y.cls y.name y.desc = some mk := State.methodFound?_of_named hnamed hy
  have hsel : selectMethod {} s.vm c mk = .method mk := selectMethod_private hmethM (Cond.privateMethod_at hpriv mk methM hnamed hmethM)
  obtain ⟨c2, r2, m2, g1, g2, g3, g4, kz, hkz, hiz⟩ := Cond.selects_spec hsz
  have hcl : m2.cls = mk.cls := by
    have h1 := findClass_of_methodNamed g3
    have h2 := findClass_of_methodNamed hnamed
    rw [hz] at h1
    exact Option.some.inj (h1.symm.trans h2)
  rw [hcl] at hkz
  simp only [Cond.before, Cond.holds, Cond.value, hc, hfound, hnamed, hsel, hkz]
  simp; exact hiz
theorem lw_gT {s : State} {args : Array Value} (hts : ∀ w ∈ lw_tbl, w.before args s = true) : ∀ w ∈ gT, w.before args s = true := by
  intro w hw
  rcases List.mem_append.mp hw with h | h
  · simp only [xSel, List.mem_cons, List.not_mem_nil, or_false] at h
    have hC := hts (Cond.instantiable "java/lang/StringBuilder" 4) (List.mem_of_getElem? (i := 309) (by decide +kernel))
    have hz := hts (Cond.selects "java/lang/StringBuilder" ⟨"java/lang/AbstractStringBuilder", "isLatin1", "()Z"⟩ ⟨"java/lang/AbstractStringBuilder", "isLatin1", "()Z"⟩) (List.mem_of_getElem? (i := 888) (by decide +kernel))
    rcases h with rfl | rfl
    · exact lw_sel (z := ⟨"java/lang/AbstractStringBuilder", "isLatin1", "()Z"⟩) (by decide) hC (hts _ (List.mem_of_getElem? (i := 861) (by decide +kernel))) (hts _ (List.mem_of_getElem? (i := 862) (by decide +kernel))) rfl hz
    · exact lw_sel (z := ⟨"java/lang/AbstractStringBuilder", "isLatin1", "()Z"⟩) (by decide) hC (hts _ (List.mem_of_getElem? (i := 865) (by decide +kernel))) (hts _ (List.mem_of_getElem? (i := 866) (by decide +kernel))) rfl hz
  · exact hts w (List.mem_filter.mp h).1
theorem lw_K {s : State} {args : Array Value} (hts : ∀ w ∈ lw_tbl, w.before args s = true) : ∃ (D : va_G) (cA : Nat → ClassId), va_K D vwCl (tyG cA) s := by
  have hg := lw_gT hts
  obtain ⟨c0, i0, h0⟩ := u_known (C := RJ4) (T := TJ4) (N := 4) (n := 4) hg cW_inJ4 (hts (Cond.instantiable RJ4 4) (List.mem_of_getElem? (i := 309) (by decide +kernel)))
  obtain ⟨c1, i1, h1⟩ := u_known (C := RX0) (T := TX0) (N := 7) (n := 7) hg cW_inX0 (hts (Cond.instantiable RX0 7) (List.mem_of_getElem? (i := 250) (by decide +kernel)))
  obtain ⟨c2, i2, h2⟩ := u_known (C := RX1) (T := TX1) (N := 6) (n := 6) hg cW_inX1 (hts (Cond.instantiable RX1 6) (List.mem_of_getElem? (i := 109) (by decide +kernel)))
  obtain ⟨c3, i3, h3⟩ := u_known (C := RX2) (T := TX2) (N := 7) (n := 7) hg cW_inX2 (hts (Cond.instantiable RX2 7) (List.mem_of_getElem? (i := 278) (by decide +kernel)))
  obtain ⟨c4, i4, h4⟩ := u_known (C := RX4) (T := TX4) (N := 6) (n := 6) hg cW_inX4 (hts (Cond.instantiable RX4 6) (List.mem_of_getElem? (i := 171) (by decide +kernel)))
  obtain ⟨c5, i5, h5⟩ := u_known (C := RX5) (T := TX5) (N := 3) (n := 3) hg cW_inX5 (hts (Cond.instantiable RX5 3) (List.mem_of_getElem? (i := 145) (by decide +kernel)))
  obtain ⟨c6, i6, h6⟩ := u_known (C := RX6) (T := TX6) (N := 3) (n := 3) hg cW_inX6 (hts (Cond.instantiable RX6 3) (List.mem_of_getElem? (i := 544) (by decide +kernel)))
  obtain ⟨c7, i7, h7⟩ := u_known (C := RX7) (T := TX7) (N := 4) (n := 4) hg cW_inX7 (hts (Cond.instantiable RX7 4) (List.mem_of_getElem? (i := 197) (by decide +kernel)))
  obtain ⟨c8, i8, h8⟩ := u_known (C := RX8) (T := TX8) (N := 11) (n := 11) hg cW_inX8 (hts (Cond.instantiable RX8 11) (List.mem_of_getElem? (i := 165) (by decide +kernel)))
  obtain ⟨c9, i9, h9⟩ := u_known (C := RX9) (T := TX9) (N := 7) (n := 7) hg cW_inX9 (hts (Cond.instantiable RX9 7) (List.mem_of_getElem? (i := 101) (by decide +kernel)))
  obtain ⟨c10, i10, h10⟩ := u_known (C := RX10) (T := TX10) (N := 26) (n := 26) hg mW_in (hts (Cond.instantiable RX10 26) (List.mem_of_getElem? (i := 1140) (by decide +kernel)))
  obtain ⟨a0, k0, o0, p0, q0, r0⟩ := Cond.arrayClass_spec (hts (Cond.arrayClass .int) (List.mem_of_getElem? (i := 143) (by decide +kernel)))
  obtain ⟨a1, k1, o1, p1, q1, r1⟩ := Cond.arrayClass_spec (hts (Cond.arrayClass .boolean) (List.mem_of_getElem? (i := 195) (by decide +kernel)))
  obtain ⟨a2, k2, o2, p2, q2, r2⟩ := Cond.arrayClass_spec (hts (Cond.arrayClass .byte) (List.mem_of_getElem? (i := 339) (by decide +kernel)))
  obtain ⟨o3, a3, k3, u3, -, q3, r3, p3⟩ := Cond.arrayOver_spec (hts (Cond.arrayOver (.object "ConnectorRouter$Canvas")) (List.mem_of_getElem? (i := 151) (by decide +kernel)))
  obtain ⟨o4, a4, k4, u4, -, q4, r4, p4⟩ := Cond.arrayOver_spec (hts (Cond.arrayOver (.object "ConnectorRouter$Route")) (List.mem_of_getElem? (i := 115) (by decide +kernel)))
  refine ⟨(fun k => ([c0, c1, c2, c3, c4, c5, c6, c7, c8, c9, c10] : List ClassId).getD k c0, fun k => ([i0, i1, i2, i3, i4, i5, i6, i7, i8, i9, i10] : List (Nat → Nat)).getD k i0), fun k => ([a0, a1, a2, a3, a4] : List ClassId).getD k a0, ?_, ?_⟩
  · intro k q hq
    match k, hq with
    | 0, hq => cases hq; exact h0
    | 1, hq => cases hq; exact h1
    | 2, hq => cases hq; exact h2
    | 3, hq => cases hq; exact h3
    | 4, hq => cases hq; exact h4
    | 5, hq => cases hq; exact h5
    | 6, hq => cases hq; exact h6
    | 7, hq => cases hq; exact h7
    | 8, hq => cases hq; exact h8
    | 9, hq => cases hq; exact h9
    | 10, hq => cases hq; exact h10
    | k + 11, hq => exact absurd (List.getElem?_eq_some_iff.mp hq).1 (by show ¬ k + 11 < 11; omega)
  · intro k q hq
    match k, hq with
    | 0, hq => cases hq; exact ⟨fun n z => ⟨fun k h => (by cases h), k0, q0, o0, r0⟩, p0⟩
    | 1, hq => cases hq; exact ⟨fun n z => ⟨fun k h => (by cases h), k1, q1, o1, r1⟩, p1⟩
    | 2, hq => cases hq; exact ⟨fun n z => ⟨fun k h => (by cases h), k2, q2, o2, r2⟩, p2⟩
    | 3, hq => cases hq; exact ⟨fun n z => ⟨fun k h => (by cases h), k3, q3, o3, r3⟩, k3, o3, q3, r3, u3, p3⟩
    | 4, hq => cases hq; exact ⟨fun n z => ⟨fun k h => (by cases h), k4, q4, o4, r4⟩, k4, o4, q4, r4, u4, p4⟩
    | k + 5, hq => exact absurd (List.getElem?_eq_some_iff.mp hq).1 (by show ¬ k + 5 < 5; omega)
theorem lw_NW {s : State} {args : Array Value} (hts : ∀ w ∈ lw_tbl, w.before args s = true) : NWp s := ⟨va_Nw.of rfl (hts _ (List.mem_of_getElem? (i := 110) (by decide +kernel))), va_Nw.of rfl (hts _ (List.mem_of_getElem? (i := 152) (by decide +kernel))), va_Nw.of rfl (hts _ (List.mem_of_getElem? (i := 166) (by decide +kernel))), va_Nw.of rfl (hts _ (List.mem_of_getElem? (i := 172) (by decide +kernel))), va_Nw.of rfl (hts _ (List.mem_of_getElem? (i := 251) (by decide +kernel))), va_Nw.of rfl (hts _ (List.mem_of_getElem? (i := 279) (by decide +kernel))), va_AO.of (hts _ (List.mem_of_getElem? (i := 151) (by decide +kernel))), va_AO.of (hts _ (List.mem_of_getElem? (i := 115) (by decide +kernel)))⟩
def lw_st (t : List Nat) (adK adV : Nat → Nat) (k : Nat) : Nat := if 70 ≤ k then adV (k - 70) else if 60 ≤ k then adK (k - 60) else t.getD (k - 50) 0
theorem lw_SZ {s : State} {b : Nat} (hts : ∀ w ∈ lw_tbl, w.before #[Value.ref b] s = true) (hgv : (Cond.and given_1 narrow_1).before #[Value.ref b] s = true) : ∃ st : Nat → Nat, ∀ ad : Nat → Nat, (∀ k, 50 ≤ k → ad k = st k) → SZ ad (nwA_ s) s s.heap := by
  have hs := flat_of_before _ hgv
  have hA : ∀ a : Nat, a < s.heap.size → ¬ nwA_ s a := fun a h => Nat.not_le.mpr h
  obtain ⟨t50, e50, f50⟩ := va_Tof (tm := .static "ConnectorRouter$Direction" "STEP_X" "[I") (ty := .int) (N := 4) (f := fun j => .int (tSX j)) (by decide) (hs _ (by decide +kernel)) (va_eqt (hs _ (by decide +kernel))) (fun j hj => va_eqt (hs _ (lw_m50 j hj))) hA
  have z50 := va_Zof (hts _ (List.mem_of_getElem? (i := 574) (by decide +kernel))) (hts _ (List.mem_of_getElem? (i := 91) (by decide +kernel))) e50 hA
  obtain ⟨t51, e51, f51⟩ := va_Tof (tm := .static "ConnectorRouter$Direction" "STEP_Y" "[I") (ty := .int) (N := 4) (f := fun j => .int (tSY j)) (by decide) (hs _ (by decide +kernel)) (va_eqt (hs _ (by decide +kernel))) (fun j hj => va_eqt (hs _ (lw_m51 j hj))) hA
  have z51 := va_Zof (hts _ (List.mem_of_getElem? (i := 580) (by decide +kernel))) (hts _ (List.mem_of_getElem? (i := 91) (by decide +kernel))) e51 hA
  obtain ⟨t52, e52, f52⟩ := va_Tof (tm := .static "ConnectorRouter$CommandText" "NUMBERS_OF_WORD" "[I") (ty := .int) (N := 6) (f := fun j => .int (tNW j)) (by decide) (hs _ (by decide +kernel)) (va_eqt (hs _ (by decide +kernel))) (fun j hj => va_eqt (hs _ (lw_m52 j hj))) hA
  have z52 := va_Zof (hts _ (List.mem_of_getElem? (i := 1092) (by decide +kernel))) (hts _ (List.mem_of_getElem? (i := 84) (by decide +kernel))) e52 hA
  obtain ⟨t53, e53, f53⟩ := va_Tof (tm := .static "java/lang/Integer" "DigitOnes" "[B") (ty := .byte) (N := 100) (f := fun j => .int (nI (48 + j % 10))) (by decide) (hs _ (by decide +kernel)) (va_eqt (hs _ (by decide +kernel))) (fun j hj => va_eqt (hs _ (lw_m53 j hj))) hA
  have z53 := va_Zof (hts _ (List.mem_of_getElem? (i := 972) (by decide +kernel))) (hts _ (List.mem_of_getElem? (i := 99) (by decide +kernel))) e53 hA
  obtain ⟨t54, e54, f54⟩ := va_Tof (tm := .static "java/lang/Integer" "DigitTens" "[B") (ty := .byte) (N := 100) (f := fun j => .int (nI (48 + j / 10))) (by decide) (hs _ (by decide +kernel)) (va_eqt (hs _ (by decide +kernel))) (fun j hj => va_eqt (hs _ (lw_m54 j hj))) hA
  have z54 := va_Zof (hts _ (List.mem_of_getElem? (i := 974) (by decide +kernel))) (hts _ (List.mem_of_getElem? (i := 99) (by decide +kernel))) e54 hA
  have zc := va_Zof (C := "java/lang/String") (n := "COMPACT_STRINGS") (d := "Z") (v := .int 1) (hts _ (List.mem_of_getElem? (i := 318) (by decide +kernel))) (hts _ (List.mem_of_getElem? (i := 87) (by decide +kernel))) (va_eqt (hs _ (by decide +kernel))) hA
  have zq := va_Zqof (C := "jdk/internal/util/Preconditions") (n := "SIOOBE_FORMATTER") (d := "Ljava/util/function/BiFunction;") (hts _ (List.mem_of_getElem? (i := 933) (by decide +kernel))) (hts _ (List.mem_of_getElem? (i := 97) (by decide +kernel))) (hs _ (by decide +kernel)) hA
  obtain ⟨adK, adV, hS, hE⟩ := vk_Sof (tm := fun i => .string "ConnectorRouter$CommandText" (lw_sk i)) (N := 6) (len := lw_sl) (byt := lw_sb) (by decide) (fun i hi => hs _ (lw_s1 i hi)) (fun i hi => hs _ (lw_s2 i hi)) (fun i hi => hs _ (lw_s3 i hi)) (fun i hi => hs _ (lw_s4 i hi)) (fun i hi j hj => hs _ (lw_s5 i hi j hj)) (fun i j hi hj hn => (lw_s6 i hi j hj hn).elim (fun h => Or.inl (hs _ h)) (fun h => Or.inr (hs _ h))) hA
  refine ⟨lw_st [t50, t51, t52, t53, t54] adK adV, fun ad had => ?_⟩
  have e6 : ∀ i, i < 6 → ad (60 + i) = adK i := fun i hi => by
    rw [had _ (by omega)]
    unfold lw_st
    rw [if_neg (by omega), if_pos (by omega)]
    exact congrArg adK (by omega)
  have e7 : ∀ i, ad (70 + i) = adV i := fun i => by
    rw [had _ (by omega)]
    unfold lw_st
    rw [if_pos (by omega)]
    exact congrArg adV (by omega)
  have g50 : ad 50 = t50 := had 50 (by omega)
  have g51 : ad 51 = t51 := had 51 (by omega)
  have g52 : ad 52 = t52 := had 52 (by omega)
  have g53 : ad 53 = t53 := had 53 (by omega)
  have g54 : ad 54 = t54 := had 54 (by omega)
  refine ⟨⟨by rw [g50]; exact z50, by rw [g50]; exact f50⟩, ⟨by rw [g51]; exact z51, by rw [g51]; exact f51⟩, ⟨by rw [g52]; exact z52, by rw [g52]; exact f52⟩, zc, ⟨by rw [g53]; exact z53, by rw [g53]; exact f53⟩, ⟨by rw [g54]; exact z54, by rw [g54]; exact f54⟩, zq, ⟨fun i hi => ?_, fun i j hi hj h => hS.2 i j hi hj ?_⟩, ?_, ?_, ?_, ?_, ?_, ?_⟩
  · show va_O _ (ad (60 + i)) _ _ _ ∧ va_OF _ _ _ _ (ad (60 + i)) _ _ _ ∧ va_OF _ _ _ (.ref (ad (70 + i))) (ad (60 + i)) _ _ _ ∧ va_T _ (ad (70 + i)) _ _ _ _ _
    rw [e6 i hi, e7 i]
    exact hS.1 i hi
  · have h : ad (60 + i) = ad (60 + j) := h
    rw [e6 i hi, e6 j hj] at h
    exact h
  · rw [show ad 60 = adK 0 from e6 0 (by decide)]
    exact vk_R.of (hts _ (List.mem_of_getElem? (i := 1056) (by decide +kernel))) (hE 0 (by decide))
  · rw [show ad 61 = adK 1 from e6 1 (by decide)]
    exact vk_R.of (hts _ (List.mem_of_getElem? (i := 1086) (by decide +kernel))) (hE 1 (by decide))
  · rw [show ad 62 = adK 2 from e6 2 (by decide)]
    exact vk_R.of (hts _ (List.mem_of_getElem? (i := 1087) (by decide +kernel))) (hE 2 (by decide))
  · rw [show ad 63 = adK 3 from e6 3 (by decide)]
    exact vk_R.of (hts _ (List.mem_of_getElem? (i := 1088) (by decide +kernel))) (hE 3 (by decide))
  · rw [show ad 64 = adK 4 from e6 4 (by decide)]
    exact vk_R.of (hts _ (List.mem_of_getElem? (i := 1089) (by decide +kernel))) (hE 4 (by decide))
  · rw [show ad 65 = adK 5 from e6 5 (by decide)]
    exact vk_R.of (hts _ (List.mem_of_getElem? (i := 1090) (by decide +kernel))) (hE 5 (by decide))
/-! the first states -/
def cs0 : CSt := ((0, 0, 10, fun _ => 0, fun _ => 0, fun _ => none), (fun _ => 0, fun _ => 0, fun _ => 10, fun _ _ => 0, fun _ _ => 0, fun _ _ => none), (0, 0, 0), (fun _ => 0, 0, 0, 0, 0, 0, fun _ => 0, fun _ => 0, 0), (fun _ => 0, fun _ => 0, 0, 0, fun _ => 0, fun _ => 0), (0, fun _ => 0, fun _ => 0, fun _ => 0), (0, 0, fun _ => 0, fun _ => 0, fun _ => 0, fun _ => 0, fun _ => 0), (0, fun _ => 0, 0, fun _ => 0, 0, 0, 0), (0, 0, fun _ => 0, 16), (0, 0))
def hs0 (ad : Nat → Nat) : HS := (fun _ => none, fun _ _ => none, ad 46, [], fun _ => .inr (0, []))
def ad9 (q st : Nat → Nat) (k : Nat) : Nat := ([q 0, q 1, q 2, q 3, q 4, q 7, q 8, q 9, q 10, q 11, q 12, q 13, q 14, q 15, q 16, q 17, q 18, q 19, q 20, q 21, q 22, q 5, q 6, q 23, q 33, q 34, q 35, q 24, q 25, q 26, q 27, q 28, q 29, q 30, q 31, q 32, q 36, q 37, q 38, q 39, q 40, q 41, q 42, q 43, q 44, q 45, q 46] : List Nat).getD k (st k)
theorem ad9_hi {q st : Nat → Nat} {k : Nat} (h : 50 ≤ k) : ad9 q st k = st k := by
  unfold ad9
  rw [List.getD_eq_getElem?_getD, List.getElem?_eq_none (by show 47 ≤ k; omega)]
  rfl
theorem va_P.cg1 {D : va_G} {cl : List vw_C} {X Y : va_W} {a n : Nat} {c : ClassId} {f g : Nat → Option Nat} {H : Heap} (h : va_P D cl (X ++ ((a, .inl (c, n, .inr (.inr (.inr (.inr f))))) :: Y)) H) (hf : ∀ j, j < n → f j = g j) : va_P D cl (X ++ ((a, .inl (c, n, .inr (.inr (.inr (.inr g))))) :: Y)) H := by
  have h1 := h.app_l
  have h2 : va_P D cl ([(a, .inl (c, n, .inr (.inr (.inr (.inr f)))))] ++ Y) H := h.app_r
  refine h1.app (va_P.app (w1 := [(a, .inl (c, n, .inr (.inr (.inr (.inr g)))))]) (fun k q hk => ?_) h2.app_r)
  have h3 : va_at D cl (a, .inl (c, n, .inr (.inr (.inr (.inr f))))) H := h2.app_l 0 _ rfl
  match k, hk with
  | 0, hk =>
    cases hk
    show H[a]? = some (vp_cell c (n, .inr (.inr (.inr (.inr g)))))
    have h4 : H[a]? = some (vp_cell c (n, .inr (.inr (.inr (.inr f))))) := h3
    rw [h4, vp_cell_q, vp_cell_q]
    exact congrArg some (arrV_cg fun j hj => by rw [hf j hj])
  | k + 1, hk => simp at hk
theorem va_D.cgA {A : Nat → Prop} {w w' : va_W} (h : va_D A w) (he : w'.map (fun x => x.1) = w.map (fun x => x.1)) : va_D A w' := by
  have k1 : ∀ (k : Nat) (q : Nat × va_E), w'[k]? = some q → ∃ e, w[k]? = some (q.1, e) := fun k q hk => by
    have h1 : (w'.map (fun x => x.1))[k]? = some q.1 := by rw [List.getElem?_map, hk]; rfl
    rw [he, List.getElem?_map] at h1
    cases h2 : w[k]? with
    | none => rw [h2] at h1; cases h1
    | some z => rw [h2] at h1; exact ⟨z.2, by rw [← Option.some.inj h1]⟩
  refine ⟨fun i j p q hi hj e => ?_, fun k q hk => ?_⟩
  · obtain ⟨a, ha⟩ := k1 i p hi
    obtain ⟨b, hb⟩ := k1 j q hj
    exact h.1 i j _ _ ha hb e
  · obtain ⟨a, ha⟩ := k1 k q hk
    exact h.2 k (q.1, a) ha
set_option maxHeartbeats 4000000 in
set_option maxRecDepth 100000 in
theorem w9P {D : va_G} {cA : Nat → ClassId} {q st : Nat → Nat} {H : Heap} (h : va_P D vwCl (Wn_X9_init cA q) H) : HC D cA (ad9 q st) cs0 (hs0 (ad9 q st)) H := by
  refine ⟨⟨fun j => Or.inl ⟨rfl, rfl⟩, fun i j => Or.inl ⟨rfl, rfl⟩⟩, ?_⟩
  have h1 : va_P D vwCl ([((q 0), .inr (9, [.ref (q 1), .ref (q 5), .ref (q 23), .ref (q 36), .ref (q 42), .ref (q 45), .int 0])), ((q 1), .inr (2, [.int 0, .int 0, .int 10, .ref (q 2), .ref (q 3), .ref (q 4)])), ((q 2), .inl (cA 0, 32, .inl (fun _ => 0))), ((q 3), .inl (cA 0, 60, .inl (fun _ => 0))), ((q 4), .inl (cA 4, 10, .inr (.inr (.inr (.inr (fun _ => none)))))), ((q 7), .inr (2, [.int 0, .int 0, .int 10, .ref (q 8), .ref (q 9), .ref (q 10)])), ((q 8), .inl (cA 0, 32, .inl (fun _ => 0))), ((q 9), .inl (cA 0, 60, .inl (fun _ => 0))), ((q 10), .inl (cA 4, 10, .inr (.inr (.inr (.inr (fun _ => none)))))), ((q 11), .inr (2, [.int 0, .int 0, .int 10, .ref (q 12), .ref (q 13), .ref (q 14)])), ((q 12), .inl (cA 0, 32, .inl (fun _ => 0))), ((q 13), .inl (cA 0, 60, .inl (fun _ => 0))), ((q 14), .inl (cA 4, 10, .inr (.inr (.inr (.inr (fun _ => none)))))), ((q 15), .inr (2, [.int 0, .int 0, .int 10, .ref (q 16), .ref (q 17), .ref (q 18)])), ((q 16), .inl (cA 0, 32, .inl (fun _ => 0))), ((q 17), .inl (cA 0, 60, .inl (fun _ => 0))), ((q 18), .inl (cA 4, 10, .inr (.inr (.inr (.inr (fun _ => none)))))), ((q 19), .inr (2, [.int 0, .int 0, .int 10, .ref (q 20), .ref (q 21), .ref (q 22)])), ((q 20), .inl (cA 0, 32, .inl (fun _ => 0))), ((q 21), .inl (cA 0, 60, .inl (fun _ => 0))), ((q 22), .inl (cA 4, 10, .inr (.inr (.inr (.inr (fun _ => none)))))), ((q 5), .inr (5, [.int 0, .int 0, .ref (q 6)]))] ++ (((q 6), .inl (cA 3, 4, .inr (.inr (.inr (.inr (va_up (va_up (va_up (va_up (fun _ => none) 0 (some (q 7))) 1 (some (q 11))) 2 (some (q 15))) 3 (some (q 19)))))))) :: [((q 23), .inr (8, [.ref (q 24), .ref (q 29), .ref (q 33), .int 0, .int 0, .int 0, .int 0, .int 0, .ref (q 34), .ref (q 35), .int 0])), ((q 33), .inl (cA 0, 1296, .inl (fun _ => 0))), ((q 34), .inl (cA 0, 326, .inl (fun _ => 0))), ((q 35), .inl (cA 0, 326, .inl (fun _ => 0))), ((q 24), .inr (4, [.ref (q 25), .ref (q 26), .int 0, .int 0, .ref (q 27), .ref (q 28)])), ((q 25), .inl (cA 0, 18, .inl (fun _ => 0))), ((q 26), .inl (cA 0, 18, .inl (fun _ => 0))), ((q 27), .inl (cA 1, 324, .inl (fun _ => 0))), ((q 28), .inl (cA 1, 324, .inl (fun _ => 0))), ((q 29), .inr (7, [.int 0, .ref (q 30), .ref (q 31), .ref (q 32)])), ((q 30), .inl (cA 0, 256, .inl (fun _ => 0))), ((q 31), .inl (cA 0, 1296, .inl (fun _ => 0))), ((q 32), .inl (cA 0, 1296, .inl (fun _ => 0))), ((q 36), .inr (1, [.int 0, .int 0, .ref (q 37), .ref (q 38), .ref (q 39), .ref (q 40), .ref (q 41)])), ((q 37), .inl (cA 0, 180, .inl (fun _ => 0))), ((q 38), .inl (cA 0, 180, .inl (fun _ => 0))), ((q 39), .inl (cA 0, 180, .inl (fun _ => 0))), ((q 40), .inl (cA 0, 180, .inl (fun _ => 0))), ((q 41), .inl (cA 1, 180, .inl (fun _ => 0))), ((q 42), .inr (3, [.int 0, .ref (q 43), .int 0, .ref (q 44), .int 0, .int 0, .int 0])), ((q 43), .inl (cA 0, 120, .inl (fun _ => 0))), ((q 44), .inl (cA 0, 6, .inl (fun _ => 0))), ((q 45), .inr (0, [.ref (q 46), .int 0, .int 0, .int 0])), ((q 46), .inl (cA 2, 16, .inl (fun _ => 0)))])) H := h.sub [0, 1, 2, 3, 4, 7, 8, 9, 10, 11, 12, 13, 14, 15, 16, 17, 18, 19, 20, 21, 22, 5, 6, 23, 33, 34, 35, 24, 25, 26, 27, 28, 29, 30, 31, 32, 36, 37, 38, 39, 40, 41, 42, 43, 44, 45, 46] rfl
  exact va_P.cg1 (g := fun j => some (ad9 q st (5 + 4 * j))) h1 (fun j hj => by rcases (show j = 0 ∨ j = 1 ∨ j = 2 ∨ j = 3 by omega) with rfl | rfl | rfl | rfl <;> rfl)
set_option maxHeartbeats 4000000 in
set_option maxRecDepth 100000 in
theorem w9D {A : Nat → Prop} {cA : Nat → ClassId} {q st : Nat → Nat} {w : va_W} (h : va_D A (Wn_X9_init cA q ++ w)) : va_D A (w ++ wC cA (ad9 q st) cs0 (hs0 (ad9 q st))) := by
  have h1 : va_D A [((q 0), .inr (9, [.ref (q 1), .ref (q 5), .ref (q 23), .ref (q 36), .ref (q 42), .ref (q 45), .int 0])), ((q 1), .inr (2, [.int 0, .int 0, .int 10, .ref (q 2), .ref (q 3), .ref (q 4)])), ((q 2), .inl (cA 0, 32, .inl (fun _ => 0))), ((q 3), .inl (cA 0, 60, .inl (fun _ => 0))), ((q 4), .inl (cA 4, 10, .inr (.inr (.inr (.inr (fun _ => none)))))), ((q 7), .inr (2, [.int 0, .int 0, .int 10, .ref (q 8), .ref (q 9), .ref (q 10)])), ((q 8), .inl (cA 0, 32, .inl (fun _ => 0))), ((q 9), .inl (cA 0, 60, .inl (fun _ => 0))), ((q 10), .inl (cA 4, 10, .inr (.inr (.inr (.inr (fun _ => none)))))), ((q 11), .inr (2, [.int 0, .int 0, .int 10, .ref (q 12), .ref (q 13), .ref (q 14)])), ((q 12), .inl (cA 0, 32, .inl (fun _ => 0))), ((q 13), .inl (cA 0, 60, .inl (fun _ => 0))), ((q 14), .inl (cA 4, 10, .inr (.inr (.inr (.inr (fun _ => none)))))), ((q 15), .inr (2, [.int 0, .int 0, .int 10, .ref (q 16), .ref (q 17), .ref (q 18)])), ((q 16), .inl (cA 0, 32, .inl (fun _ => 0))), ((q 17), .inl (cA 0, 60, .inl (fun _ => 0))), ((q 18), .inl (cA 4, 10, .inr (.inr (.inr (.inr (fun _ => none)))))), ((q 19), .inr (2, [.int 0, .int 0, .int 10, .ref (q 20), .ref (q 21), .ref (q 22)])), ((q 20), .inl (cA 0, 32, .inl (fun _ => 0))), ((q 21), .inl (cA 0, 60, .inl (fun _ => 0))), ((q 22), .inl (cA 4, 10, .inr (.inr (.inr (.inr (fun _ => none)))))), ((q 5), .inr (5, [.int 0, .int 0, .ref (q 6)])), ((q 6), .inl (cA 3, 4, .inr (.inr (.inr (.inr (va_up (va_up (va_up (va_up (fun _ => none) 0 (some (q 7))) 1 (some (q 11))) 2 (some (q 15))) 3 (some (q 19)))))))), ((q 23), .inr (8, [.ref (q 24), .ref (q 29), .ref (q 33), .int 0, .int 0, .int 0, .int 0, .int 0, .ref (q 34), .ref (q 35), .int 0])), ((q 33), .inl (cA 0, 1296, .inl (fun _ => 0))), ((q 34), .inl (cA 0, 326, .inl (fun _ => 0))), ((q 35), .inl (cA 0, 326, .inl (fun _ => 0))), ((q 24), .inr (4, [.ref (q 25), .ref (q 26), .int 0, .int 0, .ref (q 27), .ref (q 28)])), ((q 25), .inl (cA 0, 18, .inl (fun _ => 0))), ((q 26), .inl (cA 0, 18, .inl (fun _ => 0))), ((q 27), .inl (cA 1, 324, .inl (fun _ => 0))), ((q 28), .inl (cA 1, 324, .inl (fun _ => 0))), ((q 29), .inr (7, [.int 0, .ref (q 30), .ref (q 31), .ref (q 32)])), ((q 30), .inl (cA 0, 256, .inl (fun _ => 0))), ((q 31), .inl (cA 0, 1296, .inl (fun _ => 0))), ((q 32), .inl (cA 0, 1296, .inl (fun _ => 0))), ((q 36), .inr (1, [.int 0, .int 0, .ref (q 37), .ref (q 38), .ref (q 39), .ref (q 40), .ref (q 41)])), ((q 37), .inl (cA 0, 180, .inl (fun _ => 0))), ((q 38), .inl (cA 0, 180, .inl (fun _ => 0))), ((q 39), .inl (cA 0, 180, .inl (fun _ => 0))), ((q 40), .inl (cA 0, 180, .inl (fun _ => 0))), ((q 41), .inl (cA 1, 180, .inl (fun _ => 0))), ((q 42), .inr (3, [.int 0, .ref (q 43), .int 0, .ref (q 44), .int 0, .int 0, .int 0])), ((q 43), .inl (cA 0, 120, .inl (fun _ => 0))), ((q 44), .inl (cA 0, 6, .inl (fun _ => 0))), ((q 45), .inr (0, [.ref (q 46), .int 0, .int 0, .int 0])), ((q 46), .inl (cA 2, 16, .inl (fun _ => 0)))] := h.app_l.sub [0, 1, 2, 3, 4, 7, 8, 9, 10, 11, 12, 13, 14, 15, 16, 17, 18, 19, 20, 21, 22, 5, 6, 23, 33, 34, 35, 24, 25, 26, 27, 28, 29, 30, 31, 32, 36, 37, 38, 39, 40, 41, 42, 43, 44, 45, 46] (by decide) rfl
  refine h.app_r.app (h1.cgA rfl) fun i j p z hi hj e => ?_
  have h2 : ∃ (k : Nat) (e : va_E), (Wn_X9_init cA q)[k]? = some (z.1, e) := by
    have h3 : z.1 ∈ ([((q 0), .inr (9, [.ref (q 1), .ref (q 5), .ref (q 23), .ref (q 36), .ref (q 42), .ref (q 45), .int 0])), ((q 1), .inr (2, [.int 0, .int 0, .int 10, .ref (q 2), .ref (q 3), .ref (q 4)])), ((q 2), .inl (cA 0, 32, .inl (fun _ => 0))), ((q 3), .inl (cA 0, 60, .inl (fun _ => 0))), ((q 4), .inl (cA 4, 10, .inr (.inr (.inr (.inr (fun _ => none)))))), ((q 7), .inr (2, [.int 0, .int 0, .int 10, .ref (q 8), .ref (q 9), .ref (q 10)])), ((q 8), .inl (cA 0, 32, .inl (fun _ => 0))), ((q 9), .inl (cA 0, 60, .inl (fun _ => 0))), ((q 10), .inl (cA 4, 10, .inr (.inr (.inr (.inr (fun _ => none)))))), ((q 11), .inr (2, [.int 0, .int 0, .int 10, .ref (q 12), .ref (q 13), .ref (q 14)])), ((q 12), .inl (cA 0, 32, .inl (fun _ => 0))), ((q 13), .inl (cA 0, 60, .inl (fun _ => 0))), ((q 14), .inl (cA 4, 10, .inr (.inr (.inr (.inr (fun _ => none)))))), ((q 15), .inr (2, [.int 0, .int 0, .int 10, .ref (q 16), .ref (q 17), .ref (q 18)])), ((q 16), .inl (cA 0, 32, .inl (fun _ => 0))), ((q 17), .inl (cA 0, 60, .inl (fun _ => 0))), ((q 18), .inl (cA 4, 10, .inr (.inr (.inr (.inr (fun _ => none)))))), ((q 19), .inr (2, [.int 0, .int 0, .int 10, .ref (q 20), .ref (q 21), .ref (q 22)])), ((q 20), .inl (cA 0, 32, .inl (fun _ => 0))), ((q 21), .inl (cA 0, 60, .inl (fun _ => 0))), ((q 22), .inl (cA 4, 10, .inr (.inr (.inr (.inr (fun _ => none)))))), ((q 5), .inr (5, [.int 0, .int 0, .ref (q 6)])), ((q 6), .inl (cA 3, 4, .inr (.inr (.inr (.inr (va_up (va_up (va_up (va_up (fun _ => none) 0 (some (q 7))) 1 (some (q 11))) 2 (some (q 15))) 3 (some (q 19)))))))), ((q 23), .inr (8, [.ref (q 24), .ref (q 29), .ref (q 33), .int 0, .int 0, .int 0, .int 0, .int 0, .ref (q 34), .ref (q 35), .int 0])), ((q 33), .inl (cA 0, 1296, .inl (fun _ => 0))), ((q 34), .inl (cA 0, 326, .inl (fun _ => 0))), ((q 35), .inl (cA 0, 326, .inl (fun _ => 0))), ((q 24), .inr (4, [.ref (q 25), .ref (q 26), .int 0, .int 0, .ref (q 27), .ref (q 28)])), ((q 25), .inl (cA 0, 18, .inl (fun _ => 0))), ((q 26), .inl (cA 0, 18, .inl (fun _ => 0))), ((q 27), .inl (cA 1, 324, .inl (fun _ => 0))), ((q 28), .inl (cA 1, 324, .inl (fun _ => 0))), ((q 29), .inr (7, [.int 0, .ref (q 30), .ref (q 31), .ref (q 32)])), ((q 30), .inl (cA 0, 256, .inl (fun _ => 0))), ((q 31), .inl (cA 0, 1296, .inl (fun _ => 0))), ((q 32), .inl (cA 0, 1296, .inl (fun _ => 0))), ((q 36), .inr (1, [.int 0, .int 0, .ref (q 37), .ref (q 38), .ref (q 39), .ref (q 40), .ref (q 41)])), ((q 37), .inl (cA 0, 180, .inl (fun _ => 0))), ((q 38), .inl (cA 0, 180, .inl (fun _ => 0))), ((q 39), .inl (cA 0, 180, .inl (fun _ => 0))), ((q 40), .inl (cA 0, 180, .inl (fun _ => 0))), ((q 41), .inl (cA 1, 180, .inl (fun _ => 0))), ((q 42), .inr (3, [.int 0, .ref (q 43), .int 0, .ref (q 44), .int 0, .int 0, .int 0])), ((q 43), .inl (cA 0, 120, .inl (fun _ => 0))), ((q 44), .inl (cA 0, 6, .inl (fun _ => 0))), ((q 45), .inr (0, [.ref (q 46), .int 0, .int 0, .int 0])), ((q 46), .inl (cA 2, 16, .inl (fun _ => 0)))] : va_W).map (fun x => x.1) := by
      have h4 : z.1 ∈ (wC cA (ad9 q st) cs0 (hs0 (ad9 q st))).map (fun x => x.1) := List.mem_map.mpr ⟨z, List.mem_of_getElem? hj, rfl⟩
      exact h4
    obtain ⟨y, hy, hyz⟩ := List.mem_map.mp h3
    obtain ⟨k, hk⟩ := List.mem_iff_getElem?.mp hy
    have h5 := congrArg (fun l : List (Option (Nat × va_E)) => l[k]?) (show ([0, 1, 2, 3, 4, 7, 8, 9, 10, 11, 12, 13, 14, 15, 16, 17, 18, 19, 20, 21, 22, 5, 6, 23, 33, 34, 35, 24, 25, 26, 27, 28, 29, 30, 31, 32, 36, 37, 38, 39, 40, 41, 42, 43, 44, 45, 46] : List Nat).map (fun i => (Wn_X9_init cA q)[i]?) = ([((q 0), .inr (9, [.ref (q 1), .ref (q 5), .ref (q 23), .ref (q 36), .ref (q 42), .ref (q 45), .int 0])), ((q 1), .inr (2, [.int 0, .int 0, .int 10, .ref (q 2), .ref (q 3), .ref (q 4)])), ((q 2), .inl (cA 0, 32, .inl (fun _ => 0))), ((q 3), .inl (cA 0, 60, .inl (fun _ => 0))), ((q 4), .inl (cA 4, 10, .inr (.inr (.inr (.inr (fun _ => none)))))), ((q 7), .inr (2, [.int 0, .int 0, .int 10, .ref (q 8), .ref (q 9), .ref (q 10)])), ((q 8), .inl (cA 0, 32, .inl (fun _ => 0))), ((q 9), .inl (cA 0, 60, .inl (fun _ => 0))), ((q 10), .inl (cA 4, 10, .inr (.inr (.inr (.inr (fun _ => none)))))), ((q 11), .inr (2, [.int 0, .int 0, .int 10, .ref (q 12), .ref (q 13), .ref (q 14)])), ((q 12), .inl (cA 0, 32, .inl (fun _ => 0))), ((q 13), .inl (cA 0, 60, .inl (fun _ => 0))), ((q 14), .inl (cA 4, 10, .inr (.inr (.inr (.inr (fun _ => none)))))), ((q 15), .inr (2, [.int 0, .int 0, .int 10, .ref (q 16), .ref (q 17), .ref (q 18)])), ((q 16), .inl (cA 0, 32, .inl (fun _ => 0))), ((q 17), .inl (cA 0, 60, .inl (fun _ => 0))), ((q 18), .inl (cA 4, 10, .inr (.inr (.inr (.inr (fun _ => none)))))), ((q 19), .inr (2, [.int 0, .int 0, .int 10, .ref (q 20), .ref (q 21), .ref (q 22)])), ((q 20), .inl (cA 0, 32, .inl (fun _ => 0))), ((q 21), .inl (cA 0, 60, .inl (fun _ => 0))), ((q 22), .inl (cA 4, 10, .inr (.inr (.inr (.inr (fun _ => none)))))), ((q 5), .inr (5, [.int 0, .int 0, .ref (q 6)])), ((q 6), .inl (cA 3, 4, .inr (.inr (.inr (.inr (va_up (va_up (va_up (va_up (fun _ => none) 0 (some (q 7))) 1 (some (q 11))) 2 (some (q 15))) 3 (some (q 19)))))))), ((q 23), .inr (8, [.ref (q 24), .ref (q 29), .ref (q 33), .int 0, .int 0, .int 0, .int 0, .int 0, .ref (q 34), .ref (q 35), .int 0])), ((q 33), .inl (cA 0, 1296, .inl (fun _ => 0))), ((q 34), .inl (cA 0, 326, .inl (fun _ => 0))), ((q 35), .inl (cA 0, 326, .inl (fun _ => 0))), ((q 24), .inr (4, [.ref (q 25), .ref (q 26), .int 0, .int 0, .ref (q 27), .ref (q 28)])), ((q 25), .inl (cA 0, 18, .inl (fun _ => 0))), ((q 26), .inl (cA 0, 18, .inl (fun _ => 0))), ((q 27), .inl (cA 1, 324, .inl (fun _ => 0))), ((q 28), .inl (cA 1, 324, .inl (fun _ => 0))), ((q 29), .inr (7, [.int 0, .ref (q 30), .ref (q 31), .ref (q 32)])), ((q 30), .inl (cA 0, 256, .inl (fun _ => 0))), ((q 31), .inl (cA 0, 1296, .inl (fun _ => 0))), ((q 32), .inl (cA 0, 1296, .inl (fun _ => 0))), ((q 36), .inr (1, [.int 0, .int 0, .ref (q 37), .ref (q 38), .ref (q 39), .ref (q 40), .ref (q 41)])), ((q 37), .inl (cA 0, 180, .inl (fun _ => 0))), ((q 38), .inl (cA 0, 180, .inl (fun _ => 0))), ((q 39), .inl (cA 0, 180, .inl (fun _ => 0))), ((q 40), .inl (cA 0, 180, .inl (fun _ => 0))), ((q 41), .inl (cA 1, 180, .inl (fun _ => 0))), ((q 42), .inr (3, [.int 0, .ref (q 43), .int 0, .ref (q 44), .int 0, .int 0, .int 0])), ((q 43), .inl (cA 0, 120, .inl (fun _ => 0))), ((q 44), .inl (cA 0, 6, .inl (fun _ => 0))), ((q 45), .inr (0, [.ref (q 46), .int 0, .int 0, .int 0])), ((q 46), .inl (cA 2, 16, .inl (fun _ => 0)))] : va_W).map some from rfl)
    simp only [List.getElem?_map] at h5
    rw [hk] at h5
    obtain ⟨i, hi, hi2⟩ := Option.map_eq_some_iff.mp h5
    exact ⟨i, y.2, by rw [hi2, ← hyz]⟩
  obtain ⟨k, e2, hk⟩ := h2
  exact va_D.app_x h k i _ _ hk hi (by exact e.symm)
