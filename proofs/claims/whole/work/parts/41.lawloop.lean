/-! what is owed of the pure functions; the law from it -/
def ms0 : MS := (upd (fun _ => 0) (2 : Int32).toNatClampNeg 10, 0, 0, fun _ => 0, fun _ => 0, 0, 0, fun _ => 0, fun _ => 0, fun _ => 0, fun _ => 0, fun _ => 0, fun _ => 0, 0, fun _ => 0, fun _ => 0, fun _ => 0, 0, fun _ => 0, 0, fun _ => 0, 0, 0, 0, fun _ => 0, 0)
def Steps (I : Nat → CSt → MS → Prop) (F : Nat) : Prop := S_addBox I F ∧ S_moveBox I F ∧ S_box I F ∧ S_blocker I F ∧ S_link I F ∧ S_drop I F ∧ S_setPenalty I F ∧ S_count I F ∧ S_connector I F ∧ S_route I F ∧ S_routeAll I F ∧ S_reroute I F ∧ S_refresh I F ∧ S_best I F ∧ S_measure I F ∧ S_corner I F ∧ S_isOn I F ∧ S_crossings I F ∧ S_shared I F ∧ S_lane I F ∧ S_write I F ∧ S_written I F ∧ S_type I F ∧ S_clearText I F ∧ S_textFault I F ∧ S_run I F ∧ S_undo I F ∧ S_digest I F
def PureMain : Prop := ∃ (I : Nat → CSt → MS → Prop) (F : Nat), (∀ k σ τ, I k σ τ → cs_nc σ ≤ 1000 * k ∧ cs_ns σ ≤ 14000 * k) ∧ I 0 cs0 ms0 ∧ (∀ k σ τ, I k σ τ → I (k + 1) σ τ) ∧ Steps I F
theorem lw_cmp {a L : Nat} (ha : a ≤ 4000) (hL : L ≤ 3584) : (Int32.ofNat L - 7 < nI a) ↔ L < a + 7 := by
  have e1 : Int32.ofNat L - 7 = Int32.ofInt ((L : Int) - 7) := by
    rw [Int32.ofInt_sub, Int32.ofInt_eq_ofNat]
    rfl
  have e2 : nI a = Int32.ofInt (a : Int) := by
    rw [Int32.ofInt_eq_ofNat]
    rfl
  rw [e1, e2, Int32.lt_iff_toInt_lt, Int32.toInt_ofInt_of_le (by omega) (by omega), Int32.toInt_ofInt_of_le (by omega) (by omega)]
  omega
theorem lw_i7 (a : Nat) : nI a + 7 = nI (a + 7) := nI_add a 7
set_option maxHeartbeats 8000000 in
set_option maxRecDepth 100000 in
theorem law_loop {p : Program} {l : Launch} {e : Env} {s : State} {m : MethodId} {below : List Frame} {meth : Method} {c : Code} {b L : Nat} {xs : Nat → Int32} {D : va_G} {cA : Nat → ClassId} {ad am : Nat → Nat} {I : Nat → CSt → MS → Prop} {F : Nat} (hL : L ≤ 3584) (hr : meth.sig.returnType = ret) (hlk : meth.locks = false) (X : LwF p s m c b L xs D cA ad) (hI : ∀ k σ τ, I k σ τ → cs_nc σ ≤ 1000 * k ∧ cs_ns σ ≤ 14000 * k) (hmo : ∀ k σ τ, I k σ τ → I (k + 1) σ τ) (hs : Steps I F) :
    ∀ n k : Nat, k + n = 513 → GoOn p l e s m below meth c b D cA ad am (I k) (nI (7 * k)) 18 := by
  intro n
  induction n with
  | zero =>
    intro k hk σ τ η H locs cells slots ls hJ hP hM hD hS hc hsl hl
    obtain ⟨C, hK, hZ, hX, hb⟩ := X
    refine lv_iload_n C.1 C.2.1 dL_law_18 rfl (lv_at hl 0 rfl) ?_
    refine lv_aload_n C.1 C.2.1 dL_law_19 rfl (lv_at hl 3 rfl) ?_
    refine va_slen C.1 C.2.1 hX hb (lw_bA hb) hS dL_law_20 ?_
    refine lv_bipush (v := (7 : Int32)) C.1 C.2.1 dL_law_21 (by decide) ?_
    refine lv_isub C.1 C.2.1 dL_law_23 ?_
    refine lv_icmp_gt (tgt := 953) C.1 C.2.1 dL_law_24 (by decide) (fun c9 => ?_) (fun c9 => absurd ((lw_cmp (by omega) hL).mpr (by omega)) c9)
    refine lv_iconst (v := 1) C.1 C.2.1 dL_law_953 (by decide) ?_
    refine va_forget (fun q hq => hS.2.2 q hq) ?_
    obtain ⟨q1, q2⟩ := hI _ _ _ hJ
    refine W.widen (k := 600000) (n := 7302250) (by omega) (by omega) ?_
    exact lw_ret C.1 C.2.1 hr hlk dL_law_954
  | succ n ih =>
    intro k hk σ τ η H locs cells slots ls hJ hP hM hD hS hc hsl hl
    obtain ⟨C, hK, hZ, hX, hb⟩ := id X
    obtain ⟨q1, q2⟩ := hI _ _ _ hJ
    refine lv_iload_n C.1 C.2.1 dL_law_18 rfl (lv_at hl 0 rfl) ?_
    refine lv_aload_n C.1 C.2.1 dL_law_19 rfl (lv_at hl 3 rfl) ?_
    refine va_slen C.1 C.2.1 hX hb (lw_bA hb) hS dL_law_20 ?_
    refine lv_bipush (v := (7 : Int32)) C.1 C.2.1 dL_law_21 (by decide) ?_
    refine lv_isub C.1 C.2.1 dL_law_23 ?_
    refine lv_icmp_gt (tgt := 953) C.1 C.2.1 dL_law_24 (by decide) (fun c9 => ?_) (fun c9 => ?_)
    · refine lv_iconst (v := 1) C.1 C.2.1 dL_law_953 (by decide) ?_
      refine va_forget (fun q hq => hS.2.2 q hq) ?_
      refine W.widen (k := 600000) (n := 7302250) (by omega) (by omega) ?_
      exact lw_ret C.1 C.2.1 hr hlk dL_law_954
    · have hlt : 7 * k + 7 ≤ L := by
        rcases Nat.lt_or_ge L (7 * k + 7) with q | q
        · exact absurd ((lw_cmp (by omega) hL).mpr q) c9
        · exact q
      have hx : ∀ j : Nat, j < 7 → vp_in (nI (7 * k) + Int32.ofNat j) L := fun j hj => by
        have e9 : nI (7 * k) + Int32.ofNat j = nI (7 * k + j) := nI_add _ _
        rw [e9]
        exact vp_in_nI (by omega) (by omega)
      have hin0 : vp_in (nI (7 * k)) L := vp_in_nI (by omega) (by omega)
      have kk : GoOn p l e s m below meth c b D cA ad am (I (k + 1)) (nI (7 * k)) 947 := by
        intro σ τ η H locs cells slots ls hJ hP hM hD hS hc hsl hl
        refine lv_iinc (v := nI (7 * (k + 1))) (lv' := lLv b (ad 0) (am 0) (nI (7 * (k + 1)))) C.1 C.2.1 dL_law_947 hl (k := 0) rfl (by exact lw_i7 (7 * k)) (by decide) rfl (fun ls hl => ?_)
        refine lv_goto (tgt := 18) C.1 C.2.1 dL_law_950 (by decide) ?_
        exact ih (k + 1) (by omega) σ τ η H locs cells slots ls hJ hP hM hD hS hc hsl hl
      refine lv_aload_n C.1 C.2.1 dL_law_27 rfl (lv_at hl 3 rfl) ?_
      refine lv_iload_n C.1 C.2.1 dL_law_28 rfl (lv_at hl 0 rfl) ?_
      refine va_sld C.1 C.2.1 hX hb (lw_bA hb) hS hin0 dL_law_29 ?_
      refine lv_bipush (v := (31 : Int32)) C.1 C.2.1 dL_law_30 (by decide) ?_
      refine lv_iand C.1 C.2.1 dL_law_32 ?_
      obtain ⟨j, hj, ej⟩ := and31 (xs (nI (7 * k)).toNatClampNeg)
      rw [ej]
      obtain ⟨s0, s1, s2, s3, s4, s5, s6, s7, s8, s9, s10, s11, s12, s13, s14, s15, s16, s17, s18, s19, s20, s21, s22, s23, s24, s25, s26, s27⟩ := hs
      have hk5 : k < 512 := by omega
      match j, hj with
      | 0, _ => exact lv_tableIn (tgt := 160) C.1 C.2.1 dL_law_33 (by decide) (by decide) rfl (by decide) (lo_addBox hk5 hI s0 hx X kk σ τ η H locs cells slots ls hJ hP hM hD hS hc hsl hl)
      | 1, _ => exact lv_tableIn (tgt := 213) C.1 C.2.1 dL_law_33 (by decide) (by decide) rfl (by decide) (lo_moveBox hk5 hI s1 hx X kk σ τ η H locs cells slots ls hJ hP hM hD hS hc hsl hl)
      | 2, _ => exact lv_tableIn (tgt := 256) C.1 C.2.1 dL_law_33 (by decide) (by decide) rfl (by decide) (lo_box hk5 hI s2 hx X kk σ τ η H locs cells slots ls hJ hP hM hD hS hc hsl hl)
      | 3, _ => exact lv_tableIn (tgt := 289) C.1 C.2.1 dL_law_33 (by decide) (by decide) rfl (by decide) (lo_blocker hk5 hI s3 hx X kk σ τ η H locs cells slots ls hJ hP hM hD hS hc hsl hl)
      | 4, _ => exact lv_tableIn (tgt := 322) C.1 C.2.1 dL_law_33 (by decide) (by decide) rfl (by decide) (lo_link hk5 hI s4 hx X kk σ τ η H locs cells slots ls hJ hP hM hD hS hc hsl hl)
      | 5, _ => exact lv_tableIn (tgt := 397) C.1 C.2.1 dL_law_33 (by decide) (by decide) rfl (by decide) (lo_drop hk5 hI s5 hx X kk σ τ η H locs cells slots ls hJ hP hM hD hS hc hsl hl)
      | 6, _ => exact lv_tableIn (tgt := 420) C.1 C.2.1 dL_law_33 (by decide) (by decide) rfl (by decide) (lo_setPenalty hk5 hI s6 hx X kk σ τ η H locs cells slots ls hJ hP hM hD hS hc hsl hl)
      | 7, _ => exact lv_tableIn (tgt := 443) C.1 C.2.1 dL_law_33 (by decide) (by decide) rfl (by decide) (lo_count hk5 hI s7 hx X kk σ τ η H locs cells slots ls hJ hP hM hD hS hc hsl hl)
      | 8, _ => exact lv_tableIn (tgt := 466) C.1 C.2.1 dL_law_33 (by decide) (by decide) rfl (by decide) (lo_connector hk5 hI s8 hx X kk σ τ η H locs cells slots ls hJ hP hM hD hS hc hsl hl)
      | 9, _ => exact lv_tableIn (tgt := 499) C.1 C.2.1 dL_law_33 (by decide) (by decide) rfl (by decide) (lo_route hk5 hI s9 hx X kk σ τ η H locs cells slots ls hJ hP hM hD hS hc hsl hl)
      | 10, _ => exact lv_tableIn (tgt := 522) C.1 C.2.1 dL_law_33 (by decide) (by decide) rfl (by decide) (lo_routeAll hk5 hI s10 hx X kk σ τ η H locs cells slots ls hJ hP hM hD hS hc hsl hl)
      | 11, _ => exact lv_tableIn (tgt := 535) C.1 C.2.1 dL_law_33 (by decide) (by decide) rfl (by decide) (lo_reroute hk5 hI s11 hx X kk σ τ η H locs cells slots ls hJ hP hM hD hS hc hsl hl)
      | 12, _ => exact lv_tableIn (tgt := 548) C.1 C.2.1 dL_law_33 (by decide) (by decide) rfl (by decide) (lo_refresh hk5 hI s12 hx X kk σ τ η H locs cells slots ls hJ hP hM hD hS hc hsl hl)
      | 13, _ => exact lv_tableIn (tgt := 561) C.1 C.2.1 dL_law_33 (by decide) (by decide) rfl (by decide) (lo_best hk5 hI s13 hx X kk σ τ η H locs cells slots ls hJ hP hM hD hS hc hsl hl)
      | 14, _ => exact lv_tableIn (tgt := 584) C.1 C.2.1 dL_law_33 (by decide) (by decide) rfl (by decide) (lo_measure hk5 hI s14 hx X kk σ τ η H locs cells slots ls hJ hP hM hD hS hc hsl hl)
      | 15, _ => exact lv_tableIn (tgt := 617) C.1 C.2.1 dL_law_33 (by decide) (by decide) rfl (by decide) (lo_corner hk5 hI s15 hx X kk σ τ η H locs cells slots ls hJ hP hM hD hS hc hsl hl)
      | 16, _ => exact lv_tableIn (tgt := 660) C.1 C.2.1 dL_law_33 (by decide) (by decide) rfl (by decide) (lo_isOn hk5 hI s16 hx X kk σ τ η H locs cells slots ls hJ hP hM hD hS hc hsl hl)
      | 17, _ => exact lv_tableIn (tgt := 703) C.1 C.2.1 dL_law_33 (by decide) (by decide) rfl (by decide) (lo_crossings hk5 hI s17 hx X kk σ τ η H locs cells slots ls hJ hP hM hD hS hc hsl hl)
      | 18, _ => exact lv_tableIn (tgt := 736) C.1 C.2.1 dL_law_33 (by decide) (by decide) rfl (by decide) (lo_shared hk5 hI s18 hx X kk σ τ η H locs cells slots ls hJ hP hM hD hS hc hsl hl)
      | 19, _ => exact lv_tableIn (tgt := 769) C.1 C.2.1 dL_law_33 (by decide) (by decide) rfl (by decide) (lo_lane hk5 hI s19 hx X kk σ τ η H locs cells slots ls hJ hP hM hD hS hc hsl hl)
      | 20, _ => exact lv_tableIn (tgt := 812) C.1 C.2.1 dL_law_33 (by decide) (by decide) rfl (by decide) (lo_write hk5 hI s20 hx X kk σ τ η H locs cells slots ls hJ hP hM hD hS hc hsl hl)
      | 21, _ => exact lv_tableIn (tgt := 835) C.1 C.2.1 dL_law_33 (by decide) (by decide) rfl (by decide) (lo_written hk5 hI s21 hx X kk σ τ η H locs cells slots ls hJ hP hM hD hS hc hsl hl)
      | 22, _ => exact lv_tableIn (tgt := 858) C.1 C.2.1 dL_law_33 (by decide) (by decide) rfl (by decide) (lo_type hk5 hI s22 hx X kk σ τ η H locs cells slots ls hJ hP hM hD hS hc hsl hl)
      | 23, _ => exact lv_tableIn (tgt := 881) C.1 C.2.1 dL_law_33 (by decide) (by decide) rfl (by decide) (lo_clearText hk5 hI s23 hx X kk σ τ η H locs cells slots ls hJ hP hM hD hS hc hsl hl)
      | 24, _ => exact lv_tableIn (tgt := 894) C.1 C.2.1 dL_law_33 (by decide) (by decide) rfl (by decide) (lo_textFault hk5 hI s24 hx X kk σ τ η H locs cells slots ls hJ hP hM hD hS hc hsl hl)
      | 25, _ => exact lv_tableIn (tgt := 907) C.1 C.2.1 dL_law_33 (by decide) (by decide) rfl (by decide) (lo_run hk5 hI s25 hx X kk σ τ η H locs cells slots ls hJ hP hM hD hS hc hsl hl)
      | 26, _ => exact lv_tableIn (tgt := 920) C.1 C.2.1 dL_law_33 (by decide) (by decide) rfl (by decide) (lo_undo hk5 hI s26 hx X kk σ τ η H locs cells slots ls hJ hP hM hD hS hc hsl hl)
      | 27, _ => exact lv_tableIn (tgt := 933) C.1 C.2.1 dL_law_33 (by decide) (by decide) rfl (by decide) (lo_digest hk5 hI s27 hx X kk σ τ η H locs cells slots ls hJ hP hM hD hS hc hsl hl)
      | 28, _ => exact lv_tableOut (tgt := 947) C.1 C.2.1 dL_law_33 (by decide) (by decide) (kk σ τ η H locs cells slots ls (hmo _ _ _ hJ) hP hM hD hS hc hsl hl)
      | 29, _ => exact lv_tableOut (tgt := 947) C.1 C.2.1 dL_law_33 (by decide) (by decide) (kk σ τ η H locs cells slots ls (hmo _ _ _ hJ) hP hM hD hS hc hsl hl)
      | 30, _ => exact lv_tableOut (tgt := 947) C.1 C.2.1 dL_law_33 (by decide) (by decide) (kk σ τ η H locs cells slots ls (hmo _ _ _ hJ) hP hM hD hS hc hsl hl)
      | 31, _ => exact lv_tableOut (tgt := 947) C.1 C.2.1 dL_law_33 (by decide) (by decide) (kk σ τ η H locs cells slots ls (hmo _ _ _ hJ) hP hM hD hS hc hsl hl)
      | j + 32, hj => exact absurd hj (by omega)
theorem wlI_X9 : CI RL 9 yX9_init cX9_init 1 0 := ⟨gT_i 102 (by decide +kernel) rfl, gT_i 103 (by decide +kernel) rfl, gT_i 77 (by decide +kernel) rfl, gT_i 104 (by decide +kernel) rfl, by decide, by decide, by decide +kernel, rfl⟩
theorem wlN_X9 : Cond.classLink RL 7 RX9 ∈ gT ∧ Cond.instantiable RX9 7 ∈ gT ∧ Cond.initialized RX9 ∈ gT := ⟨gT_i 100 (by decide +kernel) rfl, gT_i 101 (by decide +kernel) rfl, gT_i 77 (by decide +kernel) rfl⟩
theorem wlI_X10 : CI RL 12 yX10_init cX10_init 1 0 := ⟨gT_i 1141 (by decide +kernel) rfl, gT_i 1142 (by decide +kernel) rfl, gT_i 89 (by decide +kernel) rfl, gT_i 1143 (by decide +kernel) rfl, by decide, by decide, by decide +kernel, rfl⟩
theorem wlN_X10 : Cond.classLink RL 10 RX10 ∈ gT ∧ Cond.instantiable RX10 26 ∈ gT ∧ Cond.initialized RX10 ∈ gT := ⟨gT_i 1139 (by decide +kernel) rfl, gT_i 1140 (by decide +kernel) rfl, gT_i 89 (by decide +kernel) rfl⟩
theorem w10P {D : va_G} {cA : Nat → ClassId} {q : Nat → Nat} {H : Heap} (h : va_P D vwCl (Wn_X10_init cA q) H) : va_P D vwCl (wM cA q ms0) H := h
theorem w10D {A : Nat → Prop} {cA : Nat → ClassId} {q : Nat → Nat} {w : va_W} (h : va_D A (w ++ Wn_X10_init cA q)) : va_D A (w ++ wM cA q ms0) := h
set_option maxHeartbeats 8000000 in
set_option maxRecDepth 100000 in
theorem whole_of (hPure : PureMain) {p : Program} {e : Env} {s : State} {m : MethodId} {below : List Frame} {meth : Method} {c : Code} (l : Launch) {b L : Nat} {xs : Nat → Int32} (hL : L ≤ 3584) (C0 : lw_At p s m meth c b L xs) : W p l e room_1 s m #[Value.ref b] below meth c s.heap [] 0 0 (lw_Z below #[Value.ref b] s) (entryFrame m ([Value.ref b] : List Value).toArray 4) := by
  obtain ⟨I, F, hI, h0, hmo, hst⟩ := hPure
  obtain ⟨hx, hb, hr, hml, hown, hts, hX, hbl, hlocks, hgv⟩ := C0
  obtain ⟨D, cA, hK⟩ := lw_K hts
  obtain ⟨st, hSZ⟩ := lw_SZ hts hgv
  have hN := lw_NW hts
  have C : CallFix p m c cL_law 4 s #[Value.ref b] gT RL := ⟨hx, hb, hml, hown, lw_gT hts⟩
  have hA : ∀ q : Nat, s.heap.size ≤ q → nwA_ s q := fun _ h => h
  have hS : va_S (nwA_ s) s.heap s.heap [] := va_S.rf
  have hZ : CZ (nwA_ s) s s.heap := (hSZ st (fun _ _ => rfl)).2.2.2.1
  have hP : va_P D vwCl [] s.heap := fun k q h => by simp at h
  have hD : va_D (nwA_ s) [] := ⟨fun i j p q h => by simp at h, fun k q h => by simp at h⟩
  have hl := lv_entry ([.ref b]) (n := 4) (Nat.le_of_ble_eq_true rfl)
  rw [lg_entry_eq]
  generalize (lg_sl ([.ref b]) ++ List.replicate (4 - (lg_sl ([.ref b])).length) Slot.unset).toArray = ls at hl ⊢
  have hl : lv_has ls 4 [(0, .ref b)] := hl
  refine va_new (ci := 9) (fs := [.null, .null, .null, .null, .null, .null, .int 0]) (C := RX9) (T := TX9) (N := 7) C.1 C.2.1 C.2.2.2.2 cW_inX9 tyX9 tyX9_ok C.2.2.2.1 (C.2.2.2.2 _ wlN_X9.1) (C.2.2.2.2 _ wlN_X9.2.1) (C.2.2.2.2 _ wlN_X9.2.2) hK hP hD hS hA rfl (by decide) (Nat.le_of_ble_eq_true rfl) (Nat.le_of_ble_eq_true rfl) dL_law_0 (fun b1 H hP hD hS => ?_)
  refine lv_dup C.1 C.2.1 dL_law_3 rfl ?_
  refine callNI (wr := []) (w0 := [(b1, .inr (9, [.null, .null, .null, .null, .null, .null, .int 0]))]) (b := b1) (As := []) (rest := [.ref b1]) C hK hP hD hA hS hN hZ wlI_X9 hl (kn_X9_init l D cA b1) rfl rfl rfl (Nat.le_of_ble_eq_true rfl) ⟨Nat.le_of_ble_eq_true rfl, Nat.le_of_ble_eq_true rfl⟩ dL_law_4 (fun q H locs eq0 _ hP hD hS => ?_)
  have hP : va_P D vwCl (Wn_X9_init cA q) H := hP
  have hD : va_D (nwA_ s) (Wn_X9_init cA q) := hD
  rw [← eq0]
  refine lv_astore_n (lv' := [(1, .ref (q 0)), (0, .ref b)]) C.1 C.2.1 dL_law_7 rfl hl (by decide) rfl (fun ls hl => ?_)
  refine va_new (ci := 10) (fs := [.null, .int 0, .int 0, .null, .null, .int 0, .int 0, .null, .null, .null, .null, .null, .null, .int 0, .null, .null, .null, .int 0, .null, .int 0, .null, .int 0, .int 0, .int 0, .null, .long 0]) (C := RX10) (T := TX10) (N := 26) C.1 C.2.1 C.2.2.2.2 mW_in tyX10 tyX10_ok C.2.2.2.1 (C.2.2.2.2 _ wlN_X10.1) (C.2.2.2.2 _ wlN_X10.2.1) (C.2.2.2.2 _ wlN_X10.2.2) hK hP hD hS hA rfl (by decide) (Nat.le_of_ble_eq_true rfl) (Nat.le_of_ble_eq_true rfl) dL_law_8 (fun b2 H hP hD hS => ?_)
  refine lv_dup C.1 C.2.1 dL_law_11 rfl ?_
  refine callNI (wr := Wn_X9_init cA q) (w0 := [(b2, .inr (10, [.null, .int 0, .int 0, .null, .null, .int 0, .int 0, .null, .null, .null, .null, .null, .null, .int 0, .null, .null, .null, .int 0, .null, .int 0, .null, .int 0, .int 0, .int 0, .null, .long 0]))]) (b := b2) (As := []) (rest := [.ref b2]) C hK hP hD hA hS hN hZ wlI_X10 hl (kn_X10_init l D cA b2) rfl rfl rfl (Nat.le_of_ble_eq_true rfl) ⟨Nat.le_of_ble_eq_true rfl, Nat.le_of_ble_eq_true rfl⟩ dL_law_12 (fun am H locs em0 _ hP hD hS => ?_)
  rw [← em0]
  refine lv_astore_n (lv' := [(2, .ref (am 0)), (1, .ref (q 0)), (0, .ref b)]) C.1 C.2.1 dL_law_15 rfl hl (by decide) rfl (fun ls hl => ?_)
  refine lv_iconst (v := (0 : Int32)) C.1 C.2.1 dL_law_16 (by decide) ?_
  refine lv_istore_n (lv' := [(3, .int 0), (2, .ref (am 0)), (1, .ref (q 0)), (0, .ref b)]) C.1 C.2.1 dL_law_17 rfl hl (by decide) rfl (fun ls hl => ?_)
  have X : LwF p s m c b L xs D cA (ad9 q st) := ⟨C, hK, hSZ _ (fun k hk => ad9_hi hk), hX, hbl⟩
  exact law_loop (am := am) hL hr hlocks X hI hmo hst 513 0 rfl cs0 ms0 (hs0 (ad9 q st)) H locs _ _ ls h0 (w9P hP.app_l) (w10P hP.app_r) (w9D (w10D hD)) hS (Nat.le_of_ble_eq_true rfl) (Nat.le_of_ble_eq_true rfl) hl
