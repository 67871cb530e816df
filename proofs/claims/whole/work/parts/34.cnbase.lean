/-! constructors: explicit worlds -/
def NWp (U : State) : Prop := va_Nw (.methodLinkNest "ConnectorRouter" 9 yX1_init "ConnectorRouter") U ∧ va_Nw (.methodLinkNest "ConnectorRouter$History" 15 yX1_init "ConnectorRouter") U ∧ va_Nw (.methodLinkNest "ConnectorRouter" 25 yX8_init "ConnectorRouter") U ∧ va_Nw (.methodLinkNest "ConnectorRouter$WayFinder" 13 yX4_init "ConnectorRouter") U ∧ va_Nw (.methodLinkNest "ConnectorRouter" 32 yX0_init "ConnectorRouter") U ∧ va_Nw (.methodLinkNest "ConnectorRouter" 39 yX2_init "ConnectorRouter") U ∧ va_AO "ConnectorRouter$Canvas" U ∧ va_AO "ConnectorRouter$Route" U
theorem NWp.warm {s U : State} (hW : s.WarmedH U.vm) (h : NWp s) : NWp U := by
  obtain ⟨h1, h2, h3, h4, h5, h6, h7, h8⟩ := h
  exact ⟨h1.warmM hW, h2.warmM hW, h3.warmM hW, h4.warmM hW, h5.warmM hW, h6.warmM hW, h7.moved hW.alike, h8.moved hW.alike⟩
theorem NWp.same {s U : State} (hv : s.vm = U.vm) (h : NWp s) : NWp U := by
  obtain ⟨h1, h2, h3, h4, h5, h6, h7, h8⟩ := h
  have q : s.vm.Alike U.vm := by rw [hv]; exact Vm.Alike.refl _
  exact ⟨h1.same rfl hv, h2.same rfl hv, h3.same rfl hv, h4.same rfl hv, h5.same rfl hv, h6.same rfl hv, h7.moved q, h8.moved q⟩
def CZ (A : Nat → Prop) (U : State) (H : Heap) : Prop := va_Z "java/lang/String" "COMPACT_STRINGS" "Z" (.int 1) A U H
def QN (D : va_G) (cA : Nat → ClassId) (a : Nat) (E : (Nat → Nat) → Prop) (Wx : (Nat → Nat) → va_W) (w0 : va_W) (sz : Nat) : Array Value → State → Outcome → State → Prop := fun _ st oc t => oc = .returned none ∧ (∃ q : Nat → Nat, q 0 = a ∧ E q ∧ va_P D vwCl (Wx q) t.heap ∧ va_D (va_A w0 sz) (Wx q)) ∧ va_K D vwCl (tyG cA) t ∧ va_F (va_A w0 sz) st t
def KN (l : Launch) (D : va_G) (cA : Nat → ClassId) (y : MethodName) (cc : ByteArray) (maxL fr lo mc ms : Nat) (a : Nat) (av : List Value) (w0 : va_W) (E : (Nat → Nat) → Prop) (Wx : (Nat → Nat) → va_W) : Prop :=
  ∀ sz : Nat, Met l y (Cond.code y cc maxL none :: gT) (rmc fr lo mc ms) (va_Pc (.ref a :: av) (fun U => U.heap.size = sz ∧ va_P D vwCl w0 U.heap ∧ va_K D vwCl (tyG cA) U ∧ va_D (fun _ => True) w0 ∧ NWp U ∧ CZ (va_A w0 sz) U U.heap)) (QN D cA a E Wx w0 sz) mc ms (va_A w0 sz)
/-- what a call of a constructor needs of the tables -/
def CI (own : String) (idx : Nat) (y : MethodName) (b : ByteArray) (n k : Nat) : Prop := Cond.methodLink own idx y ∈ gT ∧ Cond.instanceMethod y ∈ gT ∧ Cond.initialized y.cls ∈ gT ∧ Cond.code y b n none ∈ gT ∧ y.cls ≠ "java/lang/invoke/MethodHandle" ∧ y.cls ≠ "java/lang/invoke/VarHandle" ∧ (parseMethodDescriptor y.desc).map (fun d => d.parameters.length) = some k ∧ y.name = "<init>"
def CIN (y : MethodName) (b : ByteArray) (n k : Nat) : Prop := Cond.instanceMethod y ∈ gT ∧ Cond.initialized y.cls ∈ gT ∧ Cond.code y b n none ∈ gT ∧ y.cls ≠ "java/lang/invoke/MethodHandle" ∧ y.cls ≠ "java/lang/invoke/VarHandle" ∧ (parseMethodDescriptor y.desc).map (fun d => d.parameters.length) = some k ∧ y.name = "<init>"
theorem arrV_cg {c : ClassId} {n : Nat} {f g : Nat → Value} (h : ∀ j, j < n → f j = g j) : arrV c n f = arrV c n g := by
  unfold arrV
  congr 2
  funext j
  exact h j.1 j.2
theorem va_P.app_l {D : va_G} {cl : List vw_C} {w1 w2 : va_W} {H : Heap} (h : va_P D cl (w1 ++ w2) H) : va_P D cl w1 H := fun k q hk => h k q (by rw [List.getElem?_append_left (List.getElem?_eq_some_iff.mp hk).1]; exact hk)
theorem va_P.app_r {D : va_G} {cl : List vw_C} {w1 w2 : va_W} {H : Heap} (h : va_P D cl (w1 ++ w2) H) : va_P D cl w2 H := fun k q hk => h (w1.length + k) q (by rw [List.getElem?_append_right (Nat.le_add_right _ _), Nat.add_sub_cancel_left]; exact hk)
theorem va_D.app_l {A : Nat → Prop} {w1 w2 : va_W} (h : va_D A (w1 ++ w2)) : va_D A w1 := by
  have k1 : ∀ (k : Nat) (q : Nat × va_E), w1[k]? = some q → (w1 ++ w2)[k]? = some q := fun k q hk => by rw [List.getElem?_append_left (List.getElem?_eq_some_iff.mp hk).1]; exact hk
  exact ⟨fun i j p q hi hj e => h.1 i j p q (k1 i p hi) (k1 j q hj) e, fun k q hk => h.2 k q (k1 k q hk)⟩
theorem va_D.app_r {A : Nat → Prop} {w1 w2 : va_W} (h : va_D A (w1 ++ w2)) : va_D A w2 := by
  have k1 : ∀ (k : Nat) (q : Nat × va_E), w2[k]? = some q → (w1 ++ w2)[w1.length + k]? = some q := fun k q hk => by rw [List.getElem?_append_right (Nat.le_add_right _ _), Nat.add_sub_cancel_left]; exact hk
  exact ⟨fun i j p q hi hj e => by have := h.1 _ _ p q (k1 i p hi) (k1 j q hj) e; omega, fun k q hk => h.2 _ q (k1 k q hk)⟩
theorem va_D.app_x {A : Nat → Prop} {w1 w2 : va_W} (h : va_D A (w1 ++ w2)) (i j : Nat) (p q : Nat × va_E) (hi : w1[i]? = some p) (hj : w2[j]? = some q) : p.1 ≠ q.1 := fun e => by
  have hl := (List.getElem?_eq_some_iff.mp hi).1
  have := h.1 i (w1.length + j) p q (by rw [List.getElem?_append_left hl]; exact hi) (by rw [List.getElem?_append_right (Nat.le_add_right _ _), Nat.add_sub_cancel_left]; exact hj) e
  omega
/-- behind a call whose world stands last -/
theorem join_r {A0 : Nat → Prop} {D : va_G} {cl : List vw_C} {wr w0 w1 : va_W} {H H1 : Heap} (hP : va_P D cl (wr ++ w0) H) (hD : va_D A0 (wr ++ w0)) (hk : ∀ q : Nat, q < H.size → ¬ va_A w0 H.size q → H1[q]? = H[q]?) (hF : ∀ q, va_A w0 H.size q → A0 q) (hP1 : va_P D cl w1 H1) (hD1 : va_D (va_A w0 H.size) w1) : va_P D cl (wr ++ w1) H1 ∧ va_D A0 (wr ++ w1) := by
  have ap : ∀ (k : Nat) (q : Nat × va_E), wr[k]? = some q → q.1 < H.size ∧ ¬ va_A w0 H.size q.1 := fun k q hq => by
    have h1 : q.1 < H.size := (hP.app_l k q hq).lt
    refine ⟨h1, fun h => ?_⟩
    rcases h with ⟨j, e, h⟩ | h
    · exact va_D.app_x hD k j q (q.1, e) hq h rfl
    · omega
  refine ⟨(hP.app_l.kept fun k q hq => hk q.1 (ap k q hq).1 (ap k q hq).2).app hP1, hD.app_l.app (hD1.weaken fun k q _ h => hF _ h) fun i j p q hi hj e => ?_⟩
  exact (ap i p hi).2 (by rw [e]; exact hD1.2 j q hj)
section B8
variable {p : Program} {l : Launch} {e : Env} {R : Room} {s : State} {m : MethodId} {args : Array Value} {below : List Frame} {meth : Method} {c : Code} {H : Heap} {locs : List Loc} {cells slots : Nat} {Q : State → Prop}
variable {D : va_G} {cA : Nat → ClassId} {y : MethodName} {cc bytes : ByteArray} {maxL nL fr lo mc ms pc idx k : Nat} {av As rest : List Value} {own : String} {lvs : List (Nat × Value)} {ls : Array Slot} {a b : Nat} {A0 : Nat → Prop} {w0 wr : va_W} {E : (Nat → Nat) → Prop} {Wx : (Nat → Nat) → va_W}
theorem KN.of (hy : plainName y.cls = true) (hnm : y.name = "<init>") (hlen : (lg_sl (.ref a :: av)).length ≤ maxL)
    (h : ∀ (p : Program) (e : Env) (s : State) (m : MethodId) (below : List Frame) (meth : Method) (c : Code) (A : Nat → Prop), A = va_A w0 s.heap.size → (∀ q : Nat, s.heap.size ≤ q → A q) → CallFix p m c cc maxL s (.ref a :: av).toArray gT y.cls → meth.sig.returnType = none → meth.locks = false → meth.name = "<init>" → va_K D vwCl (tyG cA) s → va_P D vwCl w0 s.heap → va_D A w0 → va_S A s.heap s.heap [] → NWp s → CZ A s s.heap → ∀ ls : Array Slot, lv_has ls maxL (lv_args 0 (.ref a :: av)) →
      W p l e (rmc fr lo mc ms) s m (.ref a :: av).toArray below meth c s.heap [] 0 0 (MQ below (QN D cA a E Wx w0 s.heap.size) (.ref a :: av).toArray s mc ms A) (F0 m 0 ls [])) : KN l D cA y cc maxL fr lo mc ms a av w0 E Wx := by
  intro sz
  refine Met.ofW (cc := cc) (maxL := maxL) (ret := none) hy rfl ?_
  intro p e s m args below meth c s₁ B hml hv
  obtain ⟨rfl, rfl, hP, hK, hD0, hN, hZ⟩ := hv
  have hts := atoms_spec (ws := Cond.code y cc maxL none :: gT) B.pre
  rw [lg_entry_eq]
  exact h p e s m below meth c _ rfl (fun q hq => Or.inr hq) ⟨B.exec, B.bytes, hml, findClass_of_methodNamed B.named, fun w hw => hts w (List.mem_cons_of_mem _ hw)⟩ B.returns B.notSynchronized ((name_of_methodNamed B.named B.method).1.trans hnm) hK hP hD0.self va_S.rf hN hZ _ (lv_entry (.ref a :: av) hlen)
theorem KN.blind {sz : Nat} : FrameBlind (va_Pc (.ref a :: av) (fun U => U.heap.size = sz ∧ va_P D vwCl w0 U.heap ∧ va_K D vwCl (tyG cA) U ∧ va_D (fun _ => True) w0 ∧ NWp U ∧ CZ (va_A w0 sz) U U.heap)) := fun a U g mk q => by
  obtain ⟨q0, q1, qP, qK, qD, qN, qZ⟩ := q
  exact ⟨q0, q1, qP, va_K.moved (u := U) (U := U.calling g mk a) (Vm.Alike.refl U.vm) qK, qD, NWp.same (s := U) (U := U.calling g mk a) rfl qN, va_Z.moved (u := U) (U := U.calling g mk a) (Vm.Alike.refl U.vm) qZ⟩
theorem KN.ret (C : CallFix p m c cc nL s args gT own) (hr : meth.sig.returnType = none) (hlk : meth.locks = false) (hK : va_K D vwCl (tyG cA) s) (hA : A0 = va_A w0 s.heap.size) (hS : va_S A0 s.heap H locs) (q : Nat → Nat) (h0 : q 0 = a) (hE : E q) (hP : va_P D vwCl (Wx q) H) (hD : va_D A0 (Wx q)) (hdg : decode cc pc = .ok (.return_, 1)) : W p l e R s m args below meth c H locs cells slots (MQ below (QN D cA a E Wx w0 s.heap.size) args s cells slots A0) (F0 m pc ls []) := by
  subst hA
  exact W.vret C.1 C.2.1 hr (fun t ht hW => ⟨rfl, ⟨q, h0, hE, by rw [ht]; exact hP, hD⟩, va_K.moved hW.alike hK, hS.F ht⟩) hS.2.2 hdg hlk
theorem cNN_go {st0 : List Value} {a9 : Array Value} (hr : va_Run p l e R s m args below meth c H locs cells slots mc ms (F0 m pc ls st0) rest (QN D cA b E Wx w0 H.size a9) (va_A w0 H.size)) (hP : va_P D vwCl (wr ++ w0) H) (hD : va_D A0 (wr ++ w0)) (hA : ∀ q : Nat, s.heap.size ≤ q → A0 q) (hS : va_S A0 s.heap H locs)
    (kk : ∀ (q : Nat → Nat) (H1 : Heap) (locs1 : List Loc), q 0 = b → E q → va_P D vwCl (wr ++ Wx q) H1 → va_D A0 (wr ++ Wx q) → va_S A0 s.heap H1 locs1 → W p l e R s m args below meth c H1 locs1 (cells + mc) (slots + ms) Q (F0 m (pc + 3) ls rest)) : W p l e R s m args below meth c H locs cells slots Q (F0 m pc ls st0) := by
  have hF : ∀ q, va_A w0 H.size q → A0 q := hF_of (H0 := s.heap) hD.app_r hA hS
  intro T hT X
  obtain ⟨v, st₀, t, T', L, h0, X', hL, e1, e2, ⟨hv, ⟨q, hq0, hE, hp, hd⟩, hk, hz, hq⟩, st⟩ := hr T hT X
  cases hv
  rw [h0] at hz hq
  have hj := join_r (H1 := T'.heap) hP hD (fun q h1 h2 => by rw [e1]; exact hq q h1 h2) hF (by rw [e1]; exact hp) hd
  obtain ⟨t2, a1, b1⟩ := kk q T'.heap (locs ++ L) hq0 hE hj.1 hj.2
    ⟨Nat.le_trans hS.1 (by rw [e1]; exact hz), fun q h1 h2 => by rw [e1, hq q (Nat.lt_of_lt_of_le h1 hS.1) (fun z => h2 (hF q z))]; exact hS.2.1 q h1 h2, fun q hq' => by
      rcases List.mem_append.mp hq' with h | h
      · exact hS.2.2 q h
      · exact hF _ (hL q h)⟩ T' rfl X'
  exact ⟨t2, st t2 a1, b1⟩
theorem preN (hP : va_P D vwCl (wr ++ w0) H) (hD : va_D A0 (wr ++ w0)) (hA : ∀ q : Nat, s.heap.size ≤ q → A0 q) (hS : va_S A0 s.heap H locs) (hK : va_K D vwCl (tyG cA) s) (hN : NWp s) (hZ : CZ A0 s s.heap) : PreS s H (va_Pc (.ref b :: As) (fun U => U.heap.size = H.size ∧ va_P D vwCl w0 U.heap ∧ va_K D vwCl (tyG cA) U ∧ va_D (fun _ => True) w0 ∧ NWp U ∧ CZ (va_A w0 H.size) U U.heap)) (.ref b :: As) :=
  ⟨KN.blind, fun U hU hW => ⟨rfl, by rw [hU], by rw [hU]; exact hP.app_r, va_K.moved hW.alike hK, hD.app_r.weaken (fun _ _ _ _ => trivial), hN.warm hW, by
    rw [hU]
    exact va_Z.moved hW.alike ((va_Z.kept hZ hS.2.1).narrow (hF_of (H0 := s.heap) hD.app_r hA hS))⟩⟩
theorem callNI (C : CallFix p m c cc nL s args gT own) (hK : va_K D vwCl (tyG cA) s) (hP : va_P D vwCl (wr ++ w0) H) (hD : va_D A0 (wr ++ w0)) (hA : ∀ q : Nat, s.heap.size ≤ q → A0 q) (hS : va_S A0 s.heap H locs) (hN : NWp s) (hZ : CZ A0 s s.heap) (h : CI own idx y bytes maxL k) (hl : lv_has ls nL lvs) (hM : KN l D cA y bytes maxL fr lo mc ms b As w0 E Wx) (hR : (Nat.ble (fr + 1) R.frames && Nat.ble (8 + (maxL + 11) + lo) R.locals) = true) (hn : As.length = k) {st : List Value} (hst : st = As.reverse ++ .ref b :: rest) (hW : (rest.map fun v => v.category).sum ≤ 8) (hf : cells + mc ≤ R.cells ∧ slots + ms ≤ R.slots) (hdg : decode cc pc = .ok (.invokespecial idx, 3))
    (kk : ∀ (q : Nat → Nat) (H1 : Heap) (locs1 : List Loc), q 0 = b → E q → va_P D vwCl (wr ++ Wx q) H1 → va_D A0 (wr ++ Wx q) → va_S A0 s.heap H1 locs1 → W p l e R s m args below meth c H1 locs1 (cells + mc) (slots + ms) Q (F0 m (pc + 3) ls rest)) : W p l e R s m args below meth c H locs cells slots Q (F0 m pc ls st) := by
  have hR' := (Bool.and_eq_true _ _).mp hR
  obtain ⟨h1, h2, h3, h4, h5, h6, h7, h8⟩ := h
  exact cNN_go (va_runI (b := b) (As := As) (rest := rest) (g := F0 m pc ls st) C (hM H.size) (cwI (ws' := gT) k C.2.2.2.2 (gT_c h4) rfl rfl rfl (C.2.2.2.2 _ h3) (C.2.2.2.2 _ h1) (C.2.2.2.2 _ h2) h8 ⟨h5, h6, h7⟩ ⟨Nat.le_of_ble_eq_true hR'.1, Nat.le_of_ble_eq_true hR'.2⟩) (preN hP hD hA hS hK hN hZ) rfl hn hl.1 hst (lv_room hW) hdg hf) hP hD hA hS kk
theorem callNN {host : String} (C : CallFix p m c cc nL s args gT own) (hK : va_K D vwCl (tyG cA) s) (hP : va_P D vwCl (wr ++ w0) H) (hD : va_D A0 (wr ++ w0)) (hA : ∀ q : Nat, s.heap.size ≤ q → A0 q) (hS : va_S A0 s.heap H locs) (hN : NWp s) (hZ : CZ A0 s s.heap) (hnl : va_Nw (.methodLinkNest own idx y host) s) (h : CIN y bytes maxL k) (hl : lv_has ls nL lvs) (hM : KN l D cA y bytes maxL fr lo mc ms b As w0 E Wx) (hR : (Nat.ble (fr + 1) R.frames && Nat.ble (8 + (maxL + 11) + lo) R.locals) = true) (hn : As.length = k) {st : List Value} (hst : st = As.reverse ++ .ref b :: rest) (hW : (rest.map fun v => v.category).sum ≤ 8) (hf : cells + mc ≤ R.cells ∧ slots + ms ≤ R.slots) (hdg : decode cc pc = .ok (.invokespecial idx, 3))
    (kk : ∀ (q : Nat → Nat) (H1 : Heap) (locs1 : List Loc), q 0 = b → E q → va_P D vwCl (wr ++ Wx q) H1 → va_D A0 (wr ++ Wx q) → va_S A0 s.heap H1 locs1 → W p l e R s m args below meth c H1 locs1 (cells + mc) (slots + ms) Q (F0 m (pc + 3) ls rest)) : W p l e R s m args below meth c H locs cells slots Q (F0 m pc ls st) := by
  have hR' := (Bool.and_eq_true _ _).mp hR
  obtain ⟨h2, h3, h4, h5, h6, h7, h8⟩ := h
  exact cNN_go (va_runIN (b := b) (As := As) (rest := rest) (g := F0 m pc ls st) C (hM H.size) ⟨va_cnB (ws' := gT) k C.2.2.2.2 (gT_c h4) rfl rfl rfl hnl (C.2.2.2.2 _ h3) ⟨h5, h6, h7⟩ ⟨Nat.le_of_ble_eq_true hR'.1, Nat.le_of_ble_eq_true hR'.2⟩, h8, C.2.2.2.2 _ h2⟩ (preN hP hD hA hS hK hN hZ) rfl hn hl.1 hst (lv_room hW) hdg hf) hP hD hA hS kk
/-- new rows -/
theorem nwA {aty : ArrayType} {ty : FieldType} (i : Nat) (hi : (tyG cA)[i]? = some (cA i, ty)) (hnr : va_RA s (cA i) ty → s.vm.findClass ("[" ++ ty.toString) = some (cA i)) (hnr2 : ∀ cB, va_RA s cB ty → s.vm.findClass ("[" ++ ty.toString) = some cB) (C : CallFix p m c cc nL s args gT own) (hw : Cond.arrayClass ty ∈ gT) (hty : newarray.typeOf aty = ty) (hK : va_K D vwCl (tyG cA) s) (hP : va_P D vwCl wr H) (hD : va_D A0 wr) (hS : va_S A0 s.heap H locs) (hA : ∀ q : Nat, s.heap.size ≤ q → A0 q) {n : Int32} {N' : Nat} (hdv : defaultValue ty = .int 0) (hn : ¬ n < 0) (hN : n.toNatClampNeg = N') (hbytes : N' * componentBytes ty ≤ 536870912) (hcells : cells + 1 ≤ R.cells) (hslots : slots + N' ≤ R.slots) (hdg : decode cc pc = .ok (.newarray aty, 2))
    (kk : ∀ (q : Nat) (H1 : Heap), va_P D vwCl (wr ++ [(q, .inl (cA i, N', .inl fun _ => 0))]) H1 → va_D A0 (wr ++ [(q, .inl (cA i, N', .inl fun _ => 0))]) → va_S A0 s.heap H1 locs → W p l e R s m args below meth c H1 locs (cells + 1) (slots + N') Q (F0 m (pc + 2) ls (.ref q :: rest))) : W p l e R s m args below meth c H locs cells slots Q (F0 m pc ls (.int n :: rest)) := by
  refine va_newa (atype := aty) (ty := ty) C.1 C.2.1 (by rw [hty]; exact C.2.2.2.2 _ hw) hty hK hP hD hS hA (N' := N') (a0 := (N', .inl fun _ => 0)) (fun _ => by rw [vp_cell_i, hdv]) hn hN hbytes hcells hslots hdg (fun q cB H1 hK1 hP1 hD1 hS1 => ?_)
  have hcB : cB = cA i := by
    have h1 := hnr2 cB (hK1.2 5 (cB, ty) rfl).2
    have h2 := hnr (hK.2 i (cA i, ty) hi).2
    exact Option.some.inj (h1.symm.trans h2)
  subst hcB
  exact kk q H1 hP1 hD1 hS1
theorem nwQ {Cn : String} (i : Nat) (hi : (tyG cA)[i]? = some (cA i, .object Cn)) (C : CallFix p m c cc nL s args gT own) (hcl : Cond.classLink own idx Cn ∈ gT) (hao : va_AO Cn s) (hK : va_K D vwCl (tyG cA) s) (hP : va_P D vwCl wr H) (hD : va_D A0 wr) (hS : va_S A0 s.heap H locs) (hA : ∀ q : Nat, s.heap.size ≤ q → A0 q) {n : Int32} {N' : Nat} (hn : ¬ n < 0) (hN : n.toNatClampNeg = N') (hbytes : N' * 4 ≤ 536870912) (hcells : cells + 1 ≤ R.cells) (hslots : slots + N' ≤ R.slots) (hdg : decode cc pc = .ok (.anewarray idx, 3))
    (kk : ∀ (q : Nat) (H1 : Heap), va_P D vwCl (wr ++ [(q, .inl (cA i, N', .inr (.inr (.inr (.inr (fun _ => none))))))]) H1 → va_D A0 (wr ++ [(q, .inl (cA i, N', .inr (.inr (.inr (.inr (fun _ => none))))))]) → va_S A0 s.heap H1 locs → W p l e R s m args below meth c H1 locs (cells + 1) (slots + N') Q (F0 m (pc + 3) ls (.ref q :: rest))) : W p l e R s m args below meth c H locs cells slots Q (F0 m pc ls (.int n :: rest)) := by
  refine va_newq C.1 C.2.1 C.2.2.2.1 (C.2.2.2.2 _ hcl) hao hK hP hD hS hA hn hN hbytes hcells hslots hdg (fun q cB H1 hK1 hP1 hD1 hS1 => ?_)
  have hcB : cB = cA i := by
    obtain ⟨-, -, -, -, -, h1⟩ := (hK1.2 5 (cB, .object Cn) rfl).2
    obtain ⟨-, -, -, -, -, h2⟩ := (hK.2 i (cA i, .object Cn) hi).2
    exact Option.some.inj (h1.symm.trans h2)
  subst hcB
  exact kk q H1 hP1 hD1 hS1
end B8
