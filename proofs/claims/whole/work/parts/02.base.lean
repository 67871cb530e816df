/-! the words of all methods: one list, the tables' -/
def xPriv1 : MethodName := ⟨"java/lang/AbstractStringBuilder", "ensureCapacityInternal", "(I)V"⟩
def xPriv2 : MethodName := ⟨"java/lang/AbstractStringBuilder", "newCapacity", "(I)I"⟩
/-- words that follow: a StringBuilder's private methods of its superclass -/
def xSel : List Cond := [.selects "java/lang/StringBuilder" xPriv1 xPriv1, .selects "java/lang/StringBuilder" xPriv2 xPriv2]
def gT : List Cond := xSel ++ lw_tbl.filter goodWord
theorem gT_good : ∀ w ∈ gT, goodWord w = true := fun w h => (List.mem_append.mp h).elim (fun h => by
  simp only [xSel, List.mem_cons, List.not_mem_nil, or_false] at h
  rcases h with rfl | rfl <;> rfl) (fun h => (List.mem_filter.mp h).2)
theorem gT_f {w : Cond} (h : w ∈ lw_tbl) (hg : goodWord w = true) : w ∈ gT := List.mem_append_right _ (List.mem_filter.mpr ⟨h, hg⟩)
theorem gT_i {w : Cond} (i : Nat) (h : lw_tbl[i]? = some w) (hg : goodWord w = true) : w ∈ gT := gT_f (List.mem_of_getElem? h) hg
theorem gT_x {w : Cond} (i : Nat) (h : xSel[i]? = some w) : w ∈ gT := List.mem_append_left _ (List.mem_of_getElem? h)
theorem gT_c {d : Cond} (hd : d ∈ gT) : GoodIn gT (d :: gT) := fun w hw => by
  rcases List.mem_cons.mp hw with h | h
  · subst h; exact ⟨hd, good_of_word (gT_good _ hd)⟩
  · exact ⟨h, good_of_word (gT_good _ h)⟩
theorem gT_app {ws : List Cond} {d : Cond} (hd : d ∈ gT) (h : ∀ w ∈ ws, w ∈ gT) : GoodIn gT (ws ++ (d :: gT)) := fun w hw => by
  rcases List.mem_append.mp hw with h1 | h1
  · exact ⟨h w h1, good_of_word (gT_good _ (h w h1))⟩
  · exact gT_c hd w h1
def rmk (fr lo : Nat) : Room := { frames := fr, cells := 0, slots := 0, locals := lo }
/-- what a call of y needs of the tables: virtual -/
def CV (own : String) (idx : Nat) (y : MethodName) (b : ByteArray) (n : Nat) (r : Option FieldType) (k : Nat) : Prop := Cond.methodLink own idx y ∈ gT ∧ Cond.instanceMethod y ∈ gT ∧ Cond.selects y.cls y y ∈ gT ∧ Cond.initialized y.cls ∈ gT ∧ Cond.code y b n r ∈ gT ∧ y.cls ≠ "java/lang/invoke/MethodHandle" ∧ y.cls ≠ "java/lang/invoke/VarHandle" ∧ (parseMethodDescriptor y.desc).map (fun d => d.parameters.length) = some k
/-- static -/
def CS (own : String) (idx : Nat) (y : MethodName) (b : ByteArray) (n : Nat) (r : Option FieldType) (k : Nat) : Prop := Cond.methodLink own idx y ∈ gT ∧ Cond.static y ∈ gT ∧ Cond.initialized y.cls ∈ gT ∧ Cond.code y b n r ∈ gT ∧ y.cls ≠ "java/lang/invoke/MethodHandle" ∧ y.cls ≠ "java/lang/invoke/VarHandle" ∧ (parseMethodDescriptor y.desc).map (fun d => d.parameters.length) = some k
/-- a method that reads alone: its answer is r, the heap stays -/
def KR (l : Launch) (D : va_G) (tys : List (ClassId × FieldType)) (y : MethodName) (cc : ByteArray) (maxL : Nat) (ret : Option FieldType) (rm : Room) (w : va_W) (av : List Value) (r : Int32) : Prop :=
  Met l y (Cond.code y cc maxL ret :: gT) rm (va_Pc av (fun U => va_P D vwCl w U.heap ∧ va_K D vwCl tys U)) (QcRead r) 0 0 (fun _ => False)
def QW (ro : Option Value) (D : va_G) (tys : List (ClassId × FieldType)) (w w' : va_W) (sz : Nat) : Array Value → State → Outcome → State → Prop := fun _ st oc t => oc = .returned ro ∧ va_P D vwCl w' t.heap ∧ va_K D vwCl tys t ∧ va_D (va_A w sz) w' ∧ va_F (va_A w sz) st t
/-- a method that writes its world's cells, and makes none -/
def KW (l : Launch) (D : va_G) (tys : List (ClassId × FieldType)) (y : MethodName) (cc : ByteArray) (maxL : Nat) (ret : Option FieldType) (rm : Room) (w : va_W) (av : List Value) (ro : Option Value) (w' : va_W) : Prop :=
  ∀ sz : Nat, Met l y (Cond.code y cc maxL ret :: gT) rm (va_Pc av (fun U => U.heap.size = sz ∧ va_P D vwCl w U.heap ∧ va_K D vwCl tys U ∧ va_D (fun _ => True) w)) (QW ro D tys w w' sz) 0 0 (va_A w sz)
section B2
variable {p : Program} {l : Launch} {e : Env} {R : Room} {s : State} {m : MethodId} {args : Array Value} {below : List Frame} {meth : Method} {c : Code} {H : Heap} {locs : List Loc} {cells slots : Nat} {Q : State → Prop}
variable {D : va_G} {tys : List (ClassId × FieldType)} {y : MethodName} {cc bytes : ByteArray} {maxL nL fr lo pc idx k : Nat} {ret : Option FieldType} {w w' : va_W} {av As rest : List Value} {r : Int32} {ro : Option Value} {own : String} {lvs : List (Nat × Value)} {a9 : Array Value} {ls : Array Slot} {b : Nat} {A0 : Nat → Prop} {H0 : Heap}
theorem KR.of (hy : plainName y.cls = true) (hlen : (lg_sl av).length ≤ maxL)
    (h : ∀ (p : Program) (e : Env) (s : State) (m : MethodId) (below : List Frame) (meth : Method) (c : Code), CallFix p m c cc maxL s av.toArray gT y.cls → meth.sig.returnType = ret → meth.locks = false → va_K D vwCl tys s → va_P D vwCl w s.heap → ∀ ls : Array Slot, lv_has ls maxL (lv_args 0 av) →
      W p l e (rmk fr lo) s m av.toArray below meth c s.heap [] 0 0 (MQ below (QcRead r) av.toArray s 0 0 (fun _ => False)) (F0 m 0 ls [])) : KR l D tys y cc maxL ret (rmk fr lo) w av r := by
  refine Met.ofW (cc := cc) (maxL := maxL) (ret := ret) hy rfl ?_
  intro p e s m args below meth c s₁ B hml hv
  obtain ⟨rfl, hP, hK⟩ := hv
  have hts := atoms_spec (ws := Cond.code y cc maxL ret :: gT) B.pre
  rw [lg_entry_eq]
  exact h p e s m below meth c ⟨B.exec, B.bytes, hml, findClass_of_methodNamed B.named, fun w hw => hts w (List.mem_cons_of_mem _ hw)⟩ B.returns B.notSynchronized hK hP _ (lv_entry av hlen)
theorem KW.of (hy : plainName y.cls = true) (hlen : (lg_sl av).length ≤ maxL)
    (h : ∀ (p : Program) (e : Env) (s : State) (m : MethodId) (below : List Frame) (meth : Method) (c : Code) (A : Nat → Prop), A = va_A w s.heap.size → (∀ q : Nat, s.heap.size ≤ q → A q) → CallFix p m c cc maxL s av.toArray gT y.cls → meth.sig.returnType = ret → meth.locks = false → va_K D vwCl tys s → va_P D vwCl w s.heap → va_D A w → va_S A s.heap s.heap [] → ∀ ls : Array Slot, lv_has ls maxL (lv_args 0 av) →
      W p l e (rmk fr lo) s m av.toArray below meth c s.heap [] 0 0 (MQ below (QW ro D tys w w' s.heap.size) av.toArray s 0 0 A) (F0 m 0 ls [])) : KW l D tys y cc maxL ret (rmk fr lo) w av ro w' := by
  intro sz
  refine Met.ofW (cc := cc) (maxL := maxL) (ret := ret) hy rfl ?_
  intro p e s m args below meth c s₁ B hml hv
  obtain ⟨rfl, rfl, hP, hK, hD0⟩ := hv
  have hts := atoms_spec (ws := Cond.code y cc maxL ret :: gT) B.pre
  rw [lg_entry_eq]
  exact h p e s m below meth c _ rfl (fun q hq => Or.inr hq) ⟨B.exec, B.bytes, hml, findClass_of_methodNamed B.named, fun w hw => hts w (List.mem_cons_of_mem _ hw)⟩ B.returns B.notSynchronized hK hP hD0.self va_S.rf _ (lv_entry av hlen)
theorem KR.blind : FrameBlind (va_Pc av (fun U => va_P D vwCl w U.heap ∧ va_K D vwCl tys U)) := fun a U g mk q => by
  obtain ⟨q0, qP, qK⟩ := q
  exact ⟨q0, qP, va_K.moved (u := U) (U := U.calling g mk a) (Vm.Alike.refl U.vm) qK⟩
theorem KW.blind {sz : Nat} : FrameBlind (va_Pc av (fun U => U.heap.size = sz ∧ va_P D vwCl w U.heap ∧ va_K D vwCl tys U ∧ va_D (fun _ => True) w)) := fun a U g mk q => by
  obtain ⟨q0, q1, qP, qK, qD⟩ := q
  exact ⟨q0, q1, qP, va_K.moved (u := U) (U := U.calling g mk a) (Vm.Alike.refl U.vm) qK, qD⟩
theorem KR.iret (C : CallFix p m c cc nL s args gT own) (hr : meth.sig.returnType = some .int) (hlk : meth.locks = false) {r' : Int32} (he : r' = r) (hdg : decode cc pc = .ok (.ireturn, 1)) : W p l e R s m args below meth c s.heap [] 0 0 (MQ below (QcRead r) args s 0 0 (fun _ => False)) (F0 m pc ls [.int r']) := by
  subst he
  exact W.iret C.1 C.2.1 hr (fun t ht _ => ⟨rfl, ht⟩) (fun q hq => by cases hq) hdg hlk
theorem nar_z {v : Int32} (h : v = 0 ∨ v = 1) : narrow .boolean (.int v) = .int v := by
  rcases h with rfl | rfl
  · exact narrow_b0
  · exact narrow_b1
theorem fit_z {v : Int32} (h : v = 0 ∨ v = 1) : fits .boolean (.int v) = true := by
  rcases h with rfl | rfl <;> rfl
theorem vp_nar_z {v : Int32} (h : v = 0 ∨ v = 1) : vp_nar .boolean v = v := by
  unfold vp_nar
  rw [nar_z h]
theorem KR.zret (C : CallFix p m c cc nL s args gT own) (hr : meth.sig.returnType = some .boolean) (hlk : meth.locks = false) {r' : Int32} (hz : r' = 0 ∨ r' = 1) (he : r' = r) (hdg : decode cc pc = .ok (.ireturn, 1)) : W p l e R s m args below meth c s.heap [] 0 0 (MQ below (QcRead r) args s 0 0 (fun _ => False)) (F0 m pc ls [.int r']) := by
  subst he
  exact W.zret C.1 C.2.1 hr (nar_z hz) (fun t ht _ => ⟨rfl, ht⟩) (fun q hq => by cases hq) hdg hlk
/-- the end of a method that writes -/
theorem KW.q (hK : va_K D vwCl tys s) (hP : va_P D vwCl w' H) (hD : va_D A0 w') (hS : va_S A0 s.heap H locs) (hA : A0 = va_A w s.heap.size) : ∀ t : State, t.heap = H → s.WarmedH t.vm → QW ro D tys w w' s.heap.size args s (.returned ro) t := fun t ht hW => by
  subst hA
  exact ⟨rfl, by rw [ht]; exact hP, va_K.moved hW.alike hK, hD, hS.F ht⟩
theorem KW.iret (C : CallFix p m c cc nL s args gT own) (hr : meth.sig.returnType = some .int) (hlk : meth.locks = false) (hK : va_K D vwCl tys s) (hA : A0 = va_A w s.heap.size) (hP : va_P D vwCl w' H) (hD : va_D A0 w') (hS : va_S A0 s.heap H locs) {r' : Int32} (he : ro = some (.int r')) (hdg : decode cc pc = .ok (.ireturn, 1)) : W p l e R s m args below meth c H locs 0 0 (MQ below (QW ro D tys w w' s.heap.size) args s 0 0 A0) (F0 m pc ls [.int r']) := by
  subst he
  exact W.iret C.1 C.2.1 hr (KW.q hK hP hD hS hA) hS.2.2 hdg hlk
theorem KW.zret (C : CallFix p m c cc nL s args gT own) (hr : meth.sig.returnType = some .boolean) (hlk : meth.locks = false) (hK : va_K D vwCl tys s) (hA : A0 = va_A w s.heap.size) (hP : va_P D vwCl w' H) (hD : va_D A0 w') (hS : va_S A0 s.heap H locs) {r' : Int32} (hz : r' = 0 ∨ r' = 1) (he : ro = some (.int r')) (hdg : decode cc pc = .ok (.ireturn, 1)) : W p l e R s m args below meth c H locs 0 0 (MQ below (QW ro D tys w w' s.heap.size) args s 0 0 A0) (F0 m pc ls [.int r']) := by
  subst he
  exact W.zret C.1 C.2.1 hr (nar_z hz) (KW.q hK hP hD hS hA) hS.2.2 hdg hlk
theorem KW.lret (C : CallFix p m c cc nL s args gT own) (hr : meth.sig.returnType = some .long) (hlk : meth.locks = false) (hK : va_K D vwCl tys s) (hA : A0 = va_A w s.heap.size) (hP : va_P D vwCl w' H) (hD : va_D A0 w') (hS : va_S A0 s.heap H locs) {r' : Int64} (he : ro = some (.long r')) (hdg : decode cc pc = .ok (.lreturn, 1)) : W p l e R s m args below meth c H locs 0 0 (MQ below (QW ro D tys w w' s.heap.size) args s 0 0 A0) (F0 m pc ls [.long r']) := by
  subst he
  exact W.lret C.1 C.2.1 hr (KW.q hK hP hD hS hA) hS.2.2 hdg hlk
theorem KW.vret (C : CallFix p m c cc nL s args gT own) (hr : meth.sig.returnType = none) (hlk : meth.locks = false) (hK : va_K D vwCl tys s) (hA : A0 = va_A w s.heap.size) (hP : va_P D vwCl w' H) (hD : va_D A0 w') (hS : va_S A0 s.heap H locs) (he : ro = none) (hdg : decode cc pc = .ok (.return_, 1)) : W p l e R s m args below meth c H locs 0 0 (MQ below (QW ro D tys w w' s.heap.size) args s 0 0 A0) (F0 m pc ls []) := by
  subst he
  exact W.vret C.1 C.2.1 hr (KW.q hK hP hD hS hA) hS.2.2 hdg hlk
theorem CV.cw (C : CallFix p m c cc nL s args gT own) (h : CV own idx y bytes maxL ret k) (hR : fr + 1 ≤ R.frames ∧ 8 + (maxL + 11) + lo ≤ R.locals) : CallW R s args own y.cls idx y bytes maxL ret (Cond.code y bytes maxL ret :: gT) (rmk fr lo) 0 0 k := by
  obtain ⟨h1, h2, h3, h4, h5, h6, h7, h8⟩ := h
  refine cwV (ws' := gT) k C.2.2.2.2 (gT_app h5 ?_) rfl rfl rfl ⟨rfl, h6, h7, h8⟩ hR
  intro w hw
  simp only [List.mem_cons, List.not_mem_nil, or_false] at hw
  rcases hw with rfl | rfl | rfl | rfl <;> assumption
theorem CS.cw (C : CallFix p m c cc nL s args gT own) (h : CS own idx y bytes maxL ret k) (hR : fr + 1 ≤ R.frames ∧ 8 + (maxL + 11) + lo ≤ R.locals) : CallB R s args own idx y bytes maxL ret (Cond.code y bytes maxL ret :: gT) (rmk fr lo) 0 0 k ∧ (Cond.static y).before args s = true := by
  obtain ⟨h1, h2, h3, h5, h6, h7, h8⟩ := h
  exact ⟨callB_of (ws' := gT) k C.2.2.2.2 (gT_c h5) rfl rfl rfl (C.2.2.2.2 _ h3) (C.2.2.2.2 _ h1) ⟨h6, h7, h8⟩ hR, C.2.2.2.2 _ h2⟩
/-- a call of a reading method: virtual, static -/
theorem callRV (C : CallFix p m c cc nL s args gT own) (hK : va_K D vwCl tys s) (hP : va_P D vwCl w H) (h : CV own idx y bytes maxL ret k) (hl : lv_has ls nL lvs) (hM : KR l D tys y bytes maxL ret (rmk fr lo) w (.ref b :: As) r) (hrc : ∃ cell : Cell, H[b]? = some cell ∧ cell.vm.isStatics = false ∧ s.vm.findClass y.cls = some cell.cls) (hR : (Nat.ble (fr + 1) R.frames && Nat.ble (8 + (maxL + 11) + lo) R.locals) = true) (hn : As.length = k) {st : List Value} (hst : st = As.reverse ++ .ref b :: rest) (hW : (rest.map fun v => v.category).sum ≤ 8) (hf : cells ≤ R.cells ∧ slots ≤ R.slots) (hdg : decode cc pc = .ok (.invokevirtual idx, 3))
    (kk : W p l e R s m args below meth c H locs cells slots Q (F0 m (pc + 3) ls (.int r :: rest))) : W p l e R s m args below meth c H locs cells slots Q (F0 m pc ls st) := by
  have hR' := (Bool.and_eq_true _ _).mp hR
  exact W.callR (g := F0 m pc ls st) (rest := rest) (W.runV (b := b) (As := As) (rest := rest) (g := F0 m pc ls st) C hM (h.cw C ⟨Nat.le_of_ble_eq_true hR'.1, Nat.le_of_ble_eq_true hR'.2⟩) ⟨KR.blind, hrc, fun U hU hW => ⟨rfl, by rw [hU]; exact hP, va_K.moved hW.alike hK⟩⟩ rfl hn hl.1 hst (lv_room hW) hdg hf) kk
theorem callRS (C : CallFix p m c cc nL s args gT own) (hK : va_K D vwCl tys s) (hP : va_P D vwCl w H) (h : CS own idx y bytes maxL ret k) (hl : lv_has ls nL lvs) (hM : KR l D tys y bytes maxL ret (rmk fr lo) w As r) (hR : (Nat.ble (fr + 1) R.frames && Nat.ble (8 + (maxL + 11) + lo) R.locals) = true) (hn : As.length = k) {st : List Value} (hst : st = As.reverse ++ rest) (hW : (rest.map fun v => v.category).sum ≤ 8) (hf : cells ≤ R.cells ∧ slots ≤ R.slots) (hdg : decode cc pc = .ok (.invokestatic idx, 3))
    (kk : W p l e R s m args below meth c H locs cells slots Q (F0 m (pc + 3) ls (.int r :: rest))) : W p l e R s m args below meth c H locs cells slots Q (F0 m pc ls st) := by
  have hR' := (Bool.and_eq_true _ _).mp hR
  exact W.callR (g := F0 m pc ls st) (rest := rest) (W.runS (As := As) (rest := rest) (g := F0 m pc ls st) C hM (h.cw C ⟨Nat.le_of_ble_eq_true hR'.1, Nat.le_of_ble_eq_true hR'.2⟩) ⟨KR.blind, fun U hU hW => ⟨rfl, by rw [hU]; exact hP, va_K.moved hW.alike hK⟩⟩ rfl hn hl.1 hst (lv_room hW) hdg hf) kk
theorem cW_go {mc ms : Nat} {st0 : List Value} (hr : va_Run p l e R s m args below meth c H locs cells slots mc ms (F0 m pc ls st0) rest (QW ro D tys w w' H.size a9) (va_A w H.size)) (hD : va_D A0 w) (hA : ∀ q : Nat, H0.size ≤ q → A0 q) (hS : va_S A0 H0 H locs)
    (kk : ∀ (H1 : Heap) (locs1 : List Loc), va_P D vwCl w' H1 → va_D A0 w' → va_S A0 H0 H1 locs1 → W p l e R s m args below meth c H1 locs1 (cells + mc) (slots + ms) Q (F0 m (pc + 3) ls (ro.toList ++ rest))) : W p l e R s m args below meth c H locs cells slots Q (F0 m pc ls st0) := by
  have hF : ∀ q, va_A w H.size q → A0 q := fun q h => by
    rcases h with ⟨k, e, h⟩ | h
    · exact hD.2 k (q, e) h
    · exact hA q (Nat.le_trans hS.1 h)
  intro T hT X
  obtain ⟨v, st₀, t, T', L, h0, X', hL, e1, e2, ⟨hv, hp, hk, hd, hz, hq⟩, st⟩ := hr T hT X
  cases hv
  rw [h0] at hz hq
  obtain ⟨t2, a1, b1⟩ := kk T'.heap (locs ++ L) (by rw [e1]; exact hp) (hd.weaken (fun k q _ h => hF q.1 h))
    ⟨Nat.le_trans hS.1 (by rw [e1]; exact hz), fun q h1 h2 => by rw [e1, hq q (Nat.lt_of_lt_of_le h1 hS.1) (fun z => h2 (hF q z))]; exact hS.2.1 q h1 h2, fun q hq' => by
      rcases List.mem_append.mp hq' with h | h
      · exact hS.2.2 q h
      · exact hF _ (hL q h)⟩ T' rfl X'
  exact ⟨t2, st t2 a1, b1⟩
theorem callWV (C : CallFix p m c cc nL s args gT own) (hK : va_K D vwCl tys s) (hP : va_P D vwCl w H) (hD : va_D A0 w) (hA : ∀ q : Nat, s.heap.size ≤ q → A0 q) (hS : va_S A0 s.heap H locs) (h : CV own idx y bytes maxL ret k) (hl : lv_has ls nL lvs) (hM : KW l D tys y bytes maxL ret (rmk fr lo) w (.ref b :: As) ro w') (hrc : ∃ cell : Cell, H[b]? = some cell ∧ cell.vm.isStatics = false ∧ s.vm.findClass y.cls = some cell.cls) (hR : (Nat.ble (fr + 1) R.frames && Nat.ble (8 + (maxL + 11) + lo) R.locals) = true) (hn : As.length = k) {st : List Value} (hst : st = As.reverse ++ .ref b :: rest) (hW : (rest.map fun v => v.category).sum ≤ 8) (hf : cells ≤ R.cells ∧ slots ≤ R.slots) (hdg : decode cc pc = .ok (.invokevirtual idx, 3))
    (kk : ∀ (H1 : Heap) (locs1 : List Loc), va_P D vwCl w' H1 → va_D A0 w' → va_S A0 s.heap H1 locs1 → W p l e R s m args below meth c H1 locs1 cells slots Q (F0 m (pc + 3) ls (ro.toList ++ rest))) : W p l e R s m args below meth c H locs cells slots Q (F0 m pc ls st) := by
  have hR' := (Bool.and_eq_true _ _).mp hR
  exact cW_go (va_runV (b := b) (As := As) (rest := rest) (g := F0 m pc ls st) C (hM H.size) (h.cw C ⟨Nat.le_of_ble_eq_true hR'.1, Nat.le_of_ble_eq_true hR'.2⟩) ⟨KW.blind, hrc, fun U hU hW => ⟨rfl, by rw [hU], by rw [hU]; exact hP, va_K.moved hW.alike hK, hD.weaken (fun _ _ _ _ => trivial)⟩⟩ rfl hn hl.1 hst (lv_room hW) hdg hf) hD hA hS kk
end B2
/-! pure: guarded steps -/
def gd {α : Type} (P : Prop) [Decidable P] (k : Option α) : Option α := if P then k else none
theorem gd_some {α : Type} {P : Prop} [Decidable P] {k : Option α} {x : α} (h : gd P k = some x) : P ∧ k = some x := by
  unfold gd at h
  by_cases hp : P
  · rw [if_pos hp] at h; exact ⟨hp, h⟩
  · rw [if_neg hp] at h; cases h
def bd {α β : Type} (a : Option α) (k : α → Option β) : Option β := match a with
  | none => none
  | some x => k x
theorem bd_some {α β : Type} {a : Option α} {k : α → Option β} {y : β} (h : bd a k = some y) : ∃ x, a = some x ∧ k x = some y := by
  cases a with
  | none => cases h
  | some x => exact ⟨x, rfl, h⟩
theorem br_p {α : Type} {P : Prop} [Decidable P] {a b : Option α} {x : α} (hp : P) (h : (if P then a else b) = some x) : a = some x := by rw [if_pos hp] at h; exact h
theorem br_n {α : Type} {P : Prop} [Decidable P] {a b : Option α} {x : α} (hp : ¬ P) (h : (if P then a else b) = some x) : b = some x := by rw [if_neg hp] at h; exact h
def ix (i : Int32) (n : Nat) : Bool := decide (0 ≤ i) && Nat.blt i.toNatClampNeg n
theorem ix_in {i : Int32} {n : Nat} (h : ix i n = true) : vp_in i n := by
  unfold ix at h
  rw [Bool.and_eq_true, decide_eq_true_eq] at h
  intro q
  have h2 : i.toNatClampNeg < n := by simpa [Nat.blt_eq] using h.2
  rcases q with q | q
  · have h3 := Int32.le_iff_toInt_le.mp h.1
    have h4 := Int32.lt_iff_toInt_lt.mp q
    omega
  · omega
def lpN {α β : Type} (b : (α → Option β) → α → Option β) : Nat → α → Option β
  | 0, _ => none
  | n + 1, a => b (lpN b n) a
