/-! statics and texts that nobody writes -/
def tSX (j : Nat) : Int32 := if j = 1 then 1 else if j = 3 then -1 else 0
def tSY (j : Nat) : Int32 := if j = 0 then -1 else if j = 2 then 1 else 0
def tNW (j : Nat) : Int32 := if j = 0 then 4 else if j = 1 then 6 else if j = 5 then 0 else 1
def sLn (j : Nat) : Nat := ([3, 4, 5, 4, 7, 3] : List Nat).getD j 0
def sBy (j i : Nat) : Int32 := ((([[98, 111, 120], [108, 105, 110, 107], [114, 111, 117, 116, 101], [100, 114, 111, 112], [112, 101, 110, 97, 108, 116, 121], [97, 108, 108]] : List (List Int32)).getD j []).getD i 0)
def SZ (ad : Nat → Nat) (A : Nat → Prop) (U : State) (H : Heap) : Prop :=
  (va_Z "ConnectorRouter$Direction" "STEP_X" "[I" (.ref (ad 50)) A U H ∧ va_T .int (ad 50) 4 (fun j => .int (tSX j)) A U H) ∧
  (va_Z "ConnectorRouter$Direction" "STEP_Y" "[I" (.ref (ad 51)) A U H ∧ va_T .int (ad 51) 4 (fun j => .int (tSY j)) A U H) ∧
  (va_Z "ConnectorRouter$CommandText" "NUMBERS_OF_WORD" "[I" (.ref (ad 52)) A U H ∧ va_T .int (ad 52) 6 (fun j => .int (tNW j)) A U H) ∧
  va_Z "java/lang/String" "COMPACT_STRINGS" "Z" (.int 1) A U H ∧
  (va_Z "java/lang/Integer" "DigitOnes" "[B" (.ref (ad 53)) A U H ∧ va_T .byte (ad 53) 100 (fun j => .int (nI (48 + j % 10))) A U H) ∧
  (va_Z "java/lang/Integer" "DigitTens" "[B" (.ref (ad 54)) A U H ∧ va_T .byte (ad 54) 100 (fun j => .int (nI (48 + j / 10))) A U H) ∧
  va_Zq "jdk/internal/util/Preconditions" "SIOOBE_FORMATTER" "Ljava/util/function/BiFunction;" A U H ∧
  vk_S 6 [3, 4, 5, 4, 7, 3] [[98, 111, 120], [108, 105, 110, 107], [114, 111, 117, 116, 101], [100, 114, 111, 112], [112, 101, 110, 97, 108, 116, 121], [97, 108, 108]] (fun i => ad (60 + i)) (fun i => ad (70 + i)) A U H ∧
  (vk_R "ConnectorRouter$CommandText" 62 "box" (ad 60) U ∧ vk_R "ConnectorRouter$CommandText" 68 "link" (ad 61) U ∧ vk_R "ConnectorRouter$CommandText" 70 "route" (ad 62) U ∧ vk_R "ConnectorRouter$CommandText" 72 "drop" (ad 63) U ∧ vk_R "ConnectorRouter$CommandText" 74 "penalty" (ad 64) U ∧ vk_R "ConnectorRouter$CommandText" 76 "all" (ad 65) U)
theorem SZ.warm {ad : Nat → Nat} {A : Nat → Prop} {s U : State} {H : Heap} (hW : s.WarmedH U.vm) (h : SZ ad A s H) : SZ ad A U H := by
  obtain ⟨⟨a1, a2⟩, ⟨b1, b2⟩, ⟨c1, c2⟩, d1, ⟨e1, e2⟩, ⟨f1, f2⟩, z1, g1, r1, r2, r3, r4, r5, r6⟩ := h
  have q := hW.alike
  exact ⟨⟨a1.moved q, a2.moved q⟩, ⟨b1.moved q, b2.moved q⟩, ⟨c1.moved q, c2.moved q⟩, d1.moved q, ⟨e1.moved q, e2.moved q⟩, ⟨f1.moved q, f2.moved q⟩, z1.moved q, g1.moved q, r1.warm hW, r2.warm hW, r3.warm hW, r4.warm hW, r5.warm hW, r6.warm hW⟩
theorem SZ.same {ad : Nat → Nat} {A : Nat → Prop} {s U : State} {H : Heap} (hv : U.vm = s.vm) (h : SZ ad A s H) : SZ ad A U H := by
  obtain ⟨⟨a1, a2⟩, ⟨b1, b2⟩, ⟨c1, c2⟩, d1, ⟨e1, e2⟩, ⟨f1, f2⟩, z1, g1, r1, r2, r3, r4, r5, r6⟩ := h
  have q : s.vm.Alike U.vm := by rw [hv]; exact Vm.Alike.refl _
  exact ⟨⟨a1.moved q, a2.moved q⟩, ⟨b1.moved q, b2.moved q⟩, ⟨c1.moved q, c2.moved q⟩, d1.moved q, ⟨e1.moved q, e2.moved q⟩, ⟨f1.moved q, f2.moved q⟩, z1.moved q, g1.moved q, r1.same hv, r2.same hv, r3.same hv, r4.same hv, r5.same hv, r6.same hv⟩
theorem SZ.kept {ad : Nat → Nat} {A : Nat → Prop} {U : State} {H H1 : Heap} (h : SZ ad A U H) (q : ∀ a : Nat, a < H.size → ¬ A a → H1[a]? = H[a]?) : SZ ad A U H1 := by
  obtain ⟨⟨a1, a2⟩, ⟨b1, b2⟩, ⟨c1, c2⟩, d1, ⟨e1, e2⟩, ⟨f1, f2⟩, z1, g1, r⟩ := h
  exact ⟨⟨a1.kept q, a2.kept q⟩, ⟨b1.kept q, b2.kept q⟩, ⟨c1.kept q, c2.kept q⟩, d1.kept q, ⟨e1.kept q, e2.kept q⟩, ⟨f1.kept q, f2.kept q⟩, z1.kept q, g1.kept q, r⟩
theorem SZ.narrow {ad : Nat → Nat} {A B : Nat → Prop} {U : State} {H : Heap} (h : SZ ad A U H) (q : ∀ a, B a → A a) : SZ ad B U H := by
  obtain ⟨⟨a1, a2⟩, ⟨b1, b2⟩, ⟨c1, c2⟩, d1, ⟨e1, e2⟩, ⟨f1, f2⟩, z1, g1, r⟩ := h
  exact ⟨⟨a1.narrow q, a2.narrow q⟩, ⟨b1.narrow q, b2.narrow q⟩, ⟨c1.narrow q, c2.narrow q⟩, d1.narrow q, ⟨e1.narrow q, e2.narrow q⟩, ⟨f1.narrow q, f2.narrow q⟩, z1.narrow q, g1.narrow q, r⟩
def NoA : Nat → Prop := fun _ => False
/-- an answer that is a value, the heap stays -/
def QcV (v : Value) : Array Value → State → Outcome → State → Prop := fun _ st o t => o = .returned (some v) ∧ t.heap = st.heap
/-- an answer that is a route or null -/
def QcO (cA : Nat → ClassId) (η : HS) (ov : Option RV) : Array Value → State → Outcome → State → Prop := fun _ st o t => (∃ q : Option Nat, o = .returned (some (va_rf q)) ∧ RelR cA η q ov) ∧ t.heap = st.heap
def KRc (l : Launch) (D : va_G) (cA : Nat → ClassId) (ad : Nat → Nat) (σ : CSt) (η : HS) (y : MethodName) (cc : ByteArray) (maxL : Nat) (ret : Option FieldType) (rm : Room) (av : List Value) (Qv : Array Value → State → Outcome → State → Prop) : Prop :=
  Met l y (Cond.code y cc maxL ret :: gT) rm (va_Pc av (fun U => HC D cA ad σ η U.heap ∧ va_K D vwCl (tyG cA) U ∧ SZ ad NoA U U.heap)) Qv 0 0 NoA
def QC (ro : Option Value) (D : va_G) (cA : Nat → ClassId) (ad : Nat → Nat) (σ : CSt) (η : HS) (σ' : CSt) (sz : Nat) : Array Value → State → Outcome → State → Prop := fun _ st oc t => oc = .returned ro ∧ HC D cA ad σ' η t.heap ∧ va_K D vwCl (tyG cA) t ∧ va_D (va_A (wC cA ad σ η) sz) (wC cA ad σ' η) ∧ va_F (va_A (wC cA ad σ η) sz) st t
/-- a method that writes numbers and rows; addresses stay -/
def KC (l : Launch) (D : va_G) (cA : Nat → ClassId) (ad : Nat → Nat) (σ : CSt) (η : HS) (y : MethodName) (cc : ByteArray) (maxL : Nat) (ret : Option FieldType) (rm : Room) (av : List Value) (ro : Option Value) (σ' : CSt) : Prop :=
  ∀ sz : Nat, Met l y (Cond.code y cc maxL ret :: gT) rm (va_Pc av (fun U => U.heap.size = sz ∧ HC D cA ad σ η U.heap ∧ va_K D vwCl (tyG cA) U ∧ va_D (fun _ => True) (wC cA ad σ η) ∧ SZ ad (va_A (wC cA ad σ η) sz) U U.heap)) (QC ro D cA ad σ η σ' sz) 0 0 (va_A (wC cA ad σ η) sz)
section B5
variable {p : Program} {l : Launch} {e : Env} {R : Room} {s : State} {m : MethodId} {args : Array Value} {below : List Frame} {meth : Method} {c : Code} {H : Heap} {locs : List Loc} {cells slots : Nat} {Q : State → Prop}
variable {D : va_G} {cA : Nat → ClassId} {ad : Nat → Nat} {σ σ' σ0 : CSt} {η η0 : HS} {y : MethodName} {cc bytes : ByteArray} {maxL nL fr lo pc idx k : Nat} {ret : Option FieldType} {av As rest : List Value} {r : Int32} {ro : Option Value} {own : String} {lvs : List (Nat × Value)} {a9 : Array Value} {ls : Array Slot} {b : Nat} {A0 : Nat → Prop} {H0 : Heap} {Qv : Array Value → State → Outcome → State → Prop}
theorem KRc.of (hy : plainName y.cls = true) (hlen : (lg_sl av).length ≤ maxL)
    (h : ∀ (p : Program) (e : Env) (s : State) (m : MethodId) (below : List Frame) (meth : Method) (c : Code), CallFix p m c cc maxL s av.toArray gT y.cls → meth.sig.returnType = ret → meth.locks = false → va_K D vwCl (tyG cA) s → HC D cA ad σ η s.heap → SZ ad NoA s s.heap → ∀ ls : Array Slot, lv_has ls maxL (lv_args 0 av) →
      W p l e (rmk fr lo) s m av.toArray below meth c s.heap [] 0 0 (MQ below Qv av.toArray s 0 0 NoA) (F0 m 0 ls [])) : KRc l D cA ad σ η y cc maxL ret (rmk fr lo) av Qv := by
  refine Met.ofW (cc := cc) (maxL := maxL) (ret := ret) hy rfl ?_
  intro p e s m args below meth c s₁ B hml hv
  obtain ⟨rfl, hP, hK, hZ⟩ := hv
  have hts := atoms_spec (ws := Cond.code y cc maxL ret :: gT) B.pre
  rw [lg_entry_eq]
  exact h p e s m below meth c ⟨B.exec, B.bytes, hml, findClass_of_methodNamed B.named, fun w hw => hts w (List.mem_cons_of_mem _ hw)⟩ B.returns B.notSynchronized hK hP hZ _ (lv_entry av hlen)
theorem KC.of (hy : plainName y.cls = true) (hlen : (lg_sl av).length ≤ maxL)
    (h : ∀ (p : Program) (e : Env) (s : State) (m : MethodId) (below : List Frame) (meth : Method) (c : Code) (A : Nat → Prop), A = va_A (wC cA ad σ η) s.heap.size → (∀ q : Nat, s.heap.size ≤ q → A q) → CallFix p m c cc maxL s av.toArray gT y.cls → meth.sig.returnType = ret → meth.locks = false → va_K D vwCl (tyG cA) s → HC D cA ad σ η s.heap → va_D A (wC cA ad σ η) → va_S A s.heap s.heap [] → SZ ad A s s.heap → ∀ ls : Array Slot, lv_has ls maxL (lv_args 0 av) →
      W p l e (rmk fr lo) s m av.toArray below meth c s.heap [] 0 0 (MQ below (QC ro D cA ad σ η σ' s.heap.size) av.toArray s 0 0 A) (F0 m 0 ls [])) : KC l D cA ad σ η y cc maxL ret (rmk fr lo) av ro σ' := by
  intro sz
  refine Met.ofW (cc := cc) (maxL := maxL) (ret := ret) hy rfl ?_
  intro p e s m args below meth c s₁ B hml hv
  obtain ⟨rfl, rfl, hP, hK, hD0, hZ⟩ := hv
  have hts := atoms_spec (ws := Cond.code y cc maxL ret :: gT) B.pre
  rw [lg_entry_eq]
  exact h p e s m below meth c _ rfl (fun q hq => Or.inr hq) ⟨B.exec, B.bytes, hml, findClass_of_methodNamed B.named, fun w hw => hts w (List.mem_cons_of_mem _ hw)⟩ B.returns B.notSynchronized hK hP hD0.self va_S.rf hZ _ (lv_entry av hlen)
theorem KRc.blind : FrameBlind (va_Pc av (fun U => HC D cA ad σ η U.heap ∧ va_K D vwCl (tyG cA) U ∧ SZ ad NoA U U.heap)) := fun a U g mk q => by
  obtain ⟨q0, qP, qK, qZ⟩ := q
  exact ⟨q0, qP, va_K.moved (u := U) (U := U.calling g mk a) (Vm.Alike.refl U.vm) qK, SZ.same (s := U) (U := U.calling g mk a) rfl qZ⟩
theorem KC.blind {sz : Nat} {A1 : Nat → Prop} : FrameBlind (va_Pc av (fun U => U.heap.size = sz ∧ HC D cA ad σ η U.heap ∧ va_K D vwCl (tyG cA) U ∧ va_D (fun _ => True) (wC cA ad σ η) ∧ SZ ad A1 U U.heap)) := fun a U g mk q => by
  obtain ⟨q0, q1, qP, qK, qD, qZ⟩ := q
  exact ⟨q0, q1, qP, va_K.moved (u := U) (U := U.calling g mk a) (Vm.Alike.refl U.vm) qK, qD, SZ.same (s := U) (U := U.calling g mk a) rfl qZ⟩
theorem KRc.iret (C : CallFix p m c cc nL s args gT own) (hr : meth.sig.returnType = some .int) (hlk : meth.locks = false) {r' : Int32} (he : r' = r) (hdg : decode cc pc = .ok (.ireturn, 1)) : W p l e R s m args below meth c s.heap [] 0 0 (MQ below (QcV (.int r)) args s 0 0 NoA) (F0 m pc ls [.int r']) := by
  subst he
  exact W.iret C.1 C.2.1 hr (fun t ht _ => ⟨rfl, ht⟩) (fun q hq => by cases hq) hdg hlk
theorem KRc.zret (C : CallFix p m c cc nL s args gT own) (hr : meth.sig.returnType = some .boolean) (hlk : meth.locks = false) {r' : Int32} (hz : r' = 0 ∨ r' = 1) (he : r' = r) (hdg : decode cc pc = .ok (.ireturn, 1)) : W p l e R s m args below meth c s.heap [] 0 0 (MQ below (QcV (.int r)) args s 0 0 NoA) (F0 m pc ls [.int r']) := by
  subst he
  exact W.zret C.1 C.2.1 hr (nar_z hz) (fun t ht _ => ⟨rfl, ht⟩) (fun q hq => by cases hq) hdg hlk
theorem KRc.lret (C : CallFix p m c cc nL s args gT own) (hr : meth.sig.returnType = some .long) (hlk : meth.locks = false) {r' r2 : Int64} (he : r' = r2) (hdg : decode cc pc = .ok (.lreturn, 1)) : W p l e R s m args below meth c s.heap [] 0 0 (MQ below (QcV (.long r2)) args s 0 0 NoA) (F0 m pc ls [.long r']) := by
  subst he
  exact W.lret C.1 C.2.1 hr (fun t ht _ => ⟨rfl, ht⟩) (fun q hq => by cases hq) hdg hlk
theorem KRc.oret {Cn : String} {ov : Option RV} {q : Option Nat} (C : CallFix p m c cc nL s args gT own) (hr : meth.sig.returnType = some (.object Cn)) (hlk : meth.locks = false) (he : RelR cA η q ov) (hdg : decode cc pc = .ok (.areturn, 1)) : W p l e R s m args below meth c s.heap [] 0 0 (MQ below (QcO cA η ov) args s 0 0 NoA) (F0 m pc ls [va_rf q]) := by
  refine W.aret C.1 C.2.1 hr (Or.inl ⟨_, rfl⟩) ?_ (fun t ht _ => ⟨⟨q, rfl, he⟩, ht⟩) (fun q hq => by cases hq) hdg hlk
  cases q with
  | none => exact Or.inl rfl
  | some a => exact Or.inr ⟨a, rfl⟩
theorem KC.q (hK : va_K D vwCl (tyG cA) s) (hP : HC D cA ad σ' η H) (hD : va_D A0 (wC cA ad σ' η)) (hS : va_S A0 s.heap H locs) (hA : A0 = va_A (wC cA ad σ η) s.heap.size) : ∀ t : State, t.heap = H → s.WarmedH t.vm → QC ro D cA ad σ η σ' s.heap.size args s (.returned ro) t := fun t ht hW => by
  subst hA
  exact ⟨rfl, by rw [ht]; exact hP, va_K.moved hW.alike hK, hD, hS.F ht⟩
theorem KC.iret (C : CallFix p m c cc nL s args gT own) (hr : meth.sig.returnType = some .int) (hlk : meth.locks = false) (hK : va_K D vwCl (tyG cA) s) (hA : A0 = va_A (wC cA ad σ η) s.heap.size) (hP : HC D cA ad σ' η H) (hD : va_D A0 (wC cA ad σ' η)) (hS : va_S A0 s.heap H locs) {r' : Int32} (he : ro = some (.int r')) (hdg : decode cc pc = .ok (.ireturn, 1)) : W p l e R s m args below meth c H locs 0 0 (MQ below (QC ro D cA ad σ η σ' s.heap.size) args s 0 0 A0) (F0 m pc ls [.int r']) := by
  subst he
  exact W.iret C.1 C.2.1 hr (KC.q hK hP hD hS hA) hS.2.2 hdg hlk
theorem KC.zret (C : CallFix p m c cc nL s args gT own) (hr : meth.sig.returnType = some .boolean) (hlk : meth.locks = false) (hK : va_K D vwCl (tyG cA) s) (hA : A0 = va_A (wC cA ad σ η) s.heap.size) (hP : HC D cA ad σ' η H) (hD : va_D A0 (wC cA ad σ' η)) (hS : va_S A0 s.heap H locs) {r' : Int32} (hz : r' = 0 ∨ r' = 1) (he : ro = some (.int r')) (hdg : decode cc pc = .ok (.ireturn, 1)) : W p l e R s m args below meth c H locs 0 0 (MQ below (QC ro D cA ad σ η σ' s.heap.size) args s 0 0 A0) (F0 m pc ls [.int r']) := by
  subst he
  exact W.zret C.1 C.2.1 hr (nar_z hz) (KC.q hK hP hD hS hA) hS.2.2 hdg hlk
theorem KC.vret (C : CallFix p m c cc nL s args gT own) (hr : meth.sig.returnType = none) (hlk : meth.locks = false) (hK : va_K D vwCl (tyG cA) s) (hA : A0 = va_A (wC cA ad σ η) s.heap.size) (hP : HC D cA ad σ' η H) (hD : va_D A0 (wC cA ad σ' η)) (hS : va_S A0 s.heap H locs) (he : ro = none) (hdg : decode cc pc = .ok (.return_, 1)) : W p l e R s m args below meth c H locs 0 0 (MQ below (QC ro D cA ad σ η σ' s.heap.size) args s 0 0 A0) (F0 m pc ls []) := by
  subst he
  exact W.vret C.1 C.2.1 hr (KC.q hK hP hD hS hA) hS.2.2 hdg hlk
/-- a reading call goes on -/
theorem cV_go {v : Value} {st0 : List Value} (hr : CallRun p l e R s m args below meth c H locs cells slots 0 0 (F0 m pc ls st0) rest (QcV v a9) NoA) (kk : W p l e R s m args below meth c H locs cells slots Q (F0 m (pc + 3) ls (v :: rest))) : W p l e R s m args below meth c H locs cells slots Q (F0 m pc ls st0) := by
  intro T hT X
  obtain ⟨v, st₀, t, T', L, h0, X', hL, e1, ⟨hv, hh⟩, st⟩ := hr T hT X
  cases hv
  obtain ⟨t2, a1, b1⟩ := kk T' (by rw [e1, hh, h0]) (Stand.forget X' (fun q h => (hL q h).elim))
  exact ⟨t2, st t2 a1, b1⟩
theorem cO_go {ov : Option RV} {st0 : List Value} (hr : CallRun p l e R s m args below meth c H locs cells slots 0 0 (F0 m pc ls st0) rest (QcO cA η ov a9) NoA) (kn : ov = none → W p l e R s m args below meth c H locs cells slots Q (F0 m (pc + 3) ls (.null :: rest))) (ks : ∀ (a : Nat) (v : RV), ov = some v → isRt cA η a v → W p l e R s m args below meth c H locs cells slots Q (F0 m (pc + 3) ls (.ref a :: rest))) : W p l e R s m args below meth c H locs cells slots Q (F0 m pc ls st0) := by
  intro T hT X
  obtain ⟨v, st₀, t, T', L, h0, X', hL, e1, ⟨⟨q, hv, hq⟩, hh⟩, st⟩ := hr T hT X
  cases hv
  rcases hq with ⟨h1, h2⟩ | ⟨a, v, h1, h2, h3⟩
  · subst h2
    obtain ⟨t2, a1, b1⟩ := kn h1 T' (by rw [e1, hh, h0]) (Stand.forget X' (fun q h => (hL q h).elim))
    exact ⟨t2, st t2 a1, b1⟩
  · subst h1
    obtain ⟨t2, a1, b1⟩ := ks a v h2 h3 T' (by rw [e1, hh, h0]) (Stand.forget X' (fun q h => (hL q h).elim))
    exact ⟨t2, st t2 a1, b1⟩
theorem SZ.go {B : Nat → Prop} (hZ : SZ ad A0 s s.heap) (hS : va_S A0 s.heap H locs) (hB : ∀ q, B q → A0 q) {U : State} (hU : U.heap = H) (hW : s.WarmedH U.vm) : SZ ad B U U.heap := by
  rw [hU]
  exact ((hZ.kept hS.2.1).narrow hB).warm hW
theorem runRVc (C : CallFix p m c cc nL s args gT own) (hK : va_K D vwCl (tyG cA) s) (hP : HC D cA ad σ η H) (hZ : SZ ad A0 s s.heap) (hS : va_S A0 s.heap H locs) (h : CV own idx y bytes maxL ret k) (hl : lv_has ls nL lvs) (hM : KRc l D cA ad σ η y bytes maxL ret (rmk fr lo) (.ref b :: As) Qv) (hrc : ∃ cell : Cell, H[b]? = some cell ∧ cell.vm.isStatics = false ∧ s.vm.findClass y.cls = some cell.cls) (hR : (Nat.ble (fr + 1) R.frames && Nat.ble (8 + (maxL + 11) + lo) R.locals) = true) (hn : As.length = k) {st : List Value} (hst : st = As.reverse ++ .ref b :: rest) (hW : (rest.map fun v => v.category).sum ≤ 8) (hf : cells ≤ R.cells ∧ slots ≤ R.slots) (hdg : decode cc pc = .ok (.invokevirtual idx, 3)) : CallRun p l e R s m args below meth c H locs cells slots 0 0 (F0 m pc ls st) rest (Qv (Value.ref b :: As).toArray) NoA := by
  have hR' := (Bool.and_eq_true _ _).mp hR
  exact W.runV (b := b) (As := As) (rest := rest) (g := F0 m pc ls st) C hM (h.cw C ⟨Nat.le_of_ble_eq_true hR'.1, Nat.le_of_ble_eq_true hR'.2⟩) ⟨KRc.blind, hrc, fun U hU hW => ⟨rfl, by rw [hU]; exact hP, va_K.moved hW.alike hK, hZ.go hS (fun q h => h.elim) hU hW⟩⟩ rfl hn hl.1 hst (lv_room hW) hdg hf
theorem runRSc (C : CallFix p m c cc nL s args gT own) (hK : va_K D vwCl (tyG cA) s) (hP : HC D cA ad σ η H) (hZ : SZ ad A0 s s.heap) (hS : va_S A0 s.heap H locs) (h : CS own idx y bytes maxL ret k) (hl : lv_has ls nL lvs) (hM : KRc l D cA ad σ η y bytes maxL ret (rmk fr lo) As Qv) (hR : (Nat.ble (fr + 1) R.frames && Nat.ble (8 + (maxL + 11) + lo) R.locals) = true) (hn : As.length = k) {st : List Value} (hst : st = As.reverse ++ rest) (hW : (rest.map fun v => v.category).sum ≤ 8) (hf : cells ≤ R.cells ∧ slots ≤ R.slots) (hdg : decode cc pc = .ok (.invokestatic idx, 3)) : CallRun p l e R s m args below meth c H locs cells slots 0 0 (F0 m pc ls st) rest (Qv As.toArray) NoA := by
  have hR' := (Bool.and_eq_true _ _).mp hR
  exact W.runS (As := As) (rest := rest) (g := F0 m pc ls st) C hM (h.cw C ⟨Nat.le_of_ble_eq_true hR'.1, Nat.le_of_ble_eq_true hR'.2⟩) ⟨KRc.blind, fun U hU hW => ⟨rfl, by rw [hU]; exact hP, va_K.moved hW.alike hK, hZ.go hS (fun q h => h.elim) hU hW⟩⟩ rfl hn hl.1 hst (lv_room hW) hdg hf
theorem cC_go {st0 : List Value} (hr : va_Run p l e R s m args below meth c H locs cells slots 0 0 (F0 m pc ls st0) rest (QC ro D cA ad σ η σ' H.size a9) (va_A (wC cA ad σ η) H.size)) (hD : va_D A0 (wC cA ad σ η)) (hA : ∀ q : Nat, H0.size ≤ q → A0 q) (hS : va_S A0 H0 H locs)
    (kk : ∀ (H1 : Heap) (locs1 : List Loc), HC D cA ad σ' η H1 → va_D A0 (wC cA ad σ' η) → va_S A0 H0 H1 locs1 → W p l e R s m args below meth c H1 locs1 cells slots Q (F0 m (pc + 3) ls (ro.toList ++ rest))) : W p l e R s m args below meth c H locs cells slots Q (F0 m pc ls st0) := by
  have hF : ∀ q, va_A (wC cA ad σ η) H.size q → A0 q := fun q h => by
    rcases h with ⟨k, e, h⟩ | h
    · exact hD.2 k (q, e) h
    · exact hA q (Nat.le_trans hS.1 h)
  intro T hT X
  obtain ⟨v, st₀, t, T', L, h0, X', hL, e1, e2, ⟨hv, hp, hk, hd, hz, hq⟩, st⟩ := hr T hT X
  cases hv
  rw [h0] at hz hq
  obtain ⟨t2, a1, b1⟩ := kk T'.heap (locs ++ L) (by rw [e1]; exact hp) (hd.weaken (fun k q _ h => hF q.1 h))
    ⟨Nat.le_trans hS.1 (by rw [e1]; exact hz), fun q h1 h2 => by rw [e1, hq q (Nat.lt_of_lt_of_le h1 hS.1) (fun z => h2 (hF q z))]; exact hS.2.1 q h1 h2, fun q hq' => by
      rcases List.mem_append.mp hq' with h | h
      · exact hS.2.2 q h
      · exact hF _ (hL q h)⟩ T' rfl X'
  exact ⟨t2, st t2 a1, b1⟩
theorem hF_of {w : va_W} (hD : va_D A0 w) (hA : ∀ q : Nat, H0.size ≤ q → A0 q) (hS : va_S A0 H0 H locs) : ∀ q, va_A w H.size q → A0 q := fun q h => by
  rcases h with ⟨k, e, h⟩ | h
  · exact hD.2 k (q, e) h
  · exact hA q (Nat.le_trans hS.1 h)
theorem callCV (C : CallFix p m c cc nL s args gT own) (hK : va_K D vwCl (tyG cA) s) (hP : HC D cA ad σ η H) (hD : va_D A0 (wC cA ad σ η)) (hA : ∀ q : Nat, s.heap.size ≤ q → A0 q) (hS : va_S A0 s.heap H locs) (hZ : SZ ad A0 s s.heap) (h : CV own idx y bytes maxL ret k) (hl : lv_has ls nL lvs) (hM : KC l D cA ad σ η y bytes maxL ret (rmk fr lo) (.ref b :: As) ro σ') (hrc : ∃ cell : Cell, H[b]? = some cell ∧ cell.vm.isStatics = false ∧ s.vm.findClass y.cls = some cell.cls) (hR : (Nat.ble (fr + 1) R.frames && Nat.ble (8 + (maxL + 11) + lo) R.locals) = true) (hn : As.length = k) {st : List Value} (hst : st = As.reverse ++ .ref b :: rest) (hW : (rest.map fun v => v.category).sum ≤ 8) (hf : cells ≤ R.cells ∧ slots ≤ R.slots) (hdg : decode cc pc = .ok (.invokevirtual idx, 3))
    (kk : ∀ (H1 : Heap) (locs1 : List Loc), HC D cA ad σ' η H1 → va_D A0 (wC cA ad σ' η) → va_S A0 s.heap H1 locs1 → W p l e R s m args below meth c H1 locs1 cells slots Q (F0 m (pc + 3) ls (ro.toList ++ rest))) : W p l e R s m args below meth c H locs cells slots Q (F0 m pc ls st) := by
  have hR' := (Bool.and_eq_true _ _).mp hR
  exact cC_go (va_runV (b := b) (As := As) (rest := rest) (g := F0 m pc ls st) C (hM H.size) (h.cw C ⟨Nat.le_of_ble_eq_true hR'.1, Nat.le_of_ble_eq_true hR'.2⟩) ⟨KC.blind, hrc, fun U hU hW => ⟨rfl, by rw [hU], by rw [hU]; exact hP, va_K.moved hW.alike hK, hD.weaken (fun _ _ _ _ => trivial), hZ.go hS (hF_of hD hA hS) hU hW⟩⟩ rfl hn hl.1 hst (lv_room hW) hdg hf) hD hA hS kk
theorem callCS (C : CallFix p m c cc nL s args gT own) (hK : va_K D vwCl (tyG cA) s) (hP : HC D cA ad σ η H) (hD : va_D A0 (wC cA ad σ η)) (hA : ∀ q : Nat, s.heap.size ≤ q → A0 q) (hS : va_S A0 s.heap H locs) (hZ : SZ ad A0 s s.heap) (h : CS own idx y bytes maxL ret k) (hl : lv_has ls nL lvs) (hM : KC l D cA ad σ η y bytes maxL ret (rmk fr lo) As ro σ') (hR : (Nat.ble (fr + 1) R.frames && Nat.ble (8 + (maxL + 11) + lo) R.locals) = true) (hn : As.length = k) {st : List Value} (hst : st = As.reverse ++ rest) (hW : (rest.map fun v => v.category).sum ≤ 8) (hf : cells ≤ R.cells ∧ slots ≤ R.slots) (hdg : decode cc pc = .ok (.invokestatic idx, 3))
    (kk : ∀ (H1 : Heap) (locs1 : List Loc), HC D cA ad σ' η H1 → va_D A0 (wC cA ad σ' η) → va_S A0 s.heap H1 locs1 → W p l e R s m args below meth c H1 locs1 cells slots Q (F0 m (pc + 3) ls (ro.toList ++ rest))) : W p l e R s m args below meth c H locs cells slots Q (F0 m pc ls st) := by
  have hR' := (Bool.and_eq_true _ _).mp hR
  exact cC_go (va_runS (As := As) (rest := rest) (g := F0 m pc ls st) C (hM H.size) (h.cw C ⟨Nat.le_of_ble_eq_true hR'.1, Nat.le_of_ble_eq_true hR'.2⟩) ⟨KC.blind, fun U hU hW => ⟨rfl, by rw [hU], by rw [hU]; exact hP, va_K.moved hW.alike hK, hD.weaken (fun _ _ _ _ => trivial), hZ.go hS (hF_of hD hA hS) hU hW⟩⟩ rfl hn hl.1 hst (lv_room hW) hdg hf) hD hA hS kk
end B5
abbrev WRc (p : Program) (l : Launch) (e : Env) (fr lo : Nat) (s : State) (m : MethodId) (av : List Value) (below : List Frame) (meth : Method) (c : Code) (Qv : Array Value → State → Outcome → State → Prop) (g : JFrame) : Prop := W p l e (rmk fr lo) s m av.toArray below meth c s.heap [] 0 0 (MQ below Qv av.toArray s 0 0 NoA) g
abbrev WC (p : Program) (l : Launch) (e : Env) (fr lo : Nat) (s : State) (m : MethodId) (av : List Value) (below : List Frame) (meth : Method) (c : Code) (ro : Option Value) (D : va_G) (cA : Nat → ClassId) (ad : Nat → Nat) (σ : CSt) (η : HS) (σ' : CSt) (A : Nat → Prop) (H : Heap) (locs : List Loc) (g : JFrame) : Prop := W p l e (rmk fr lo) s m av.toArray below meth c H locs 0 0 (MQ below (QC ro D cA ad σ η σ' s.heap.size) av.toArray s 0 0 A) g
