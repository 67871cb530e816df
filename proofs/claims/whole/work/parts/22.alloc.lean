theorem wfi_cost : Cond.fieldLink RX6 7 "ConnectorRouter$Route" "cost" "I" ∈ gT := gT_i 714 (by decide +kernel) rfl
theorem wfi_xs : Cond.fieldLink RX6 13 "ConnectorRouter$Route" "xs" "[I" ∈ gT := gT_i 717 (by decide +kernel) rfl
theorem wfi_ys : Cond.fieldLink RX6 17 "ConnectorRouter$Route" "ys" "[I" ∈ gT := gT_i 721 (by decide +kernel) rfl
/-! cells that are made: counters, the pool grows -/
def bump (σ : CSt) (a b : Nat) : CSt := cs_ns_s (cs_nc_s σ (cs_nc σ + a)) (cs_ns σ + b)
def Mo (σ σ' : CSt) : Prop := cs_nc σ ≤ cs_nc σ' ∧ cs_ns σ ≤ cs_ns σ'
theorem Mo.rf {σ : CSt} : Mo σ σ := ⟨Nat.le_refl _, Nat.le_refl _⟩
theorem Mo.tr {a b c : CSt} (h : Mo a b) (h' : Mo b c) : Mo a c := ⟨Nat.le_trans h.1 h'.1, Nat.le_trans h.2 h'.2⟩
theorem Mo.bump (σ : CSt) (a b : Nat) : Mo σ (bump σ a b) := ⟨Nat.le_add_right _ _, Nat.le_add_right _ _⟩
theorem Mo.gh {σ σ' : CSt} (h : σ'.2.2.2.2.2.2.2.2.2 = σ.2.2.2.2.2.2.2.2.2) : Mo σ σ' := by
  have h1 : cs_nc σ' = cs_nc σ := congrArg (fun q : CT_gh => q.1) h
  have h2 : cs_ns σ' = cs_ns σ := congrArg (fun q : CT_gh => q.2) h
  exact ⟨by omega, by omega⟩
def CC (c s : Nat) (σ0 σ : CSt) : Prop := c + cs_nc σ0 ≤ cs_nc σ ∧ s + cs_ns σ0 ≤ cs_ns σ
theorem CC.z {σ : CSt} : CC 0 0 σ σ := ⟨by omega, by omega⟩
theorem CC.mo {c s : Nat} {σ0 σ σ' : CSt} (h : CC c s σ0 σ) (hm : Mo σ σ') : CC c s σ0 σ' := ⟨Nat.le_trans h.1 hm.1, Nat.le_trans h.2 hm.2⟩
theorem CC.add {c s : Nat} {σ0 σ σ' : CSt} (h : CC c s σ0 σ) (hm : Mo σ σ') : CC (c + (cs_nc σ' - cs_nc σ)) (s + (cs_ns σ' - cs_ns σ)) σ0 σ' := by
  obtain ⟨h1, h2⟩ := h
  obtain ⟨h3, h4⟩ := hm
  exact ⟨by omega, by omega⟩
theorem CC.bump {c s : Nat} {σ0 σ : CSt} (a b : Nat) (h : CC c s σ0 σ) : CC (c + a) (s + b) σ0 (bump σ a b) := by
  obtain ⟨h1, h2⟩ := h
  exact ⟨show c + a + cs_nc σ0 ≤ cs_nc σ + a by omega, show s + b + cs_ns σ0 ≤ cs_ns σ + b by omega⟩
theorem CC.le {c s : Nat} {σ0 σ σr : CSt} (h : CC c s σ0 σ) (hm : Mo σ σr) : c ≤ cs_nc σr - cs_nc σ0 ∧ s ≤ cs_ns σr - cs_ns σ0 := by
  obtain ⟨h1, h2⟩ := h
  obtain ⟨h3, h4⟩ := hm
  exact ⟨by omega, by omega⟩
theorem CC.lab {σ0 σ : CSt} (hm : Mo σ0 σ) : CC (cs_nc σ - cs_nc σ0) (cs_ns σ - cs_ns σ0) σ0 σ := by
  obtain ⟨h3, h4⟩ := hm
  exact ⟨by omega, by omega⟩
theorem CC.M {c s : Nat} {σ0 σ : CSt} (h : CC c s σ0 σ) : Mo σ0 σ := by
  obtain ⟨h1, h2⟩ := h
  exact ⟨by omega, by omega⟩
def hpush (η : HS) (q : Nat) (e : va_E) : HS := (η.1, η.2.1, η.2.2.1, η.2.2.2.1 ++ [q], va_up η.2.2.2.2 q e)
def hset (η : HS) (q : Nat) (e : va_E) : HS := (η.1, η.2.1, η.2.2.1, η.2.2.2.1, va_up η.2.2.2.2 q e)
/-- a route that is made, not yet filled -/
def isU (η : HS) (a : Nat) : Prop := a ∈ η.2.2.2.1 ∧ η.2.2.2.2 a = .inr (6, [.int 0, .null, .null])
theorem isU.ext {η η' : HS} {a : Nat} (h : isU η a) (hx : ext η η') : isU η' a := ⟨(hx a h.1).1, (hx a h.1).2.trans h.2⟩
section C7
variable {p : Program} {l : Launch} {e : Env} {R : Room} {s : State} {m : MethodId} {args : Array Value} {below : List Frame} {meth : Method} {c : Code} {H : Heap} {locs : List Loc} {cells slots : Nat} {Q : State → Prop}
variable {D : va_G} {cA : Nat → ClassId} {ad : Nat → Nat} {σ : CSt} {η : HS} {cc : ByteArray} {nL pc idx : Nat} {own : String} {rest : List Value} {ls : Array Slot} {A0 : Nat → Prop} {H0 : Heap} {a n q : Nat} {f : Nat → Int32} {v : RV}
theorem wC_push {e : va_E} (hq : q ∉ η.2.2.2.1) : wC cA ad σ η ++ [(q, e)] = wC cA ad σ (hpush η q e) := by
  unfold wC
  rw [List.append_assoc, va_pl_push hq]
  rfl
theorem ext_push {e : va_E} (hq : q ∉ η.2.2.2.1) : ext η (hpush η q e) := fun a h => ⟨List.mem_append_left _ h, va_up_ne _ _ (fun z => hq (by rw [← z]; exact h))⟩
theorem rel_ext {η' : HS} (h : rel cA σ η) (hx : ext η η') (h1 : η'.1 = η.1) (h2 : η'.2.1 = η.2.1) : rel cA σ η' := ⟨fun j => by rw [h1]; exact (h.1 j).ext hx, fun i j => by rw [h2]; exact (h.2 i j).ext hx⟩
theorem HC_bump (x y : Nat) (h : HC D cA ad σ η H) : HC D cA ad (bump σ x y) η H := h
theorem rt_set {e : va_E} (hu : isU η q) (h : isRt cA η a v) : isRt cA (hset η q e) a v := by
  obtain ⟨h1, ax, ay, h2, h3, h4⟩ := h
  have n1 : a ≠ q := fun z => by rw [z, hu.2] at h2; simp at h2
  have n2 : ax ≠ q := fun z => by have := h3.2; rw [z, hu.2] at this; cases this
  have n3 : ay ≠ q := fun z => by have := h4.2; rw [z, hu.2] at this; cases this
  exact ⟨h1, ax, ay, (va_up_ne _ _ n1).trans h2, ⟨h3.1, (va_up_ne _ _ n2).trans h3.2⟩, ⟨h4.1, (va_up_ne _ _ n3).trans h4.2⟩⟩
theorem rel_set {e : va_E} (hu : isU η q) (h : rel cA σ η) : rel cA σ (hset η q e) := by
  refine ⟨fun j => ?_, fun i j => ?_⟩
  · rcases h.1 j with h | ⟨a, v, h1, h2, h3⟩
    · exact Or.inl h
    · exact Or.inr ⟨a, v, h1, h2, rt_set hu h3⟩
  · rcases h.2 i j with h | ⟨a, v, h1, h2, h3⟩
    · exact Or.inl h
    · exact Or.inr ⟨a, v, h1, h2, rt_set hu h3⟩
theorem ext_set {e : va_E} {ηb : HS} (hx : ext ηb η) (hq : q ∉ ηb.2.2.2.1) : ext ηb (hset η q e) := fun a h => ⟨(hx a h).1, (va_up_ne _ _ (fun z => hq (by rw [← z]; exact h))).trans (hx a h).2⟩
/-- new Route -/
theorem nw_rt (C : CallFix p m c cc nL s args gT own) (hK : va_K D vwCl (tyG cA) s) (hP : HC D cA ad σ η H) (hD : va_D A0 (wC cA ad σ η)) (hS : va_S A0 H0 H locs) (hA : ∀ q : Nat, H0.size ≤ q → A0 q) (hcl : Cond.classLink own idx RX6 ∈ gT ∧ Cond.instantiable RX6 3 ∈ gT ∧ Cond.initialized RX6 ∈ gT) (hc : cells + 1 ≤ R.cells ∧ slots + 3 ≤ R.slots) (hdg : decode cc pc = .ok (.new idx, 3))
    (kk : ∀ (q : Nat) (η1 : HS) (H1 : Heap), q ∉ η.2.2.2.1 → ext η η1 → isU η1 q → HC D cA ad (bump σ 1 3) η1 H1 → va_D A0 (wC cA ad (bump σ 1 3) η1) → va_S A0 H0 H1 locs → W p l e R s m args below meth c H1 locs (cells + 1) (slots + 3) Q (F0 m (pc + 3) ls (.ref q :: rest))) : W p l e R s m args below meth c H locs cells slots Q (F0 m pc ls rest) := by
  refine va_new (ci := 6) (fs := [.int 0, .null, .null]) (C := RX6) (T := TX6) (N := 3) C.1 C.2.1 C.2.2.2.2 cW_inX6 tyX6 tyX6_ok C.2.2.2.1 (C.2.2.2.2 _ hcl.1) (C.2.2.2.2 _ hcl.2.1) (C.2.2.2.2 _ hcl.2.2) hK hP.2 hD hS hA rfl (fun j hj => by rcases (show j = 0 ∨ j = 1 ∨ j = 2 by omega) with rfl | rfl | rfl <;> rfl) hc.1 hc.2 hdg (fun q H1 hP1 hD1 hS1 => ?_)
  have hq : q ∉ η.2.2.2.1 := va_pl_fresh2 (X := wCf cA ad σ η) (f := η.2.2.2.2) hD1
  rw [wC_push hq] at hP1 hD1
  have hx := ext_push (e := .inr (6, [.int 0, .null, .null])) hq
  exact kk q _ H1 hq hx ⟨List.mem_append_right _ (List.mem_singleton.mpr rfl), va_up_self _ _ _⟩ ⟨rel_ext hP.1 hx rfl rfl, hP1⟩ hD1 hS1
end C7
def QI (D : va_G) (cA : Nat → ClassId) (ad : Nat → Nat) (σ : CSt) (η η' : HS) (sz : Nat) : Array Value → State → Outcome → State → Prop := fun _ st oc t => oc = .returned none ∧ HC D cA ad σ η' t.heap ∧ va_K D vwCl (tyG cA) t ∧ va_D (va_A (wC cA ad σ η) sz) (wC cA ad σ η') ∧ va_F (va_A (wC cA ad σ η) sz) st t
theorem wlRi : Cond.methodLink RX6 1 objectInit ∈ gT ∧ Cond.instanceMethod objectInit ∈ gT ∧ Cond.code objectInit ⟨#[0xb1]⟩ 1 none ∈ gT := ⟨gT_i 713 (by decide +kernel) rfl, gT_i 106 (by decide +kernel) rfl, gT_i 107 (by decide +kernel) rfl⟩
set_option maxHeartbeats 4000000 in
set_option maxRecDepth 100000 in
/-- Route(cost, xs, ys) -/
theorem kc_X6_init (l : Launch) (D : va_G) (cA : Nat → ClassId) (ad : Nat → Nat) (σ : CSt) (η : HS) (q : Nat) (hu : isU η q) (x : Int32) (ax ay : Nat) (sz : Nat) :
    Met l yX6_init (Cond.code yX6_init cX6_init 4 none :: gT) (rmk 1 12) (va_Pc [.ref q, .int x, .ref ax, .ref ay] (fun U => U.heap.size = sz ∧ HC D cA ad σ η U.heap ∧ va_K D vwCl (tyG cA) U ∧ va_D (fun _ => True) (wC cA ad σ η) ∧ SZ ad (va_A (wC cA ad σ η) sz) U U.heap)) (QI D cA ad σ η (hset η q (.inr (6, [.int x, .ref ax, .ref ay]))) sz) 0 0 (va_A (wC cA ad σ η) sz) := by
  refine Met.ofW (cc := cX6_init) (maxL := 4) (ret := none) (by decide) rfl ?_
  intro p e s m args below meth c s₁ B hml hv
  obtain ⟨rfl, rfl, hP, hK, hD0, hZ⟩ := hv
  have hts := atoms_spec (ws := Cond.code yX6_init cX6_init 4 none :: gT) B.pre
  rw [lg_entry_eq]
  have C : CallFix p m c cX6_init 4 s ([.ref q, .int x, .ref ax, .ref ay] : List Value).toArray gT RX6 := ⟨B.exec, B.bytes, hml, findClass_of_methodNamed B.named, fun w hw => hts w (List.mem_cons_of_mem _ hw)⟩
  have hr := B.returns
  have hlk := B.notSynchronized
  have hin : meth.name = "<init>" := (name_of_methodNamed B.named B.method).1
  have hl := lv_entry ([.ref q, .int x, .ref ax, .ref ay]) (n := 4) (Nat.le_of_ble_eq_true rfl)
  generalize (lg_sl ([.ref q, .int x, .ref ax, .ref ay]) ++ List.replicate (4 - (lg_sl ([.ref q, .int x, .ref ax, .ref ay])).length) Slot.unset).toArray = ls at hl ⊢
  have hl : lv_has ls 4 [(0, .ref q), (1, .int x), (2, .ref ax), (3, .ref ay)] := hl
  have hD := hD0.self (sz := s.heap.size)
  generalize hAe : va_A (wC cA ad σ η) s.heap.size = A at hD ⊢
  have hS : va_S A s.heap s.heap [] := va_S.rf
  obtain ⟨k, hk⟩ := va_pl_get (X := wCf cA ad σ η) (f := η.2.2.2.2) hu.1
  have hk0 := hk
  rw [hu.2] at hk
  have hPw : va_P D vwCl (wC cA ad σ η) s.heap := hP.2
  refine lv_aload_n C.1 C.2.1 dX6_init_0 rfl (lv_at hl 0 rfl) ?_
  refine W.objInit C.1 C.2.1 C.2.2.2.1 (C.2.2.2.2 _ wlRi.1) (C.2.2.2.2 _ wlRi.2.1) (C.2.2.2.2 _ wlRi.2.2) rfl (by rw [hml]; exact hl.1) rfl dX6_init_1 (Nat.le_of_ble_eq_true rfl) (Nat.le_of_ble_eq_true rfl) ?_
  refine W.eq (g2 := F0 m 4 ls []) rfl ?_
  refine lv_aload_n C.1 C.2.1 dX6_init_4 rfl (lv_at hl 0 rfl) ?_
  refine lv_iload_n C.1 C.2.1 dX6_init_5 rfl (lv_at hl 1 rfl) ?_
  refine va_putF (ci := 6) (v := .int x) (ty := .int) (C := RX6) (T := TX6) (N := 3) C.1 C.2.1 C.2.2.2.2 cW_inX6 tyX6 tyX6_ok nmX6 C.2.2.2.1 hK hPw hD hS k hk rfl 0 (by decide) (C.2.2.2.2 _ wfi_cost) (fun _ h9 => h9) rfl hin rfl (by decide +kernel) rfl rfl (Nat.le_of_ble_eq_true rfl) dX6_init_6 (fun H locs hPw hD hS => ?_)
  have hk1 : ((wC cA ad σ η).set k (q, .inr (6, [.int x, .null, .null])))[k]? = some (q, .inr (6, [.int x, .null, .null])) := by
    exact List.getElem?_set_self (show k < (wC cA ad σ η).length from (List.getElem?_eq_some_iff.mp hk).1)
  refine lv_aload_n C.1 C.2.1 dX6_init_9 rfl (lv_at hl 0 rfl) ?_
  refine lv_aload_n C.1 C.2.1 dX6_init_10 rfl (lv_at hl 2 rfl) ?_
  refine va_putF (ci := 6) (v := .ref ax) (ty := .array .int) (C := RX6) (T := TX6) (N := 3) C.1 C.2.1 C.2.2.2.2 cW_inX6 tyX6 tyX6_ok nmX6 C.2.2.2.1 hK hPw hD hS k hk1 rfl 1 (by decide) (C.2.2.2.2 _ wfi_xs) (fun _ h9 => h9) rfl hin rfl (by decide +kernel) rfl rfl (Nat.le_of_ble_eq_true rfl) dX6_init_11 (fun H locs hPw hD hS => ?_)
  rw [List.set_set] at hPw hD
  have hk2 : ((wC cA ad σ η).set k (q, .inr (6, [.int x, .ref ax, .null])))[k]? = some (q, .inr (6, [.int x, .ref ax, .null])) := by
    exact List.getElem?_set_self (show k < (wC cA ad σ η).length from (List.getElem?_eq_some_iff.mp hk).1)
  refine lv_aload_n C.1 C.2.1 dX6_init_14 rfl (lv_at hl 0 rfl) ?_
  refine lv_aload_n C.1 C.2.1 dX6_init_15 rfl (lv_at hl 3 rfl) ?_
  refine va_putF (ci := 6) (v := .ref ay) (ty := .array .int) (C := RX6) (T := TX6) (N := 3) C.1 C.2.1 C.2.2.2.2 cW_inX6 tyX6 tyX6_ok nmX6 C.2.2.2.1 hK hPw hD hS k hk2 rfl 2 (by decide) (C.2.2.2.2 _ wfi_ys) (fun _ h9 => h9) rfl hin rfl (by decide +kernel) rfl rfl (Nat.le_of_ble_eq_true rfl) dX6_init_16 (fun H locs hPw hD hS => ?_)
  rw [List.set_set] at hPw hD
  have hw : (wC cA ad σ η).set k (q, .inr (6, [.int x, .ref ax, .ref ay])) = wC cA ad σ (hset η q (.inr (6, [.int x, .ref ax, .ref ay]))) := by
    exact va_pl_set (X := wCf cA ad σ η) hD0 hu.1 hk0
  have hPw : va_P D vwCl ((wC cA ad σ η).set k (q, .inr (6, [.int x, .ref ax, .ref ay]))) H := hPw
  have hD : va_D A ((wC cA ad σ η).set k (q, .inr (6, [.int x, .ref ax, .ref ay]))) := hD
  rw [hw] at hPw hD
  exact W.vret C.1 C.2.1 hr (fun t ht hW => by subst hAe; exact ⟨rfl, by rw [ht]; exact ⟨rel_set hu hP.1, hPw⟩, va_K.moved hW.alike hK, hD, hS.F ht⟩) hS.2.2 dX6_init_19 hlk

/-! Arrays.copyOf of the corners, makeRoute -/
def QA (n : Nat) (f : Nat → Int32) (D : va_G) (cA : Nat → ClassId) (ad : Nat → Nat) (σ : CSt) (η : HS) (σ' : CSt) (sz : Nat) : Array Value → State → Outcome → State → Prop := fun _ st oc t => ∃ (η' : HS) (a : Nat), oc = .returned (some (.ref a)) ∧ ext η η' ∧ isPa cA η' a n f ∧ HC D cA ad σ' η' t.heap ∧ va_K D vwCl (tyG cA) t ∧ va_D (va_A (wC cA ad σ η) sz) (wC cA ad σ' η') ∧ va_F (va_A (wC cA ad σ η) sz) st t
def QM (v : RV) (D : va_G) (cA : Nat → ClassId) (ad : Nat → Nat) (σ : CSt) (η : HS) (σ' : CSt) (sz : Nat) : Array Value → State → Outcome → State → Prop := fun _ st oc t => ∃ (η' : HS) (a : Nat), oc = .returned (some (.ref a)) ∧ ext η η' ∧ isRt cA η' a v ∧ HC D cA ad σ' η' t.heap ∧ va_K D vwCl (tyG cA) t ∧ va_D (va_A (wC cA ad σ η) sz) (wC cA ad σ' η') ∧ va_F (va_A (wC cA ad σ η) sz) st t
def KX (l : Launch) (D : va_G) (cA : Nat → ClassId) (ad : Nat → Nat) (σ : CSt) (η : HS) (y : MethodName) (cc : ByteArray) (maxL : Nat) (ret : Option FieldType) (rm : Room) (av : List Value) (QQ : Nat → Array Value → State → Outcome → State → Prop) : Prop :=
  ∀ sz : Nat, Met l y (Cond.code y cc maxL ret :: gT) rm (va_Pc av (fun U => U.heap.size = sz ∧ HC D cA ad σ η U.heap ∧ va_K D vwCl (tyG cA) U ∧ va_D (fun _ => True) (wC cA ad σ η) ∧ SZ ad (va_A (wC cA ad σ η) sz) U U.heap)) (QQ sz) rm.cells rm.slots (va_A (wC cA ad σ η) sz)
section B8
variable {p : Program} {l : Launch} {e : Env} {R : Room} {s : State} {m : MethodId} {args : Array Value} {below : List Frame} {meth : Method} {c : Code} {H : Heap} {locs : List Loc} {cells slots : Nat} {Q : State → Prop}
variable {D : va_G} {cA : Nat → ClassId} {ad : Nat → Nat} {σ σ' σ0 : CSt} {η η0 : HS} {y : MethodName} {cc bytes : ByteArray} {maxL nL fr lo pc idx k mc ms : Nat} {ret : Option FieldType} {av As rest : List Value} {r : Int32} {own : String} {lvs : List (Nat × Value)} {a9 : Array Value} {ls : Array Slot} {b : Nat} {A0 : Nat → Prop} {H0 : Heap} {v : RV} {n : Nat} {f : Nat → Int32}
theorem KX.of {QQ : Nat → Array Value → State → Outcome → State → Prop} (hy : plainName y.cls = true) (hlen : (lg_sl av).length ≤ maxL)
    (h : ∀ (p : Program) (e : Env) (s : State) (m : MethodId) (below : List Frame) (meth : Method) (c : Code) (A : Nat → Prop), A = va_A (wC cA ad σ η) s.heap.size → (∀ q : Nat, s.heap.size ≤ q → A q) → CallFix p m c cc maxL s av.toArray gT y.cls → meth.sig.returnType = ret → meth.locks = false → va_K D vwCl (tyG cA) s → HC D cA ad σ η s.heap → va_D A (wC cA ad σ η) → va_S A s.heap s.heap [] → SZ ad A s s.heap → ∀ ls : Array Slot, lv_has ls maxL (lv_args 0 av) →
      W p l e (rmc fr lo mc ms) s m av.toArray below meth c s.heap [] 0 0 (MQ below (QQ s.heap.size) av.toArray s mc ms A) (F0 m 0 ls [])) : KX l D cA ad σ η y cc maxL ret (rmc fr lo mc ms) av QQ := by
  intro sz
  refine Met.ofW (cc := cc) (maxL := maxL) (ret := ret) hy rfl ?_
  intro p e s m args below meth c s₁ B hml hv
  obtain ⟨rfl, rfl, hP, hK, hD0, hZ⟩ := hv
  have hts := atoms_spec (ws := Cond.code y cc maxL ret :: gT) B.pre
  rw [lg_entry_eq]
  exact h p e s m below meth c _ rfl (fun q hq => Or.inr hq) ⟨B.exec, B.bytes, hml, findClass_of_methodNamed B.named, fun w hw => hts w (List.mem_cons_of_mem _ hw)⟩ B.returns B.notSynchronized hK hP hD0.self va_S.rf hZ _ (lv_entry av hlen)
theorem CS.cwE (C : CallFix p m c cc nL s args gT own) (h : CS own idx y bytes maxL ret k) (hR : fr + 1 ≤ R.frames ∧ 8 + (maxL + 11) + lo ≤ R.locals) : CallB R s args own idx y bytes maxL ret (Cond.code y bytes maxL ret :: gT) (rmc fr lo mc ms) mc ms k ∧ (Cond.static y).before args s = true := by
  obtain ⟨h1, h2, h3, h5, h6, h7, h8⟩ := h
  exact ⟨callB_of (ws' := gT) k C.2.2.2.2 (gT_c h5) rfl rfl rfl (C.2.2.2.2 _ h3) (C.2.2.2.2 _ h1) ⟨h6, h7, h8⟩ hR, C.2.2.2.2 _ h2⟩
theorem cA_go {st0 : List Value} (hr : va_Run p l e R s m args below meth c H locs cells slots mc ms (F0 m pc ls st0) rest (QA n f D cA ad σ η σ' H.size a9) (va_A (wC cA ad σ η) H.size)) (hD : va_D A0 (wC cA ad σ η)) (hA : ∀ q : Nat, H0.size ≤ q → A0 q) (hS : va_S A0 H0 H locs)
    (kk : ∀ (a : Nat) (η1 : HS) (H1 : Heap) (locs1 : List Loc), ext η η1 → isPa cA η1 a n f → HC D cA ad σ' η1 H1 → va_D A0 (wC cA ad σ' η1) → va_S A0 H0 H1 locs1 → W p l e R s m args below meth c H1 locs1 (cells + mc) (slots + ms) Q (F0 m (pc + 3) ls (.ref a :: rest))) : W p l e R s m args below meth c H locs cells slots Q (F0 m pc ls st0) := by
  have hF := hF_of hD hA hS
  intro T hT X
  obtain ⟨v, st₀, t, T', L, h0, X', hL, e1, e2, ⟨η1, a, hv, hx, hpa, hp, hk, hd, hz, hq⟩, st⟩ := hr T hT X
  cases hv
  rw [h0] at hz hq
  obtain ⟨t2, a1, b1⟩ := kk a η1 T'.heap (locs ++ L) hx hpa (by rw [e1]; exact hp) (hd.weaken (fun k q _ h => hF q.1 h))
    ⟨Nat.le_trans hS.1 (by rw [e1]; exact hz), fun q h1 h2 => by rw [e1, hq q (Nat.lt_of_lt_of_le h1 hS.1) (fun z => h2 (hF q z))]; exact hS.2.1 q h1 h2, fun q hq' => by
      rcases List.mem_append.mp hq' with h | h
      · exact hS.2.2 q h
      · exact hF _ (hL q h)⟩ T' rfl X'
  exact ⟨t2, st t2 a1, b1⟩
theorem cM_go {st0 : List Value} (hr : va_Run p l e R s m args below meth c H locs cells slots mc ms (F0 m pc ls st0) rest (QM v D cA ad σ η σ' H.size a9) (va_A (wC cA ad σ η) H.size)) (hD : va_D A0 (wC cA ad σ η)) (hA : ∀ q : Nat, H0.size ≤ q → A0 q) (hS : va_S A0 H0 H locs)
    (kk : ∀ (a : Nat) (η1 : HS) (H1 : Heap) (locs1 : List Loc), ext η η1 → isRt cA η1 a v → HC D cA ad σ' η1 H1 → va_D A0 (wC cA ad σ' η1) → va_S A0 H0 H1 locs1 → W p l e R s m args below meth c H1 locs1 (cells + mc) (slots + ms) Q (F0 m (pc + 3) ls (.ref a :: rest))) : W p l e R s m args below meth c H locs cells slots Q (F0 m pc ls st0) := by
  have hF := hF_of hD hA hS
  intro T hT X
  obtain ⟨v, st₀, t, T', L, h0, X', hL, e1, e2, ⟨η1, a, hv, hx, hpa, hp, hk, hd, hz, hq⟩, st⟩ := hr T hT X
  cases hv
  rw [h0] at hz hq
  obtain ⟨t2, a1, b1⟩ := kk a η1 T'.heap (locs ++ L) hx hpa (by rw [e1]; exact hp) (hd.weaken (fun k q _ h => hF q.1 h))
    ⟨Nat.le_trans hS.1 (by rw [e1]; exact hz), fun q h1 h2 => by rw [e1, hq q (Nat.lt_of_lt_of_le h1 hS.1) (fun z => h2 (hF q z))]; exact hS.2.1 q h1 h2, fun q hq' => by
      rcases List.mem_append.mp hq' with h | h
      · exact hS.2.2 q h
      · exact hF _ (hL q h)⟩ T' rfl X'
  exact ⟨t2, st t2 a1, b1⟩
/-- the call of Route(..) on a route that was made -/
theorem in_rt {q : Nat} {ηb : HS} {x : Int32} {ax ay : Nat} {fx fy : Nat → Int32} (C : CallFix p m c cc nL s args gT own) (hK : va_K D vwCl (tyG cA) s) (hP : HC D cA ad σ η H) (hD : va_D A0 (wC cA ad σ η)) (hA : ∀ q : Nat, s.heap.size ≤ q → A0 q) (hS : va_S A0 s.heap H locs) (hZ : SZ ad A0 s s.heap) (hl : lv_has ls nL lvs) (hw : Cond.methodLink own idx yX6_init ∈ gT ∧ Cond.instanceMethod yX6_init ∈ gT ∧ Cond.initialized RX6 ∈ gT ∧ Cond.code yX6_init cX6_init 4 none ∈ gT) (hu : isU η q) (hxb : ext ηb η) (hq : q ∉ ηb.2.2.2.1) (hpx : isPa cA η ax n fx) (hpy : isPa cA η ay n fy) (hR : (Nat.ble 2 R.frames && Nat.ble 35 R.locals) = true) (hW : (rest.map fun v => v.category).sum ≤ 8) (hf : cells ≤ R.cells ∧ slots ≤ R.slots) (hdg : decode cc pc = .ok (.invokespecial idx, 3))
    (kk : ∀ (η1 : HS) (H1 : Heap) (locs1 : List Loc), ext ηb η1 → isRt cA η1 q (x, n, fx, fy) → HC D cA ad σ η1 H1 → va_D A0 (wC cA ad σ η1) → va_S A0 s.heap H1 locs1 → W p l e R s m args below meth c H1 locs1 cells slots Q (F0 m (pc + 3) ls rest)) : W p l e R s m args below meth c H locs cells slots Q (F0 m pc ls (.ref ay :: .ref ax :: .int x :: .ref q :: rest)) := by
  have hR' := (Bool.and_eq_true _ _).mp hR
  have hF := hF_of hD hA hS
  have hr : va_Run p l e R s m args below meth c H locs cells slots 0 0 (F0 m pc ls (.ref ay :: .ref ax :: .int x :: .ref q :: rest)) rest (QI D cA ad σ η (hset η q (.inr (6, [.int x, .ref ax, .ref ay]))) H.size ([.ref q, .int x, .ref ax, .ref ay] : List Value).toArray) (va_A (wC cA ad σ η) H.size) :=
    va_runI (b := q) (As := [.int x, .ref ax, .ref ay]) (rest := rest) C (kc_X6_init l D cA ad σ η q hu x ax ay H.size) (cwI (ws' := gT) 3 C.2.2.2.2 (gT_c hw.2.2.2) rfl rfl rfl (C.2.2.2.2 _ hw.2.2.1) (C.2.2.2.2 _ hw.1) (C.2.2.2.2 _ hw.2.1) rfl ⟨by decide, by decide, by decide +kernel⟩ ⟨Nat.le_of_ble_eq_true hR'.1, Nat.le_of_ble_eq_true hR'.2⟩) ⟨KC.blind, fun U hU hW => ⟨rfl, by rw [hU], by rw [hU]; exact hP, va_K.moved hW.alike hK, hD.weaken (fun _ _ _ _ => trivial), hZ.go hS hF hU hW⟩⟩ rfl rfl hl.1 rfl (lv_room hW) hdg hf
  intro T hT X
  obtain ⟨v, st₀, t, T', L, h0, X', hL, e1, e2, ⟨hv, hp, hk, hd, hz, hq'⟩, st⟩ := hr T hT X
  cases hv
  rw [h0] at hz hq'
  have n2 : ax ≠ q := fun z => by have := hpx.2; rw [z, hu.2] at this; cases this
  have n3 : ay ≠ q := fun z => by have := hpy.2; rw [z, hu.2] at this; cases this
  obtain ⟨t2, a1, b1⟩ := kk _ T'.heap (locs ++ L) (ext_set hxb hq) ⟨hu.1, ax, ay, va_up_self _ _ _, ⟨hpx.1, (va_up_ne _ _ n2).trans hpx.2⟩, ⟨hpy.1, (va_up_ne _ _ n3).trans hpy.2⟩⟩ (by rw [e1]; exact hp) (hd.weaken (fun k q _ h => hF q.1 h))
    ⟨Nat.le_trans hS.1 (by rw [e1]; exact hz), fun q h1 h2 => by rw [e1, hq' q (Nat.lt_of_lt_of_le h1 hS.1) (fun z => h2 (hF q z))]; exact hS.2.1 q h1 h2, fun q hq'' => by
      rcases List.mem_append.mp hq'' with h | h
      · exact hS.2.2 q h
      · exact hF _ (hL q h)⟩ T' rfl X'
  exact ⟨t2, st t2 a1, b1⟩
end B8
