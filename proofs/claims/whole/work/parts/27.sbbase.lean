theorem cW_inJ4 : ∀ w ∈ u_ws RJ4 TJ4 4, w ∈ gT := fun w hw => gT_f ((by decide +kernel : ∀ w ∈ u_ws RJ4 TJ4 4, w ∈ lw_tbl) w hw) ((by decide +kernel : ∀ w ∈ u_ws RJ4 TJ4 4, goodWord w = true) w hw)
def sc_sv (σ : CSt) (i : Int32) (x : Int32) : CSt := cs_sv_s σ (upd (cs_sv σ) i.toNatClampNeg (vp_nar .byte x))
section C4
variable {p : Program} {l : Launch} {e : Env} {R : Room} {s : State} {m : MethodId} {args : Array Value} {below : List Frame} {meth : Method} {c : Code} {H : Heap} {locs : List Loc} {cells slots : Nat} {Q : State → Prop}
variable {D : va_G} {cA : Nat → ClassId} {ad : Nat → Nat} {σ : CSt} {η : HS} {cc : ByteArray} {nL pc idx : Nat} {own : String} {rest : List Value} {ls : Array Slot} {A0 : Nat → Prop} {H0 : Heap} {a n : Nat} {f : Nat → Int32} {v : RV}
theorem gb_value (C : CallFix p m c cc nL s args gT own) (hK : va_K D vwCl (tyG cA) s) (hP : HC D cA ad σ η H) (hln : Cond.fieldLink own idx "java/lang/AbstractStringBuilder" "value" "[B" ∈ gT) (hdg : decode cc pc = .ok (.getfield idx, 3)) (kk : W p l e R s m args below meth c H locs cells slots Q (F0 m (pc + 3) ls (.ref η.2.2.1 :: rest))) : W p l e R s m args below meth c H locs cells slots Q (F0 m pc ls (.ref (ad 45) :: rest)) :=
  va_get (ci := 0) (C := RJ4) (T := TJ4) (N := 4) C.1 C.2.1 C.2.2.2.2 cW_inJ4 C.2.2.2.1 hK hP.2 45 rfl rfl 0 (by decide) (C.2.2.2.2 _ hln) (fun _ h9 => h9) rfl hdg kk
theorem gb_coder (C : CallFix p m c cc nL s args gT own) (hK : va_K D vwCl (tyG cA) s) (hP : HC D cA ad σ η H) (hln : Cond.fieldLink own idx "java/lang/AbstractStringBuilder" "coder" "B" ∈ gT) (hdg : decode cc pc = .ok (.getfield idx, 3)) (kk : W p l e R s m args below meth c H locs cells slots Q (F0 m (pc + 3) ls (.int (0 : Int32) :: rest))) : W p l e R s m args below meth c H locs cells slots Q (F0 m pc ls (.ref (ad 45) :: rest)) :=
  va_get (ci := 0) (C := RJ4) (T := TJ4) (N := 4) C.1 C.2.1 C.2.2.2.2 cW_inJ4 C.2.2.2.1 hK hP.2 45 rfl rfl 1 (by decide) (C.2.2.2.2 _ hln) (fun _ h9 => h9) rfl hdg kk
theorem gb_maybeLatin1 (C : CallFix p m c cc nL s args gT own) (hK : va_K D vwCl (tyG cA) s) (hP : HC D cA ad σ η H) (hln : Cond.fieldLink own idx "java/lang/AbstractStringBuilder" "maybeLatin1" "Z" ∈ gT) (hdg : decode cc pc = .ok (.getfield idx, 3)) (kk : W p l e R s m args below meth c H locs cells slots Q (F0 m (pc + 3) ls (.int (cs_sml σ) :: rest))) : W p l e R s m args below meth c H locs cells slots Q (F0 m pc ls (.ref (ad 45) :: rest)) :=
  va_get (ci := 0) (C := RJ4) (T := TJ4) (N := 4) C.1 C.2.1 C.2.2.2.2 cW_inJ4 C.2.2.2.1 hK hP.2 45 rfl rfl 2 (by decide) (C.2.2.2.2 _ hln) (fun _ h9 => h9) rfl hdg kk
theorem pb_maybeLatin1 (C : CallFix p m c cc nL s args gT own) (hK : va_K D vwCl (tyG cA) s) (hP : HC D cA ad σ η H) (hD : va_D A0 (wC cA ad σ η)) (hS : va_S A0 H0 H locs) {x : Int32} (hz : x = 0 ∨ x = 1) (hln : Cond.fieldLink own idx "java/lang/AbstractStringBuilder" "maybeLatin1" "Z" ∈ gT) (hdg : decode cc pc = .ok (.putfield idx, 3)) (kk : ∀ (H1 : Heap) (locs1 : List Loc), HC D cA ad (cs_sml_s σ x) η H1 → va_D A0 (wC cA ad (cs_sml_s σ x) η) → va_S A0 H0 H1 locs1 → W p l e R s m args below meth c H1 locs1 cells slots Q (F0 m (pc + 3) ls (rest))) : W p l e R s m args below meth c H locs cells slots Q (F0 m pc ls (.int x :: .ref (ad 45) :: rest)) :=
  va_put (ci := 0) (C := RJ4) (T := TJ4) (N := 4) (v := .int x) (ty := .boolean) C.1 C.2.1 C.2.2.2.2 cW_inJ4 tyJ4 tyJ4_ok nmJ4 C.2.2.2.1 hK hP.2 hD hS 45 rfl rfl 2 (by decide) (C.2.2.2.2 _ hln) (fun _ h9 => h9) rfl (by decide +kernel) (nar_z hz) (fit_z hz) (Nat.le_of_ble_eq_true rfl) hdg (fun H1 locs1 a1 a2 a3 => kk H1 locs1 ⟨hP.1, a1⟩ a2 a3)
theorem gb_count (C : CallFix p m c cc nL s args gT own) (hK : va_K D vwCl (tyG cA) s) (hP : HC D cA ad σ η H) (hln : Cond.fieldLink own idx "java/lang/AbstractStringBuilder" "count" "I" ∈ gT) (hdg : decode cc pc = .ok (.getfield idx, 3)) (kk : W p l e R s m args below meth c H locs cells slots Q (F0 m (pc + 3) ls (.int (cs_sct σ) :: rest))) : W p l e R s m args below meth c H locs cells slots Q (F0 m pc ls (.ref (ad 45) :: rest)) :=
  va_get (ci := 0) (C := RJ4) (T := TJ4) (N := 4) C.1 C.2.1 C.2.2.2.2 cW_inJ4 C.2.2.2.1 hK hP.2 45 rfl rfl 3 (by decide) (C.2.2.2.2 _ hln) (fun _ h9 => h9) rfl hdg kk
theorem pb_count (C : CallFix p m c cc nL s args gT own) (hK : va_K D vwCl (tyG cA) s) (hP : HC D cA ad σ η H) (hD : va_D A0 (wC cA ad σ η)) (hS : va_S A0 H0 H locs) {x : Int32} (hln : Cond.fieldLink own idx "java/lang/AbstractStringBuilder" "count" "I" ∈ gT) (hdg : decode cc pc = .ok (.putfield idx, 3)) (kk : ∀ (H1 : Heap) (locs1 : List Loc), HC D cA ad (cs_sct_s σ x) η H1 → va_D A0 (wC cA ad (cs_sct_s σ x) η) → va_S A0 H0 H1 locs1 → W p l e R s m args below meth c H1 locs1 cells slots Q (F0 m (pc + 3) ls (rest))) : W p l e R s m args below meth c H locs cells slots Q (F0 m pc ls (.int x :: .ref (ad 45) :: rest)) :=
  va_put (ci := 0) (C := RJ4) (T := TJ4) (N := 4) (v := .int x) (ty := .int) C.1 C.2.1 C.2.2.2.2 cW_inJ4 tyJ4 tyJ4_ok nmJ4 C.2.2.2.1 hK hP.2 hD hS 45 rfl rfl 3 (by decide) (C.2.2.2.2 _ hln) (fun _ h9 => h9) rfl (by decide +kernel) rfl rfl (Nat.le_of_ble_eq_true rfl) hdg (fun H1 locs1 a1 a2 a3 => kk H1 locs1 ⟨hP.1, a1⟩ a2 a3)
theorem lb_sv (C : CallFix p m c cc nL s args gT own) (hK : va_K D vwCl (tyG cA) s) (hP : HC D cA ad σ η H) {i : Int32} (hi : ix i (cs_scap σ) = true) (hdg : decode cc pc = .ok (.baload, 1)) (kk : W p l e R s m args below meth c H locs cells slots Q (F0 m (pc + 1) ls (.int (cs_sv σ i.toNatClampNeg) :: rest))) : W p l e R s m args below meth c H locs cells slots Q (F0 m pc ls (.int i :: .ref η.2.2.1 :: rest)) := va_bald C.1 C.2.1 hK hP.2 46 2 rfl rfl (ix_in hi) hdg kk
theorem nb_sv (C : CallFix p m c cc nL s args gT own) (hK : va_K D vwCl (tyG cA) s) (hP : HC D cA ad σ η H) (hdg : decode cc pc = .ok (.arraylength, 1)) (kk : W p l e R s m args below meth c H locs cells slots Q (F0 m (pc + 1) ls (.int (nI (cs_scap σ)) :: rest))) : W p l e R s m args below meth c H locs cells slots Q (F0 m pc ls (.ref η.2.2.1 :: rest)) := va_alen C.1 C.2.1 hK hP.2 46 2 rfl rfl rfl hdg kk
theorem ub_sv (C : CallFix p m c cc nL s args gT own) (hK : va_K D vwCl (tyG cA) s) (hP : HC D cA ad σ η H) (hD : va_D A0 (wC cA ad σ η)) (hS : va_S A0 H0 H locs) {i x : Int32} (hi : ix i (cs_scap σ) = true) (hdg : decode cc pc = .ok (.bastore, 1)) (kk : ∀ (H1 : Heap) (locs1 : List Loc), HC D cA ad (sc_sv σ i x) η H1 → va_D A0 (wC cA ad (sc_sv σ i x) η) → va_S A0 H0 H1 locs1 → W p l e R s m args below meth c H1 locs1 cells slots Q (F0 m (pc + 1) ls (rest))) : W p l e R s m args below meth c H locs cells slots Q (F0 m pc ls (.int x :: .int i :: .ref η.2.2.1 :: rest)) := va_bast C.1 C.2.1 hK hP.2 hD hS 46 2 (n := cs_scap σ) (f := cs_sv σ) rfl rfl (ix_in hi) hdg (fun H1 locs1 a1 a2 a3 => kk H1 locs1 ⟨hP.1, a1⟩ a2 a3)
theorem rcS (hK : va_K D vwCl (tyG cA) s) (hP : HC D cA ad σ η H) : ∃ cell : Cell, H[ad 45]? = some cell ∧ cell.vm.isStatics = false ∧ s.vm.findClass RJ4 = some cell.cls := va_recv hK hP.2 (ci := 0) (q0 := 45) rfl rfl
end C4
/-- calls of the superclass's methods on a StringBuilder: virtual, and super.m(..) -/
def CU (own : String) (idx : Nat) (y : MethodName) (b : ByteArray) (n : Nat) (r : Option FieldType) (k : Nat) : Prop := Cond.methodLink own idx y ∈ gT ∧ Cond.sameMethod y.cls y.cls y.name y.desc ∈ gT ∧ Cond.selects RJ4 y y ∈ gT ∧ Cond.instanceMethod y ∈ gT ∧ Cond.initialized y.cls ∈ gT ∧ Cond.code y b n r ∈ gT ∧ y.cls ≠ "java/lang/invoke/MethodHandle" ∧ y.cls ≠ "java/lang/invoke/VarHandle" ∧ (parseMethodDescriptor y.desc).map (fun d => d.parameters.length) = some k
def CP (own : String) (idx : Nat) (y : MethodName) (b : ByteArray) (n : Nat) (r : Option FieldType) (k : Nat) : Prop := Cond.methodLink own idx y ∈ gT ∧ Cond.sameMethod y.cls y.cls y.name y.desc ∈ gT ∧ Cond.superclass own y.cls ∈ gT ∧ Cond.instanceMethod y ∈ gT ∧ Cond.initialized y.cls ∈ gT ∧ Cond.code y b n r ∈ gT ∧ y.name ≠ "<init>" ∧ (parseMethodDescriptor y.desc).map (fun d => d.parameters.length) = some k
section B10
variable {p : Program} {l : Launch} {e : Env} {R : Room} {s : State} {m : MethodId} {args : Array Value} {below : List Frame} {meth : Method} {c : Code} {H : Heap} {locs : List Loc} {cells slots : Nat} {Q : State → Prop}
variable {D : va_G} {cA : Nat → ClassId} {ad : Nat → Nat} {σ σ' σ0 : CSt} {η η0 : HS} {y : MethodName} {cc bytes : ByteArray} {maxL nL pc idx k mc ms : Nat} {rm : Room} {ret : Option FieldType} {av As rest : List Value} {ro : Option Value} {own : String} {lvs : List (Nat × Value)} {ls : Array Slot} {A0 : Nat → Prop} {Pc : Array Value → State → Prop} {Qc : Array Value → State → Outcome → State → Prop} {free : Addr → Prop}
theorem CU.run {b : Nat} (h : CU own idx y bytes maxL ret k) (C : CallFix p m c cc nL s args gT own) (hl : lv_has ls nL lvs) (hM : Met l y (Cond.code y bytes maxL ret :: gT) rm Pc Qc rm.cells rm.slots free) (hp : PreV s H RJ4 b Pc As) (hR : (Nat.ble (rm.frames + 1) R.frames && Nat.ble (8 + (maxL + 11) + rm.locals) R.locals) = true) (hn : As.length = k) {st : List Value} (hst : st = As.reverse ++ .ref b :: rest) (hW : (rest.map fun v => v.category).sum ≤ 8) (hf : cells + rm.cells ≤ R.cells ∧ slots + rm.slots ≤ R.slots) (hdg : decode cc pc = .ok (.invokevirtual idx, 3)) : va_Run p l e R s m args below meth c H locs cells slots rm.cells rm.slots (F0 m pc ls st) rest (Qc (Value.ref b :: As).toArray) free := by
  have hR' := (Bool.and_eq_true _ _).mp hR
  obtain ⟨h1, h2, h3, h4, h5, h6, h7, h8, h9⟩ := h
  refine va_runU (As := As) (rest := rest) (g := F0 m pc ls st) C hM (va_cwU (ws' := gT) (C := RJ4) (owner := y.cls) (x := y) k C.2.2.2.2 (gT_app h6 ?_) rfl rfl rfl rfl ⟨h7, h8, h9⟩ ⟨Nat.le_of_ble_eq_true hR'.1, Nat.le_of_ble_eq_true hR'.2⟩) hp rfl hn hl.1 hst (lv_room hW) hdg hf
  intro w hw
  simp only [List.mem_cons, List.not_mem_nil, or_false] at hw
  rcases hw with rfl | rfl | rfl | rfl | rfl <;> assumption
theorem CP.run {b : Nat} (h : CP own idx y bytes maxL ret k) (C : CallFix p m c cc nL s args gT own) (hK : va_K D vwCl (tyG cA) s) (hl : lv_has ls nL lvs) (hM : Met l y (Cond.code y bytes maxL ret :: gT) rm Pc Qc rm.cells rm.slots free) (hp : PreV s H RJ4 b Pc As) (hR : (Nat.ble (rm.frames + 1) R.frames && Nat.ble (8 + (maxL + 11) + rm.locals) R.locals) = true) (hn : As.length = k) {st : List Value} (hst : st = As.reverse ++ .ref b :: rest) (hW : (rest.map fun v => v.category).sum ≤ 8) (hf : cells + rm.cells ≤ R.cells ∧ slots + rm.slots ≤ R.slots) (hdg : decode cc pc = .ok (.invokespecial idx, 3)) : va_Run p l e R s m args below meth c H locs cells slots rm.cells rm.slots (F0 m pc ls st) rest (Qc (Value.ref b :: As).toArray) free := by
  have hR' := (Bool.and_eq_true _ _).mp hR
  obtain ⟨h1, h2, h3, h4, h5, h6, h7, h9⟩ := h
  refine va_runSU (C := RJ4) (cC := D.1 0) (As := As) (rest := rest) (g := F0 m pc ls st) (hK.1 0 _ rfl).2 C hM (va_cwSU (ws' := gT) k C.2.2.2.2 (gT_app h6 ?_) rfl rfl rfl ⟨h7, h9⟩ ⟨Nat.le_of_ble_eq_true hR'.1, Nat.le_of_ble_eq_true hR'.2⟩) hp rfl hn hl.1 hst (lv_room hW) hdg hf
  intro w hw
  simp only [List.mem_cons, List.not_mem_nil, or_false] at hw
  rcases hw with rfl | rfl | rfl | rfl | rfl <;> assumption
theorem CV.run {b : Nat} (h : CV own idx y bytes maxL ret k) (C : CallFix p m c cc nL s args gT own) (hl : lv_has ls nL lvs) (hM : Met l y (Cond.code y bytes maxL ret :: gT) rm Pc Qc rm.cells rm.slots free) (hp : PreV s H y.cls b Pc As) (hR : (Nat.ble (rm.frames + 1) R.frames && Nat.ble (8 + (maxL + 11) + rm.locals) R.locals) = true) (hn : As.length = k) {st : List Value} (hst : st = As.reverse ++ .ref b :: rest) (hW : (rest.map fun v => v.category).sum ≤ 8) (hf : cells + rm.cells ≤ R.cells ∧ slots + rm.slots ≤ R.slots) (hdg : decode cc pc = .ok (.invokevirtual idx, 3)) : va_Run p l e R s m args below meth c H locs cells slots rm.cells rm.slots (F0 m pc ls st) rest (Qc (Value.ref b :: As).toArray) free := by
  have hR' := (Bool.and_eq_true _ _).mp hR
  obtain ⟨h1, h2, h3, h4, h5, h6, h7, h8⟩ := h
  refine va_runV (b := b) (As := As) (rest := rest) (g := F0 m pc ls st) C hM (cwV (ws' := gT) k C.2.2.2.2 (gT_app h5 ?_) rfl rfl rfl ⟨rfl, h6, h7, h8⟩ ⟨Nat.le_of_ble_eq_true hR'.1, Nat.le_of_ble_eq_true hR'.2⟩) hp rfl hn hl.1 hst (lv_room hW) hdg hf
  intro w hw
  simp only [List.mem_cons, List.not_mem_nil, or_false] at hw
  rcases hw with rfl | rfl | rfl | rfl <;> assumption
/-- what a contract's start asks, here -/
theorem preR {b : Nat} {Cn : String} (hK : va_K D vwCl (tyG cA) s) (hP : HC D cA ad σ η H) (hZ : SZ ad A0 s s.heap) (hS : va_S A0 s.heap H locs) (hrc : ∃ cell : Cell, H[b]? = some cell ∧ cell.vm.isStatics = false ∧ s.vm.findClass Cn = some cell.cls) : PreV s H Cn b (va_Pc (.ref b :: As) (fun U => HC D cA ad σ η U.heap ∧ va_K D vwCl (tyG cA) U ∧ SZ ad NoA U U.heap)) As := ⟨KRc.blind, hrc, fun U hU hW => ⟨rfl, by rw [hU]; exact hP, va_K.moved hW.alike hK, hZ.go hS (fun q h => h.elim) hU hW⟩⟩
theorem preC {b : Nat} {Cn : String} (hK : va_K D vwCl (tyG cA) s) (hP : HC D cA ad σ η H) (hD : va_D A0 (wC cA ad σ η)) (hA : ∀ q : Nat, s.heap.size ≤ q → A0 q) (hZ : SZ ad A0 s s.heap) (hS : va_S A0 s.heap H locs) (hrc : ∃ cell : Cell, H[b]? = some cell ∧ cell.vm.isStatics = false ∧ s.vm.findClass Cn = some cell.cls) : PreV s H Cn b (va_Pc (.ref b :: As) (fun U => U.heap.size = H.size ∧ HC D cA ad σ η U.heap ∧ va_K D vwCl (tyG cA) U ∧ va_D (fun _ => True) (wC cA ad σ η) ∧ SZ ad (va_A (wC cA ad σ η) H.size) U U.heap)) As := ⟨KC.blind, hrc, fun U hU hW => ⟨rfl, by rw [hU], by rw [hU]; exact hP, va_K.moved hW.alike hK, hD.weaken (fun _ _ _ _ => trivial), hZ.go hS (hF_of hD hA hS) hU hW⟩⟩
theorem KE.aret {Cn : String} {a : Nat} (C : CallFix p m c cc nL s args gT own) (hr : meth.sig.returnType = some (.object Cn)) (hlk : meth.locks = false) (hK : va_K D vwCl (tyG cA) s) (hA : A0 = va_A (wC cA ad σ η) s.heap.size) (hx : ext η η0) (hP : HC D cA ad σ' η0 H) (hD : va_D A0 (wC cA ad σ' η0)) (hS : va_S A0 s.heap H locs) (h1 : cells ≤ mc) (h2 : slots ≤ ms) (he : ro = some (.ref a)) (hdg : decode cc pc = .ok (.areturn, 1)) : W p l e R s m args below meth c H locs cells slots (MQ below (QE ro D cA ad σ η σ' s.heap.size) args s mc ms A0) (F0 m pc ls [.ref a]) := by
  subst he
  exact W.widen h1 h2 (W.aret C.1 C.2.1 hr (Or.inl ⟨_, rfl⟩) (Or.inr ⟨_, rfl⟩) (KE.q hK hx hP hD hS hA) hS.2.2 hdg hlk)
end B10
/-- one cell takes another's place, which goes -/
theorem gr_map {A B : va_W} {b d : Nat × va_E} (k : Nat) (q : Nat × va_E) (hk : (A ++ d :: B)[k]? = some q) : (A ++ b :: B ++ [d])[if k = A.length then A.length + 1 + B.length else k]? = some q := by
  by_cases h1 : k = A.length
  · rw [if_pos h1]
    subst h1
    rw [List.getElem?_append_right (Nat.le_refl _), Nat.sub_self] at hk
    rw [List.getElem?_append_right (by simp only [List.length_append, List.length_cons]; omega)]
    rw [show A.length + 1 + B.length - (A ++ b :: B).length = 0 by simp only [List.length_append, List.length_cons]; omega]
    exact hk
  · rw [if_neg h1]
    by_cases h2 : k < A.length
    · rw [List.getElem?_append_left h2] at hk
      rw [List.append_assoc, List.getElem?_append_left h2]
      exact hk
    · rw [List.getElem?_append_right (by omega)] at hk
      have h3 : k - A.length = (k - A.length - 1) + 1 := by omega
      rw [h3, List.getElem?_cons_succ] at hk
      have h4 : k - A.length - 1 < B.length := (List.getElem?_eq_some_iff.mp hk).1
      rw [List.append_assoc, List.getElem?_append_right (by omega), h3, List.cons_append, List.getElem?_cons_succ, List.getElem?_append_left h4]
      exact hk
theorem gr_P {D : va_G} {cl : List vw_C} {A B : va_W} {b d : Nat × va_E} {H : Heap} (h : va_P D cl (A ++ b :: B ++ [d]) H) : va_P D cl (A ++ d :: B) H := h.by _ gr_map
theorem gr_D {A0 : Nat → Prop} {A B : va_W} {b d : Nat × va_E} (h : va_D A0 (A ++ b :: B ++ [d])) : va_D A0 (A ++ d :: B) := by
  refine h.by _ gr_map (fun i j hi hj e => ?_)
  simp only [List.length_append, List.length_cons] at hi hj
  by_cases h1 : i = A.length <;> by_cases h2 : j = A.length <;> simp only [h1, h2, if_true, if_false] at e <;> omega
