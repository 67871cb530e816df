section B9
variable {p : Program} {l : Launch} {e : Env} {R : Room} {s : State} {m : MethodId} {args : Array Value} {below : List Frame} {meth : Method} {c : Code} {H : Heap} {locs : List Loc} {cells slots : Nat} {Q : State → Prop}
variable {D : va_G} {cA : Nat → ClassId} {ad : Nat → Nat} {σ σ' σ0 : CSt} {η η0 : HS} {y : MethodName} {cc bytes : ByteArray} {maxL nL fr lo pc idx k mc ms : Nat} {ret : Option FieldType} {av As rest : List Value} {own : String} {lvs : List (Nat × Value)} {ls : Array Slot} {b : Nat} {A0 : Nat → Prop} {v : RV}
theorem callMV (C : CallFix p m c cc nL s args gT own) (hK : va_K D vwCl (tyG cA) s) (hP : HC D cA ad σ η H) (hD : va_D A0 (wC cA ad σ η)) (hA : ∀ q : Nat, s.heap.size ≤ q → A0 q) (hS : va_S A0 s.heap H locs) (hZ : SZ ad A0 s s.heap) (h : CV own idx y bytes maxL ret k) (hl : lv_has ls nL lvs) (hM : KX l D cA ad σ η y bytes maxL ret (rmc fr lo mc ms) (.ref b :: As) (QM v D cA ad σ η σ')) (hrc : ∃ cell : Cell, H[b]? = some cell ∧ cell.vm.isStatics = false ∧ s.vm.findClass y.cls = some cell.cls) (hR : (Nat.ble (fr + 1) R.frames && Nat.ble (8 + (maxL + 11) + lo) R.locals) = true) (hn : As.length = k) {st : List Value} (hst : st = As.reverse ++ .ref b :: rest) (hW : (rest.map fun v => v.category).sum ≤ 8) (hf : cells + mc ≤ R.cells ∧ slots + ms ≤ R.slots) (hdg : decode cc pc = .ok (.invokevirtual idx, 3))
    (kk : ∀ (a : Nat) (η1 : HS) (H1 : Heap) (locs1 : List Loc), ext η η1 → isRt cA η1 a v → HC D cA ad σ' η1 H1 → va_D A0 (wC cA ad σ' η1) → va_S A0 s.heap H1 locs1 → W p l e R s m args below meth c H1 locs1 (cells + mc) (slots + ms) Q (F0 m (pc + 3) ls (.ref a :: rest))) : W p l e R s m args below meth c H locs cells slots Q (F0 m pc ls st) := by
  have hR' := (Bool.and_eq_true _ _).mp hR
  exact cM_go (va_runV (b := b) (As := As) (rest := rest) (g := F0 m pc ls st) C (hM H.size) (h.cwE C ⟨Nat.le_of_ble_eq_true hR'.1, Nat.le_of_ble_eq_true hR'.2⟩) ⟨KC.blind, hrc, fun U hU hW => ⟨rfl, by rw [hU], by rw [hU]; exact hP, va_K.moved hW.alike hK, hD.weaken (fun _ _ _ _ => trivial), hZ.go hS (hF_of hD hA hS) hU hW⟩⟩ rfl hn hl.1 hst (lv_room hW) hdg hf) hD hA hS kk
end B9
theorem CC.mo2 {c s : Nat} {σ0 σ σ' : CSt} (hm : Mo σ σ') (h : CC c s σ0 σ) : CC c s σ0 σ' := h.mo hm
theorem CC.add2 {c s : Nat} {σ0 σ σ' : CSt} (hm : Mo σ σ') (h : CC c s σ0 σ) : CC (c + (cs_nc σ' - cs_nc σ)) (s + (cs_ns σ' - cs_ns σ)) σ0 σ' := h.add hm
theorem mo_X8_makeRoute {F : Nat} {σ : CSt} {x : Int32} {v : RV} {R : CSt} (h : fc_X8_makeRoute F σ x = some (v, R)) : Mo σ R := by
  obtain ⟨-, h⟩ := gd_some h
  replace h := lt_e h
  obtain ⟨-, rfl⟩ := Prod.mk.inj (Option.some.inj h)
  exact ((Mo.bump _ _ _).tr (Mo.bump _ _ _)).tr (Mo.bump _ _ _)
theorem mo_X1_putBox {F : Nat} {σ : CSt} {x1 : Int32} {x2 : Int32} {x3 : Int32} {x4 : Int32} {x5 : Int32} {R : CSt} (h : fc_X1_putBox F σ x1 x2 x3 x4 x5 = some R) : Mo σ R := Mo.gh (fr_X1_putBox h).2.2.2.2.2.2.2.2.2.2.2.2.2
theorem mo_X1_putPort {F : Nat} {σ : CSt} {x1 : Int32} {x2 : Int32} {x3 : Int32} {x4 : Int32} {x5 : Int32} {R : CSt} (h : fc_X1_putPort F σ x1 x2 x3 x4 x5 = some R) : Mo σ R := Mo.gh (fr_X1_putPort h).2.2.2.2.2.2.2.2.2.2.2.2.2
theorem mo_X4_clear {F : Nat} {σ : CSt} {R : CSt} (h : fc_X4_clear F σ = some R) : Mo σ R := Mo.gh (fr_X4_clear h).2.2.2.2.2.2.2.2.2.2.2.2
theorem mo_X4_insert_28 {F : Nat} {σ : CSt} {x1 : Int32} {x2 : Int32} {r : Int32} {R : CSt} (h : fc_X4_insert_28 F σ x1 x2 = some (r, R)) : Mo σ R := Mo.gh (fr_X4_insert_28 h).2.2.2.2.2.2.2.2.2.2.2.2.2
theorem mo_X4_insert_29 {F : Nat} {σ : CSt} {x1 : Int32} {x2 : Int32} {r : Int32} {R : CSt} (h : fc_X4_insert_29 F σ x1 x2 = some (r, R)) : Mo σ R := Mo.gh (fr_X4_insert_29 h).2.2.2.2.2.2.2.2.2.2.2.2.2
theorem mo_X4_addLinesAround {F : Nat} {σ : CSt} {R : CSt} (h : fc_X4_addLinesAround F σ = some R) : Mo σ R := Mo.gh (fr_X4_addLinesAround h).2.2.2.2.2.2.2.2.2.2
theorem mo_X4_addLinesThrough {F : Nat} {σ : CSt} {x1 : Int32} {x2 : Int32} {R : CSt} (h : fc_X4_addLinesThrough F σ x1 x2 = some R) : Mo σ R := Mo.gh (fr_X4_addLinesThrough h).2.2.2.2.2.2.2.2.2.2
theorem mo_X4_joinNodes {F : Nat} {σ : CSt} {R : CSt} (h : fc_X4_joinNodes F σ = some R) : Mo σ R := Mo.gh (fr_X4_joinNodes h).2.2.2.2.2.2.2.2.2.2.2.2
theorem mo_X7_remove {F : Nat} {σ : CSt} {x1 : Int32} {x2 : Int32} {R : CSt} (h : fc_X7_remove F σ x1 x2 = some R) : Mo σ R := Mo.gh (fr_X7_remove h).2.2.2.2.2.2.2.2.2
theorem mo_X7_put {F : Nat} {σ : CSt} {x1 : Int32} {x2 : Int32} {R : CSt} (h : fc_X7_put F σ x1 x2 = some R) : Mo σ R := Mo.gh (fr_X7_put h).2.2.2.2.2.2.2.2.2
theorem mo_X8_offer {F : Nat} {σ : CSt} {x1 : Int32} {x2 : Int32} {R : CSt} (h : fc_X8_offer F σ x1 x2 = some R) : Mo σ R := Mo.gh (fr_X8_offer h).2.2.2.2.2.2.2.2.2.2.2.2.2.2.2.2
theorem mo_X7_takeCheapest {F : Nat} {σ : CSt} {r : Int32} {R : CSt} (h : fc_X7_takeCheapest F σ = some (r, R)) : Mo σ R := Mo.gh (fr_X7_takeCheapest h).2.2.2.2.2.2.2.2
theorem mo_X8_goBackFrom {F : Nat} {σ : CSt} {x1 : Int32} {R : CSt} (h : fc_X8_goBackFrom F σ x1 = some R) : Mo σ R := Mo.gh (fr_X8_goBackFrom h).2.2.2.2.2.2.2.2.2.2.2.2.2.2.2.2
theorem mo_X8_addCorner {F : Nat} {σ : CSt} {x1 : Int32} {x2 : Int32} {R : CSt} (h : fc_X8_addCorner F σ x1 x2 = some R) : Mo σ R := Mo.gh (fr_X8_addCorner h).2.2.2.2.2.2.2.2.2.2.2.2.2.2
theorem mo_X8_walk {F : Nat} {σ : CSt} {R : CSt} (h : fc_X8_walk F σ = some R) : Mo σ R := Mo.gh (fr_X8_walk h).2.2.2.2.2.2.2.2.2.2.2.2.2.2
theorem mo_X0_add {F : Nat} {σ : CSt} {vx1 : RV} {x2 : Int32} {R : CSt} (h : fc_X0_add F σ vx1 x2 = some R) : Mo σ R := Mo.gh (fr_X0_add h).2.2.2.2.2.2.2.2.2
theorem mo_X0_gather {F : Nat} {σ : CSt} {x2 : Int32} {x3 : Int32} {R : CSt} (h : fc_X0_gather F σ x2 x3 = some R) : Mo σ R := Mo.gh (fr_X0_gather h).2.2.2.2.2.2.2.2
theorem mo_X0_assignLanes {F : Nat} {σ : CSt} {R : CSt} (h : fc_X0_assignLanes F σ = some R) : Mo σ R := Mo.gh (fr_X0_assignLanes h).2.2.2.2.2.2.2.2.2.2.2.2.2.2
theorem mo_X0_lanesOfOwn {F : Nat} {σ : CSt} {r : Int32} {R : CSt} (h : fc_X0_lanesOfOwn F σ = some (r, R)) : Mo σ R := Mo.gh (fr_X0_lanesOfOwn h).2.2.2.2.2.2.2.2.2.2.2.2.2.2
theorem mo_X9_lane {F : Nat} {σ : CSt} {x1 : Int32} {x2 : Int32} {x3 : Int32} {r : Int32} {R : CSt} (h : fc_X9_lane F σ x1 x2 x3 = some (r, R)) : Mo σ R := Mo.gh (fr_X9_lane h).2.2.2.2.2.2.2.2
theorem mo_X2_append {F : Nat} {σ : CSt} {x1 : Int32} {R : CSt} (h : fc_X2_append F σ x1 = some R) : Mo σ R := Mo.gh (fr_X2_append h).2.2.2.2.2.2.2.2.2.2.2.2.2
theorem mo_X9_type {F : Nat} {σ : CSt} {x1 : Int32} {r : Int32} {R : CSt} (h : fc_X9_type F σ x1 = some (r, R)) : Mo σ R := Mo.gh (fr_X9_type h).2.2.2.2.2.2.2.2.2.2.2.2.2
theorem mo_X9_clearText {F : Nat} {σ : CSt} {r : Int32} {R : CSt} (h : fc_X9_clearText F σ = some (r, R)) : Mo σ R := Mo.gh (fr_X9_clearText h).2.2.2.2.2.2.2.2.2.2.2.2.2.2
theorem mo_X2_rewind {F : Nat} {σ : CSt} {R : CSt} (h : fc_X2_rewind F σ = some R) : Mo σ R := Mo.gh (fr_X2_rewind h).2.2.2.2.2.2.2.2.2.2.2.2
theorem mo_X2_skipBlanks {F : Nat} {σ : CSt} {R : CSt} (h : fc_X2_skipBlanks F σ = some R) : Mo σ R := Mo.gh (fr_X2_skipBlanks h).2.2.2.2.2.2.2.2.2.2.2.2.2.2
theorem mo_X2_readNumber {F : Nat} {σ : CSt} {r : Int32} {R : CSt} (h : fc_X2_readNumber F σ = some (r, R)) : Mo σ R := Mo.gh (fr_X2_readNumber h).2.2.2.2.2.2.2.2.2.2.2.2.2
theorem mo_X2_readSeparator {F : Nat} {σ : CSt} {r : Int32} {R : CSt} (h : fc_X2_readSeparator F σ = some (r, R)) : Mo σ R := Mo.gh (fr_X2_readSeparator h).2.2.2.2.2.2.2.2.2.2.2.2
theorem mo_X1_copyFrom_K {F : Nat} {σ : CSt} {i9 : Nat} {R : CSt} (h : fc_X1_copyFrom_K F σ i9 = some R) : Mo σ R := Mo.gh (fr_X1_copyFrom_K h).2.2.2.2.2.2.2.2
theorem mo_X1_copyFrom_M {F : Nat} {σ : CSt} {i9 : Nat} {R : CSt} (h : fc_X1_copyFrom_M F σ i9 = some R) : Mo σ R := Mo.gh (fr_X1_copyFrom_M h).2.2.2.2.2.2.2.2
theorem mo_X5_keep {F : Nat} {σ : CSt} {R : CSt} (h : fc_X5_keep F σ = some R) : Mo σ R := Mo.gh (fr_X5_keep h).2.2.2.2.2.2.2.2
theorem mo_X9_remember {F : Nat} {σ : CSt} {R : CSt} (h : fc_X9_remember F σ = some R) : Mo σ R := Mo.gh (fr_X9_remember h).2.2.2.2.2.2.2.2
theorem mo_X9_addBox {F : Nat} {σ : CSt} {x1 : Int32} {x2 : Int32} {x3 : Int32} {x4 : Int32} {r : Int32} {R : CSt} (h : fc_X9_addBox F σ x1 x2 x3 x4 = some (r, R)) : Mo σ R := Mo.gh (fr_X9_addBox h).2.2.2.2.2.2.2.2.2.2.2
theorem mo_X9_moveBox {F : Nat} {σ : CSt} {x1 : Int32} {x2 : Int32} {x3 : Int32} {r : Int32} {R : CSt} (h : fc_X9_moveBox F σ x1 x2 x3 = some (r, R)) : Mo σ R := Mo.gh (fr_X9_moveBox h).2.2.2.2.2.2.2.2.2.2.2.2
theorem mo_X9_link {F : Nat} {σ : CSt} {x1 : Int32} {x2 : Int32} {x3 : Int32} {x4 : Int32} {x5 : Int32} {x6 : Int32} {r : Int32} {R : CSt} (h : fc_X9_link F σ x1 x2 x3 x4 x5 x6 = some (r, R)) : Mo σ R := Mo.gh (fr_X9_link h).2.2.2.2.2.2.2.2.2.2
theorem mo_X1_removeConnector {F : Nat} {σ : CSt} {x1 : Int32} {R : CSt} (h : fc_X1_removeConnector F σ x1 = some R) : Mo σ R := Mo.gh (fr_X1_removeConnector h).2.2.2.2.2.2.2.2.2.2.2
theorem mo_X9_drop {F : Nat} {σ : CSt} {x1 : Int32} {r : Int32} {R : CSt} (h : fc_X9_drop F σ x1 = some (r, R)) : Mo σ R := Mo.gh (fr_X9_drop h).2.2.2.2.2.2.2.2.2.2
theorem mo_X9_setPenalty {F : Nat} {σ : CSt} {x1 : Int32} {r : Int32} {R : CSt} (h : fc_X9_setPenalty F σ x1 = some (r, R)) : Mo σ R := Mo.gh (fr_X9_setPenalty h).2.2.2.2.2.2.2.2.2.2.2.2
theorem mo_J7_fill_53178_24 {F : Nat} {σ : CSt} {x1 : Int32} {R : CSt} (h : fc_J7_fill_53178_24 F σ x1 = some R) : Mo σ R := Mo.gh (fr_J7_fill_53178_24 h).2.2.2.2.2.2.2.2.2.2.2.2.2.2.2.2
theorem mo_J7_fill_53178_33 {F : Nat} {σ : CSt} {x1 : Int32} {R : CSt} (h : fc_J7_fill_53178_33 F σ x1 = some R) : Mo σ R := Mo.gh (fr_J7_fill_53178_33 h).2.2.2.2.2.2.2.2.2.2.2
theorem mo_X7_clear {F : Nat} {σ : CSt} {R : CSt} (h : fc_X7_clear F σ = some R) : Mo σ R := Mo.gh (fr_X7_clear h).2.2.2.2.2.2.2.2.2.2
theorem mo_X8_prepare {F : Nat} {σ : CSt} {x2 : Int32} {R : CSt} (h : fc_X8_prepare F σ x2 = some R) : Mo σ R := Mo.gh (fr_X8_prepare h).2.2.2.2.2.2.2.2.2.2.2
theorem mo_X8_findCost {F : Nat} {σ : CSt} {x2 : Int32} {r : Int32} {R : CSt} (h : fc_X8_findCost F σ x2 = some (r, R)) : Mo σ R := Mo.gh (fr_X8_findCost h).2.2.2.2.2.2.2.2.2
theorem mo_X9_best {F : Nat} {σ : CSt} {x1 : Int32} {r : Int32} {R : CSt} (h : fc_X9_best F σ x1 = some (r, R)) : Mo σ R := Mo.gh (fr_X9_best h).2.2.2.2.2.2.2.2.2
theorem mo_X2_readWord {F : Nat} {σ : CSt} {r : Int32} {R : CSt} (h : fc_X2_readWord F σ = some (r, R)) : Mo σ R := Mo.gh (fr_X2_readWord h).2.2.2.2.2.2.2.2.2.2.2.2.2
theorem mo_X2_readCommand {F : Nat} {σ : CSt} {r : Int32} {R : CSt} (h : fc_X2_readCommand F σ = some (r, R)) : Mo σ R := Mo.gh (fr_X2_readCommand h).2.2.2.2.2.2.2.2.2.2
theorem mo_X2_findFault {F : Nat} {σ : CSt} {r : Int32} {R : CSt} (h : fc_X2_findFault F σ = some (r, R)) : Mo σ R := Mo.gh (fr_X2_findFault h).2.2.2.2.2.2.2.2.2.2
theorem mo_X9_textFault {F : Nat} {σ : CSt} {r : Int32} {R : CSt} (h : fc_X9_textFault F σ = some (r, R)) : Mo σ R := Mo.gh (fr_X9_textFault h).2.2.2.2.2.2.2.2.2.2
theorem mo_X5_restore {F : Nat} {σ : CSt} {R : CSt} (h : fc_X5_restore F σ = some R) : Mo σ R := Mo.gh (fr_X5_restore h).2.2.2.2.2.2.2.2.2
theorem mo_X9_undo {F : Nat} {σ : CSt} {r : Int32} {R : CSt} (h : fc_X9_undo F σ = some (r, R)) : Mo σ R := Mo.gh (fr_X9_undo h).2.2.2.2.2.2.2.2.2
