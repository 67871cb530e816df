/-! THE CLAIM OUT OF ONE WALK OF THE LAW'S BODY. Your part is whole_start (and what it stands on); all else here is the same for every law, but numbers. -/
def R_law : String := "ConnectorRouterLaw"
def lw_P (b : Addr) (xs : List Int32) (args : Array Value) (s : State) : Prop := args = #[.ref b] ∧ s.IntsAt b xs ∧ xs.length ≤ 3584 ∧ (Jvm.Cond.and given_1 narrow_1).before args s = true
def lw_Q (_ : Array Value) (s : State) (o : Outcome) (t : State) : Prop := o = .returned (some (.int 1)) ∧ Framed s o t [] 600000 7302250
def lw_Z (below : List Frame) (a : Array Value) (s : State) : State → Prop := fun t => ∃ o, t.status = .running ∧ Ended t below o ∧ lw_Q a s o t
/-- the law's own end, with 1 on the stack, nothing written that was there before, its room as the claim has it -/
theorem lw_ret {p : Program} {l : Launch} {e : Env} {s : State} {m : MethodId} {below : List Frame} {meth : Method} {c : Code} {b : Nat} (hx : p.tables.exec = Jvm.exec) (hb : c.code = code) (hr : meth.sig.returnType = ret) (hlocks : meth.locks = false) {pc : Nat} {H : Heap} {ls : Array Slot} (hdg : decode code pc = .ok (.ireturn, 1)) : W p l e room_1 s m #[Value.ref b] below meth c H [] 600000 7302250 (lw_Z below #[Value.ref b] s) (F0 m pc ls [.int 1]) := by
  intro T hT X
  obtain ⟨fs, hret, hrun, hended, hW, hframe⟩ := X.leave (v := some (.int 1)) (hlocks := hlocks) (fun h => by rw [hr] at h; cases h)
  have hmeth' : T.vm.method? m = some meth := X.method'
  refine ⟨T.setFrames fs, ?_, .returned (some (.int 1)), hrun, hended, rfl, ⟨_, rfl⟩, hW, hframe⟩
  jvm_step X.here [X.here.top, hx, hb, hdg, hmeth', hr, ret, narrow_b1]
  (try refine ⟨rfl, ?_⟩); (try refine ⟨rfl, ?_⟩)
  first | (intro acts; rw [hret _ acts rfl rfl rfl]) | rw [hret _ _ rfl rfl rfl]
  exact Steps.refl _
/-- what holds at the law's entry: the machine, the code, the tables' words (any of lw_tbl by 'hts w (by decide +kernel)'), the script of L ints xs at the cell b, what the Statement gives of the start (any of its parts by flat_of_before) -/
def lw_At (p : Program) (s : State) (m : MethodId) (meth : Method) (c : Code) (b L : Nat) (xs : Nat → Int32) : Prop :=
  p.tables.exec = Jvm.exec ∧ c.code = code ∧ meth.sig.returnType = ret ∧ c.maxLocals = 4 ∧ s.vm.findClass R_law = some m.cls ∧ (∀ w ∈ lw_tbl, w.before #[Value.ref b] s = true) ∧ va_X b L xs s s.heap ∧ b < s.heap.size ∧ meth.locks = false ∧ (Jvm.Cond.and given_1 narrow_1).before #[Value.ref b] s = true
/-! the law: two worlds side by side -/
theorem va_D.comm {A : Nat → Prop} {w1 w2 : va_W} (h : va_D A (w1 ++ w2)) : va_D A (w2 ++ w1) := va_D.app h.app_r h.app_l fun i j p q hi hj e => va_D.app_x h j i q p hj hi e.symm
/-- what holds of the law's own frame; A: cells that are new -/
def nwA_ (s : State) : Nat → Prop := fun q => s.heap.size ≤ q
abbrev lLv (b x y : Nat) (i : Int32) : List (Nat × Value) := [(3, .int i), (2, .ref y), (1, .ref x), (0, .ref b)]
/-- the answer of one call, both sides -/
def Sres (I : Nat → CSt → MS → Prop) (k : Nat) (σ σ' : CSt) (τ' : MS) : Prop := I (k + 1) σ' τ' ∧ cs_nc σ ≤ cs_nc σ' ∧ cs_ns σ ≤ cs_ns σ'
def GoOn (p : Program) (l : Launch) (e : Env) (s : State) (m : MethodId) (below : List Frame) (meth : Method) (c : Code) (b : Nat) (D : va_G) (cA : Nat → ClassId) (ad am : Nat → Nat) (J : CSt → MS → Prop) (i : Int32) (pc : Nat) : Prop :=
  ∀ (σ : CSt) (τ : MS) (η : HS) (H : Heap) (locs : List Loc) (cells slots : Nat) (ls : Array Slot), J σ τ → HC D cA ad σ η H → va_P D vwCl (wM cA am τ) H → va_D (nwA_ s) (wM cA am τ ++ wC cA ad σ η) → va_S (nwA_ s) s.heap H locs → cells ≤ cs_nc σ + 70 → slots ≤ cs_ns σ + 23000 → lv_has ls 4 (lLv b (ad 0) (am 0) i) → W p l e room_1 s m #[Value.ref b] below meth c H locs cells slots (lw_Z below #[Value.ref b] s) (F0 m pc ls [])
/-- the law's frame: code, words, classes, statics, script -/
def LwF (p : Program) (s : State) (m : MethodId) (c : Code) (b L : Nat) (xs : Nat → Int32) (D : va_G) (cA : Nat → ClassId) (ad : Nat → Nat) : Prop :=
  CallFix p m c cL_law 4 s #[Value.ref b] gT RL ∧ va_K D vwCl (tyG cA) s ∧ SZ ad (nwA_ s) s s.heap ∧ va_X b L xs s s.heap ∧ b < s.heap.size
section B9
variable {p : Program} {l : Launch} {e : Env} {R : Room} {s : State} {m : MethodId} {args : Array Value} {below : List Frame} {meth : Method} {c : Code} {H : Heap} {locs : List Loc} {cells slots : Nat} {Q : State → Prop}
variable {D : va_G} {cA : Nat → ClassId} {ad am : Nat → Nat} {σ σ' : CSt} {η : HS} {y : MethodName} {cc bytes : ByteArray} {maxL nL fr lo mc ms pc idx k : Nat} {ret : Option FieldType} {av As rest : List Value} {ro : Option Value} {own : String} {lvs : List (Nat × Value)} {a9 : Array Value} {ls : Array Slot} {b : Nat} {A0 : Nat → Prop} {wm wm' : va_W} {tys : List (ClassId × FieldType)}
theorem nwA_le : ∀ q : Nat, s.heap.size ≤ q → nwA_ s q := fun _ h => h
theorem st_grow {B : Nat → Prop} {H1 : Heap} {L : List Loc} (hS : va_S A0 s.heap H locs) (hF : ∀ q, B q → A0 q) (hz : H.size ≤ H1.size) (hq : ∀ q : Nat, q < H.size → ¬ B q → H1[q]? = H[q]?) (hL : ∀ q ∈ L, B q.base) : va_S A0 s.heap H1 (locs ++ L) :=
  ⟨Nat.le_trans hS.1 hz, fun q h1 h2 => by rw [hq q (Nat.lt_of_lt_of_le h1 hS.1) (fun z => h2 (hF q z))]; exact hS.2.1 q h1 h2, fun q hq' => by
      rcases List.mem_append.mp hq' with h | h
      · exact hS.2.2 q h
      · exact hF _ (hL q h)⟩
theorem lE_go {st0 : List Value} (hr : va_Run p l e R s m args below meth c H locs cells slots mc ms (F0 m pc ls st0) rest (QE ro D cA ad σ η σ' H.size a9) (va_A (wC cA ad σ η) H.size)) (hP : HC D cA ad σ η H) (hM : va_P D vwCl wm H) (hD : va_D A0 (wm ++ wC cA ad σ η)) (hA : ∀ q : Nat, s.heap.size ≤ q → A0 q) (hS : va_S A0 s.heap H locs)
    (kk : ∀ (η' : HS) (H1 : Heap) (locs1 : List Loc), HC D cA ad σ' η' H1 → va_P D vwCl wm H1 → va_D A0 (wm ++ wC cA ad σ' η') → va_S A0 s.heap H1 locs1 → W p l e R s m args below meth c H1 locs1 (cells + mc) (slots + ms) Q (F0 m (pc + 3) ls (ro.toList ++ rest))) : W p l e R s m args below meth c H locs cells slots Q (F0 m pc ls st0) := by
  have hF := hF_of (H0 := s.heap) hD.app_r hA hS
  intro T hT X
  obtain ⟨v, st₀, t, T', L, h0, X', hL, e1, e2, ⟨hv, η', hx, hp, hk, hd, hz, hq⟩, st⟩ := hr T hT X
  cases hv
  rw [h0] at hz hq
  have hj := join_r (H1 := T'.heap) (hM.app hP.2) hD (fun q h1 h2 => by rw [e1]; exact hq q h1 h2) hF (by rw [e1]; exact hp.2) hd
  obtain ⟨t2, a1, b1⟩ := kk η' T'.heap (locs ++ L) ⟨hp.1, by rw [e1]; exact hp.2⟩ hj.1.app_l hj.2 (st_grow hS hF (by rw [e1]; exact hz) (fun q h1 h2 => by rw [e1]; exact hq q h1 h2) hL) T' rfl X'
  exact ⟨t2, st t2 a1, b1⟩
theorem lC_go {st0 : List Value} (hr : va_Run p l e R s m args below meth c H locs cells slots 0 0 (F0 m pc ls st0) rest (QC ro D cA ad σ η σ' H.size a9) (va_A (wC cA ad σ η) H.size)) (hP : HC D cA ad σ η H) (hM : va_P D vwCl wm H) (hD : va_D A0 (wm ++ wC cA ad σ η)) (hA : ∀ q : Nat, s.heap.size ≤ q → A0 q) (hS : va_S A0 s.heap H locs)
    (kk : ∀ (H1 : Heap) (locs1 : List Loc), HC D cA ad σ' η H1 → va_P D vwCl wm H1 → va_D A0 (wm ++ wC cA ad σ' η) → va_S A0 s.heap H1 locs1 → W p l e R s m args below meth c H1 locs1 cells slots Q (F0 m (pc + 3) ls (ro.toList ++ rest))) : W p l e R s m args below meth c H locs cells slots Q (F0 m pc ls st0) := by
  have hF := hF_of (H0 := s.heap) hD.app_r hA hS
  intro T hT X
  obtain ⟨v, st₀, t, T', L, h0, X', hL, e1, e2, ⟨hv, hp, hk, hd, hz, hq⟩, st⟩ := hr T hT X
  cases hv
  rw [h0] at hz hq
  have hj := join_r (H1 := T'.heap) (hM.app hP.2) hD (fun q h1 h2 => by rw [e1]; exact hq q h1 h2) hF (by rw [e1]; exact hp.2) hd
  obtain ⟨t2, a1, b1⟩ := kk T'.heap (locs ++ L) ⟨hp.1, by rw [e1]; exact hp.2⟩ hj.1.app_l hj.2 (st_grow hS hF (by rw [e1]; exact hz) (fun q h1 h2 => by rw [e1]; exact hq q h1 h2) hL) T' rfl X'
  exact ⟨t2, st t2 a1, b1⟩
theorem lW_go {st0 : List Value} (hr : va_Run p l e R s m args below meth c H locs cells slots 0 0 (F0 m pc ls st0) rest (QW ro D tys wm wm' H.size a9) (va_A wm H.size)) (hP : HC D cA ad σ η H) (hM : va_P D vwCl wm H) (hD : va_D A0 (wm ++ wC cA ad σ η)) (hA : ∀ q : Nat, s.heap.size ≤ q → A0 q) (hS : va_S A0 s.heap H locs)
    (kk : ∀ (H1 : Heap) (locs1 : List Loc), HC D cA ad σ η H1 → va_P D vwCl wm' H1 → va_D A0 (wm' ++ wC cA ad σ η) → va_S A0 s.heap H1 locs1 → W p l e R s m args below meth c H1 locs1 cells slots Q (F0 m (pc + 3) ls (ro.toList ++ rest))) : W p l e R s m args below meth c H locs cells slots Q (F0 m pc ls st0) := by
  have hF := hF_of (H0 := s.heap) hD.app_l hA hS
  intro T hT X
  obtain ⟨v, st₀, t, T', L, h0, X', hL, e1, e2, ⟨hv, hp, hk, hd, hz, hq⟩, st⟩ := hr T hT X
  cases hv
  rw [h0] at hz hq
  have hj := join_r (H1 := T'.heap) (hP.2.app hM) hD.comm (fun q h1 h2 => by rw [e1]; exact hq q h1 h2) hF (by rw [e1]; exact hp) hd
  obtain ⟨t2, a1, b1⟩ := kk T'.heap (locs ++ L) ⟨hP.1, hj.1.app_l⟩ (by rw [e1]; exact hp) hj.2.comm (st_grow hS hF (by rw [e1]; exact hz) (fun q h1 h2 => by rw [e1]; exact hq q h1 h2) hL) T' rfl X'
  exact ⟨t2, st t2 a1, b1⟩
theorem lawE (C : CallFix p m c cc nL s args gT own) (hK : va_K D vwCl (tyG cA) s) (hZ : SZ ad A0 s s.heap) (hP : HC D cA ad σ η H) (hM : va_P D vwCl wm H) (hD : va_D A0 (wm ++ wC cA ad σ η)) (hA : ∀ q : Nat, s.heap.size ≤ q → A0 q) (hS : va_S A0 s.heap H locs) (h : CV own idx y bytes maxL ret k) (hl : lv_has ls nL lvs) (hMt : KE l D cA ad σ η y bytes maxL ret (rmc fr lo mc ms) (.ref b :: As) ro σ') (hrc : ∃ cell : Cell, H[b]? = some cell ∧ cell.vm.isStatics = false ∧ s.vm.findClass y.cls = some cell.cls) (hR : (Nat.ble (fr + 1) R.frames && Nat.ble (8 + (maxL + 11) + lo) R.locals) = true) (hn : As.length = k) {st : List Value} (hst : st = As.reverse ++ .ref b :: rest) (hW : (rest.map fun v => v.category).sum ≤ 8) (hf : cells + mc ≤ R.cells ∧ slots + ms ≤ R.slots) (hdg : decode cc pc = .ok (.invokevirtual idx, 3))
    (kk : ∀ (η' : HS) (H1 : Heap) (locs1 : List Loc), HC D cA ad σ' η' H1 → va_P D vwCl wm H1 → va_D A0 (wm ++ wC cA ad σ' η') → va_S A0 s.heap H1 locs1 → W p l e R s m args below meth c H1 locs1 (cells + mc) (slots + ms) Q (F0 m (pc + 3) ls (ro.toList ++ rest))) : W p l e R s m args below meth c H locs cells slots Q (F0 m pc ls st) := by
  have hR' := (Bool.and_eq_true _ _).mp hR
  exact lE_go (va_runV (b := b) (As := As) (rest := rest) (g := F0 m pc ls st) C (hMt H.size) (h.cwE C ⟨Nat.le_of_ble_eq_true hR'.1, Nat.le_of_ble_eq_true hR'.2⟩) ⟨KC.blind, hrc, fun U hU hW => ⟨rfl, by rw [hU], by rw [hU]; exact hP, va_K.moved hW.alike hK, hD.app_r.weaken (fun _ _ _ _ => trivial), hZ.go hS (hF_of hD.app_r hA hS) hU hW⟩⟩ rfl hn hl.1 hst (lv_room hW) hdg hf) hP hM hD hA hS kk
theorem lawC (C : CallFix p m c cc nL s args gT own) (hK : va_K D vwCl (tyG cA) s) (hZ : SZ ad A0 s s.heap) (hP : HC D cA ad σ η H) (hM : va_P D vwCl wm H) (hD : va_D A0 (wm ++ wC cA ad σ η)) (hA : ∀ q : Nat, s.heap.size ≤ q → A0 q) (hS : va_S A0 s.heap H locs) (h : CV own idx y bytes maxL ret k) (hl : lv_has ls nL lvs) (hMt : KC l D cA ad σ η y bytes maxL ret (rmk fr lo) (.ref b :: As) ro σ') (hrc : ∃ cell : Cell, H[b]? = some cell ∧ cell.vm.isStatics = false ∧ s.vm.findClass y.cls = some cell.cls) (hR : (Nat.ble (fr + 1) R.frames && Nat.ble (8 + (maxL + 11) + lo) R.locals) = true) (hn : As.length = k) {st : List Value} (hst : st = As.reverse ++ .ref b :: rest) (hW : (rest.map fun v => v.category).sum ≤ 8) (hf : cells + 0 ≤ R.cells ∧ slots + 0 ≤ R.slots) (hdg : decode cc pc = .ok (.invokevirtual idx, 3))
    (kk : ∀ (H1 : Heap) (locs1 : List Loc), HC D cA ad σ' η H1 → va_P D vwCl wm H1 → va_D A0 (wm ++ wC cA ad σ' η) → va_S A0 s.heap H1 locs1 → W p l e R s m args below meth c H1 locs1 cells slots Q (F0 m (pc + 3) ls (ro.toList ++ rest))) : W p l e R s m args below meth c H locs cells slots Q (F0 m pc ls st) := by
  have hR' := (Bool.and_eq_true _ _).mp hR
  exact lC_go (va_runV (b := b) (As := As) (rest := rest) (g := F0 m pc ls st) C (hMt H.size) (h.cw C ⟨Nat.le_of_ble_eq_true hR'.1, Nat.le_of_ble_eq_true hR'.2⟩) ⟨KC.blind, hrc, fun U hU hW => ⟨rfl, by rw [hU], by rw [hU]; exact hP, va_K.moved hW.alike hK, hD.app_r.weaken (fun _ _ _ _ => trivial), hZ.go hS (hF_of hD.app_r hA hS) hU hW⟩⟩ rfl hn hl.1 hst (lv_room hW) hdg hf) hP hM hD hA hS kk
theorem lawW (C : CallFix p m c cc nL s args gT own) (hK : va_K D vwCl (tyG cA) s) (hP : HC D cA ad σ η H) (hM : va_P D vwCl wm H) (hD : va_D A0 (wm ++ wC cA ad σ η)) (hA : ∀ q : Nat, s.heap.size ≤ q → A0 q) (hS : va_S A0 s.heap H locs) (h : CV own idx y bytes maxL ret k) (hl : lv_has ls nL lvs) (hMt : KW l D (tyG cA) y bytes maxL ret (rmk fr lo) wm (.ref b :: As) ro wm') (hrc : ∃ cell : Cell, H[b]? = some cell ∧ cell.vm.isStatics = false ∧ s.vm.findClass y.cls = some cell.cls) (hR : (Nat.ble (fr + 1) R.frames && Nat.ble (8 + (maxL + 11) + lo) R.locals) = true) (hn : As.length = k) {st : List Value} (hst : st = As.reverse ++ .ref b :: rest) (hW : (rest.map fun v => v.category).sum ≤ 8) (hf : cells + 0 ≤ R.cells ∧ slots + 0 ≤ R.slots) (hdg : decode cc pc = .ok (.invokevirtual idx, 3))
    (kk : ∀ (H1 : Heap) (locs1 : List Loc), HC D cA ad σ η H1 → va_P D vwCl wm' H1 → va_D A0 (wm' ++ wC cA ad σ η) → va_S A0 s.heap H1 locs1 → W p l e R s m args below meth c H1 locs1 cells slots Q (F0 m (pc + 3) ls (ro.toList ++ rest))) : W p l e R s m args below meth c H locs cells slots Q (F0 m pc ls st) := by
  have hR' := (Bool.and_eq_true _ _).mp hR
  exact lW_go (va_runV (b := b) (As := As) (rest := rest) (g := F0 m pc ls st) C (hMt H.size) (h.cw C ⟨Nat.le_of_ble_eq_true hR'.1, Nat.le_of_ble_eq_true hR'.2⟩) ⟨KW.blind, hrc, fun U hU hW => ⟨rfl, by rw [hU], by rw [hU]; exact hM, va_K.moved hW.alike hK, hD.app_l.weaken (fun _ _ _ _ => trivial)⟩⟩ rfl hn hl.1 hst (lv_room hW) hdg hf) hP hM hD hA hS kk
theorem lw_rcX (hK : va_K D vwCl (tyG cA) s) (hP : HC D cA ad σ η H) : ∃ cell : Cell, H[ad 0]? = some cell ∧ cell.vm.isStatics = false ∧ s.vm.findClass RX9 = some cell.cls := rcC 0 9 hK hP rfl rfl
theorem lw_rcM {τ : MS} (hK : va_K D vwCl (tyG cA) s) (hP : va_P D vwCl (wM cA am τ) H) : ∃ cell : Cell, H[am 0]? = some cell ∧ cell.vm.isStatics = false ∧ s.vm.findClass RX10 = some cell.cls := va_recv hK hP (ci := 10) (q0 := 0) rfl rfl
theorem lw_bA (h : b < s.heap.size) : ¬ nwA_ s b := Nat.not_le.mpr h
end B9
