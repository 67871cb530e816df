theorem br_any {α : Type} {P : Prop} [Decidable P] {a b : Option α} {x : α} (h : (if P then a else b) = some x) : a = some x ∨ b = some x := by
  by_cases hp : P
  · exact Or.inl (br_p hp h)
  · exact Or.inr (br_n hp h)
theorem mo_any {α : Type} {o : Option RV} {a : Option α} {k : RV → Option α} {x : α} (h : mo o a k = some x) : a = some x ∨ ∃ v, k v = some x := by
  cases o with
  | none => exact Or.inl h
  | some v => exact Or.inr ⟨v, h⟩
def Fr_X1_putBox (σ σ' : CSt) : Prop := cs_cb σ' = cs_cb σ ∧ cs_cc σ' = cs_cc σ ∧ cs_cp σ' = cs_cp σ ∧ cs_cq σ' = cs_cq σ ∧ cs_cr σ' = cs_cr σ ∧ σ'.2.1 = σ.2.1 ∧ σ'.2.2.1 = σ.2.2.1 ∧ σ'.2.2.2.1 = σ.2.2.2.1 ∧ σ'.2.2.2.2.1 = σ.2.2.2.2.1 ∧ σ'.2.2.2.2.2.1 = σ.2.2.2.2.2.1 ∧ σ'.2.2.2.2.2.2.1 = σ.2.2.2.2.2.2.1 ∧ σ'.2.2.2.2.2.2.2.1 = σ.2.2.2.2.2.2.2.1 ∧ σ'.2.2.2.2.2.2.2.2.1 = σ.2.2.2.2.2.2.2.2.1 ∧ σ'.2.2.2.2.2.2.2.2.2 = σ.2.2.2.2.2.2.2.2.2
theorem Fr_X1_putBox.rf {σ : CSt} : Fr_X1_putBox σ σ := ⟨rfl, rfl, rfl, rfl, rfl, rfl, rfl, rfl, rfl, rfl, rfl, rfl, rfl, rfl⟩
theorem Fr_X1_putBox.tr {a b c : CSt} (h : Fr_X1_putBox a b) (h' : Fr_X1_putBox b c) : Fr_X1_putBox a c := ⟨h'.1.trans h.1, h'.2.1.trans h.2.1, h'.2.2.1.trans h.2.2.1, h'.2.2.2.1.trans h.2.2.2.1, h'.2.2.2.2.1.trans h.2.2.2.2.1, h'.2.2.2.2.2.1.trans h.2.2.2.2.2.1, h'.2.2.2.2.2.2.1.trans h.2.2.2.2.2.2.1, h'.2.2.2.2.2.2.2.1.trans h.2.2.2.2.2.2.2.1, h'.2.2.2.2.2.2.2.2.1.trans h.2.2.2.2.2.2.2.2.1, h'.2.2.2.2.2.2.2.2.2.1.trans h.2.2.2.2.2.2.2.2.2.1, h'.2.2.2.2.2.2.2.2.2.2.1.trans h.2.2.2.2.2.2.2.2.2.2.1, h'.2.2.2.2.2.2.2.2.2.2.2.1.trans h.2.2.2.2.2.2.2.2.2.2.2.1, h'.2.2.2.2.2.2.2.2.2.2.2.2.1.trans h.2.2.2.2.2.2.2.2.2.2.2.2.1, h'.2.2.2.2.2.2.2.2.2.2.2.2.2.trans h.2.2.2.2.2.2.2.2.2.2.2.2.2⟩
theorem Fr_X1_putBox.u_ce (σ : CSt) (i x : Int32) : Fr_X1_putBox σ (sc_ce σ i x) := ⟨rfl, rfl, rfl, rfl, rfl, rfl, rfl, rfl, rfl, rfl, rfl, rfl, rfl, rfl⟩
theorem fr_X1_putBox {F : Nat} {σ : CSt} {x1 : Int32} {x2 : Int32} {x3 : Int32} {x4 : Int32} {x5 : Int32} {R : CSt}  (h : fc_X1_putBox F σ x1 x2 x3 x4 x5 = some R) : Fr_X1_putBox σ R := by
  unfold fc_X1_putBox at h
  obtain ⟨-, h⟩ := gd_some h
  replace h := lt_e h
  obtain ⟨-, h⟩ := gd_some h
  replace h := lt_e h
  obtain ⟨-, h⟩ := gd_some h
  replace h := lt_e h
  obtain ⟨-, h⟩ := gd_some h
  replace h := lt_e h
  obtain rfl := Option.some.inj h
  exact ((((Fr_X1_putBox.rf.tr (Fr_X1_putBox.u_ce _ _ _)).tr (Fr_X1_putBox.u_ce _ _ _)).tr (Fr_X1_putBox.u_ce _ _ _)).tr (Fr_X1_putBox.u_ce _ _ _))
def Fr_X1_putPort (σ σ' : CSt) : Prop := cs_cb σ' = cs_cb σ ∧ cs_cc σ' = cs_cc σ ∧ cs_cp σ' = cs_cp σ ∧ cs_ce σ' = cs_ce σ ∧ cs_cr σ' = cs_cr σ ∧ σ'.2.1 = σ.2.1 ∧ σ'.2.2.1 = σ.2.2.1 ∧ σ'.2.2.2.1 = σ.2.2.2.1 ∧ σ'.2.2.2.2.1 = σ.2.2.2.2.1 ∧ σ'.2.2.2.2.2.1 = σ.2.2.2.2.2.1 ∧ σ'.2.2.2.2.2.2.1 = σ.2.2.2.2.2.2.1 ∧ σ'.2.2.2.2.2.2.2.1 = σ.2.2.2.2.2.2.2.1 ∧ σ'.2.2.2.2.2.2.2.2.1 = σ.2.2.2.2.2.2.2.2.1 ∧ σ'.2.2.2.2.2.2.2.2.2 = σ.2.2.2.2.2.2.2.2.2
theorem Fr_X1_putPort.rf {σ : CSt} : Fr_X1_putPort σ σ := ⟨rfl, rfl, rfl, rfl, rfl, rfl, rfl, rfl, rfl, rfl, rfl, rfl, rfl, rfl⟩
theorem Fr_X1_putPort.tr {a b c : CSt} (h : Fr_X1_putPort a b) (h' : Fr_X1_putPort b c) : Fr_X1_putPort a c := ⟨h'.1.trans h.1, h'.2.1.trans h.2.1, h'.2.2.1.trans h.2.2.1, h'.2.2.2.1.trans h.2.2.2.1, h'.2.2.2.2.1.trans h.2.2.2.2.1, h'.2.2.2.2.2.1.trans h.2.2.2.2.2.1, h'.2.2.2.2.2.2.1.trans h.2.2.2.2.2.2.1, h'.2.2.2.2.2.2.2.1.trans h.2.2.2.2.2.2.2.1, h'.2.2.2.2.2.2.2.2.1.trans h.2.2.2.2.2.2.2.2.1, h'.2.2.2.2.2.2.2.2.2.1.trans h.2.2.2.2.2.2.2.2.2.1, h'.2.2.2.2.2.2.2.2.2.2.1.trans h.2.2.2.2.2.2.2.2.2.2.1, h'.2.2.2.2.2.2.2.2.2.2.2.1.trans h.2.2.2.2.2.2.2.2.2.2.2.1, h'.2.2.2.2.2.2.2.2.2.2.2.2.1.trans h.2.2.2.2.2.2.2.2.2.2.2.2.1, h'.2.2.2.2.2.2.2.2.2.2.2.2.2.trans h.2.2.2.2.2.2.2.2.2.2.2.2.2⟩
theorem Fr_X1_putPort.u_cq (σ : CSt) (i x : Int32) : Fr_X1_putPort σ (sc_cq σ i x) := ⟨rfl, rfl, rfl, rfl, rfl, rfl, rfl, rfl, rfl, rfl, rfl, rfl, rfl, rfl⟩
theorem fr_X1_putPort {F : Nat} {σ : CSt} {x1 : Int32} {x2 : Int32} {x3 : Int32} {x4 : Int32} {x5 : Int32} {R : CSt}  (h : fc_X1_putPort F σ x1 x2 x3 x4 x5 = some R) : Fr_X1_putPort σ R := by
  unfold fc_X1_putPort at h
  replace h := lt_e h
  obtain ⟨-, h⟩ := gd_some h
  replace h := lt_e h
  obtain ⟨-, h⟩ := gd_some h
  replace h := lt_e h
  obtain ⟨-, h⟩ := gd_some h
  replace h := lt_e h
  obtain rfl := Option.some.inj h
  exact (((Fr_X1_putPort.rf.tr (Fr_X1_putPort.u_cq _ _ _)).tr (Fr_X1_putPort.u_cq _ _ _)).tr (Fr_X1_putPort.u_cq _ _ _))
def Fr_X4_clear (σ σ' : CSt) : Prop := σ'.1 = σ.1 ∧ σ'.2.1 = σ.2.1 ∧ σ'.2.2.1 = σ.2.2.1 ∧ σ'.2.2.2.1 = σ.2.2.2.1 ∧ cs_gx σ' = cs_gx σ ∧ cs_gy σ' = cs_gy σ ∧ cs_goR σ' = cs_goR σ ∧ cs_goD σ' = cs_goD σ ∧ σ'.2.2.2.2.2.1 = σ.2.2.2.2.2.1 ∧ σ'.2.2.2.2.2.2.1 = σ.2.2.2.2.2.2.1 ∧ σ'.2.2.2.2.2.2.2.1 = σ.2.2.2.2.2.2.2.1 ∧ σ'.2.2.2.2.2.2.2.2.1 = σ.2.2.2.2.2.2.2.2.1 ∧ σ'.2.2.2.2.2.2.2.2.2 = σ.2.2.2.2.2.2.2.2.2
theorem Fr_X4_clear.rf {σ : CSt} : Fr_X4_clear σ σ := ⟨rfl, rfl, rfl, rfl, rfl, rfl, rfl, rfl, rfl, rfl, rfl, rfl, rfl⟩
theorem Fr_X4_clear.tr {a b c : CSt} (h : Fr_X4_clear a b) (h' : Fr_X4_clear b c) : Fr_X4_clear a c := ⟨h'.1.trans h.1, h'.2.1.trans h.2.1, h'.2.2.1.trans h.2.2.1, h'.2.2.2.1.trans h.2.2.2.1, h'.2.2.2.2.1.trans h.2.2.2.2.1, h'.2.2.2.2.2.1.trans h.2.2.2.2.2.1, h'.2.2.2.2.2.2.1.trans h.2.2.2.2.2.2.1, h'.2.2.2.2.2.2.2.1.trans h.2.2.2.2.2.2.2.1, h'.2.2.2.2.2.2.2.2.1.trans h.2.2.2.2.2.2.2.2.1, h'.2.2.2.2.2.2.2.2.2.1.trans h.2.2.2.2.2.2.2.2.2.1, h'.2.2.2.2.2.2.2.2.2.2.1.trans h.2.2.2.2.2.2.2.2.2.2.1, h'.2.2.2.2.2.2.2.2.2.2.2.1.trans h.2.2.2.2.2.2.2.2.2.2.2.1, h'.2.2.2.2.2.2.2.2.2.2.2.2.trans h.2.2.2.2.2.2.2.2.2.2.2.2⟩
theorem Fr_X4_clear.s_gc (σ : CSt) (v : Int32) : Fr_X4_clear σ (cs_gc_s σ v) := ⟨rfl, rfl, rfl, rfl, rfl, rfl, rfl, rfl, rfl, rfl, rfl, rfl, rfl⟩
theorem Fr_X4_clear.s_gr (σ : CSt) (v : Int32) : Fr_X4_clear σ (cs_gr_s σ v) := ⟨rfl, rfl, rfl, rfl, rfl, rfl, rfl, rfl, rfl, rfl, rfl, rfl, rfl⟩
theorem fr_X4_clear {F : Nat} {σ : CSt} {R : CSt}  (h : fc_X4_clear F σ = some R) : Fr_X4_clear σ R := by
  unfold fc_X4_clear at h
  replace h := lt_e h
  replace h := lt_e h
  obtain rfl := Option.some.inj h
  exact ((Fr_X4_clear.rf.tr (Fr_X4_clear.s_gc _ _)).tr (Fr_X4_clear.s_gr _ _))
def Fr_X4_insert_28 (σ σ' : CSt) : Prop := σ'.1 = σ.1 ∧ σ'.2.1 = σ.2.1 ∧ σ'.2.2.1 = σ.2.2.1 ∧ σ'.2.2.2.1 = σ.2.2.2.1 ∧ cs_gy σ' = cs_gy σ ∧ cs_gc σ' = cs_gc σ ∧ cs_gr σ' = cs_gr σ ∧ cs_goR σ' = cs_goR σ ∧ cs_goD σ' = cs_goD σ ∧ σ'.2.2.2.2.2.1 = σ.2.2.2.2.2.1 ∧ σ'.2.2.2.2.2.2.1 = σ.2.2.2.2.2.2.1 ∧ σ'.2.2.2.2.2.2.2.1 = σ.2.2.2.2.2.2.2.1 ∧ σ'.2.2.2.2.2.2.2.2.1 = σ.2.2.2.2.2.2.2.2.1 ∧ σ'.2.2.2.2.2.2.2.2.2 = σ.2.2.2.2.2.2.2.2.2
theorem Fr_X4_insert_28.rf {σ : CSt} : Fr_X4_insert_28 σ σ := ⟨rfl, rfl, rfl, rfl, rfl, rfl, rfl, rfl, rfl, rfl, rfl, rfl, rfl, rfl⟩
theorem Fr_X4_insert_28.tr {a b c : CSt} (h : Fr_X4_insert_28 a b) (h' : Fr_X4_insert_28 b c) : Fr_X4_insert_28 a c := ⟨h'.1.trans h.1, h'.2.1.trans h.2.1, h'.2.2.1.trans h.2.2.1, h'.2.2.2.1.trans h.2.2.2.1, h'.2.2.2.2.1.trans h.2.2.2.2.1, h'.2.2.2.2.2.1.trans h.2.2.2.2.2.1, h'.2.2.2.2.2.2.1.trans h.2.2.2.2.2.2.1, h'.2.2.2.2.2.2.2.1.trans h.2.2.2.2.2.2.2.1, h'.2.2.2.2.2.2.2.2.1.trans h.2.2.2.2.2.2.2.2.1, h'.2.2.2.2.2.2.2.2.2.1.trans h.2.2.2.2.2.2.2.2.2.1, h'.2.2.2.2.2.2.2.2.2.2.1.trans h.2.2.2.2.2.2.2.2.2.2.1, h'.2.2.2.2.2.2.2.2.2.2.2.1.trans h.2.2.2.2.2.2.2.2.2.2.2.1, h'.2.2.2.2.2.2.2.2.2.2.2.2.1.trans h.2.2.2.2.2.2.2.2.2.2.2.2.1, h'.2.2.2.2.2.2.2.2.2.2.2.2.2.trans h.2.2.2.2.2.2.2.2.2.2.2.2.2⟩
theorem Fr_X4_insert_28.s_gx (σ : CSt) (v : (Nat → Int32)) : Fr_X4_insert_28 σ (cs_gx_s σ v) := ⟨rfl, rfl, rfl, rfl, rfl, rfl, rfl, rfl, rfl, rfl, rfl, rfl, rfl, rfl⟩
theorem Fr_X4_insert_28.u_gx (σ : CSt) (i x : Int32) : Fr_X4_insert_28 σ (sc_gx σ i x) := ⟨rfl, rfl, rfl, rfl, rfl, rfl, rfl, rfl, rfl, rfl, rfl, rfl, rfl, rfl⟩
theorem fr_X4_insert_28_L42 {F : Nat} {σ : CSt} {x1 : Int32} {x2 : Int32} {x3 : Int32} {r : Int32} {R : CSt}  (h : fc_X4_insert_28_L42 F σ x1 x2 x3 = some (r, R)) : Fr_X4_insert_28 σ R := by
  unfold fc_X4_insert_28_L42 at h
  obtain ⟨-, h⟩ := gd_some h
  replace h := lt_e h
  obtain ⟨-, h⟩ := gd_some h
  replace h := lt_e h
  obtain ⟨-, rfl⟩ := Prod.mk.inj (Option.some.inj h)
  exact ((Fr_X4_insert_28.rf.tr (Fr_X4_insert_28.s_gx _ _)).tr (Fr_X4_insert_28.u_gx _ _ _))
theorem fr_X4_insert_28_L40 {F : Nat} {σ : CSt} {x1 : Int32} {r : Int32} {R : CSt}  (h : fc_X4_insert_28_L40 F σ x1 = some (r, R)) : Fr_X4_insert_28 σ R := by
  unfold fc_X4_insert_28_L40 at h
  obtain ⟨-, rfl⟩ := Prod.mk.inj (Option.some.inj h)
  exact Fr_X4_insert_28.rf
theorem fr_X4_insert_28_L21 {F : Nat} {σ : CSt} {x1 : Int32} {x2 : Int32} {x3 : Int32} {r : Int32} {R : CSt}  (h : fc_X4_insert_28_L21 F σ x1 x2 x3 = some (r, R)) : Fr_X4_insert_28 σ R := by
  unfold fc_X4_insert_28_L21 at h
  rcases br_any h with h | h
  · exact Fr_X4_insert_28.rf.tr (fr_X4_insert_28_L40  h)
  · rcases br_any h with h | h
    · exact Fr_X4_insert_28.rf.tr (fr_X4_insert_28_L42  h)
    · obtain ⟨-, h⟩ := gd_some h
      rcases br_any h with h | h
      · exact Fr_X4_insert_28.rf.tr (fr_X4_insert_28_L40  h)
      · exact Fr_X4_insert_28.rf.tr (fr_X4_insert_28_L42  h)
theorem fr_X4_insert_28_L2_c {F : Nat} {k2 : CSt → Int32 → Int32 → Int32 → Option (Int32 × CSt)} {σ : CSt} {x1 : Int32} {x2 : Int32} {x3 : Int32} {r : Int32} {R : CSt} (hk2 : ∀ {y0 : CSt} {y1 : Int32} {y2 : Int32} {y3 : Int32}, k2 y0 y1 y2 y3 = some (r, R) → Fr_X4_insert_28 y0 R) (h : fc_X4_insert_28_L2_c F k2 σ x1 x2 x3 = some (r, R)) : Fr_X4_insert_28 σ R := by
  unfold fc_X4_insert_28_L2_c at h
  rcases br_any h with h | h
  · exact Fr_X4_insert_28.rf.tr (fr_X4_insert_28_L21  h)
  · obtain ⟨-, h⟩ := gd_some h
    rcases br_any h with h | h
    · exact Fr_X4_insert_28.rf.tr (fr_X4_insert_28_L21  h)
    · replace h := lt_e h
      exact Fr_X4_insert_28.rf.tr (hk2 h)
theorem fr_X4_insert_28_L2 {F : Nat} {n : Nat} {σ : CSt} {x1 : Int32} {x2 : Int32} {x3 : Int32} {r : Int32} {R : CSt}  (h : fc_X4_insert_28_L2 F n σ x1 x2 x3 = some (r, R)) : Fr_X4_insert_28 σ R := by
  induction n generalizing σ x1 x2 x3 with
  | zero => cases (show (none : Option _) = _ from h)
  | succ n ih => exact fr_X4_insert_28_L2_c  (fun h9 => ih h9) (show fc_X4_insert_28_L2_c F (fc_X4_insert_28_L2 F n) σ x1 x2 x3 = some (r, R) from h)
theorem fr_X4_insert_28 {F : Nat} {σ : CSt} {x1 : Int32} {x2 : Int32} {r : Int32} {R : CSt}  (h : fc_X4_insert_28 F σ x1 x2 = some (r, R)) : Fr_X4_insert_28 σ R := by
  unfold fc_X4_insert_28 at h
  exact Fr_X4_insert_28.rf.tr (fr_X4_insert_28_L2  h)
def Fr_X4_insert_29 (σ σ' : CSt) : Prop := σ'.1 = σ.1 ∧ σ'.2.1 = σ.2.1 ∧ σ'.2.2.1 = σ.2.2.1 ∧ σ'.2.2.2.1 = σ.2.2.2.1 ∧ cs_gx σ' = cs_gx σ ∧ cs_gc σ' = cs_gc σ ∧ cs_gr σ' = cs_gr σ ∧ cs_goR σ' = cs_goR σ ∧ cs_goD σ' = cs_goD σ ∧ σ'.2.2.2.2.2.1 = σ.2.2.2.2.2.1 ∧ σ'.2.2.2.2.2.2.1 = σ.2.2.2.2.2.2.1 ∧ σ'.2.2.2.2.2.2.2.1 = σ.2.2.2.2.2.2.2.1 ∧ σ'.2.2.2.2.2.2.2.2.1 = σ.2.2.2.2.2.2.2.2.1 ∧ σ'.2.2.2.2.2.2.2.2.2 = σ.2.2.2.2.2.2.2.2.2
theorem Fr_X4_insert_29.rf {σ : CSt} : Fr_X4_insert_29 σ σ := ⟨rfl, rfl, rfl, rfl, rfl, rfl, rfl, rfl, rfl, rfl, rfl, rfl, rfl, rfl⟩
theorem Fr_X4_insert_29.tr {a b c : CSt} (h : Fr_X4_insert_29 a b) (h' : Fr_X4_insert_29 b c) : Fr_X4_insert_29 a c := ⟨h'.1.trans h.1, h'.2.1.trans h.2.1, h'.2.2.1.trans h.2.2.1, h'.2.2.2.1.trans h.2.2.2.1, h'.2.2.2.2.1.trans h.2.2.2.2.1, h'.2.2.2.2.2.1.trans h.2.2.2.2.2.1, h'.2.2.2.2.2.2.1.trans h.2.2.2.2.2.2.1, h'.2.2.2.2.2.2.2.1.trans h.2.2.2.2.2.2.2.1, h'.2.2.2.2.2.2.2.2.1.trans h.2.2.2.2.2.2.2.2.1, h'.2.2.2.2.2.2.2.2.2.1.trans h.2.2.2.2.2.2.2.2.2.1, h'.2.2.2.2.2.2.2.2.2.2.1.trans h.2.2.2.2.2.2.2.2.2.2.1, h'.2.2.2.2.2.2.2.2.2.2.2.1.trans h.2.2.2.2.2.2.2.2.2.2.2.1, h'.2.2.2.2.2.2.2.2.2.2.2.2.1.trans h.2.2.2.2.2.2.2.2.2.2.2.2.1, h'.2.2.2.2.2.2.2.2.2.2.2.2.2.trans h.2.2.2.2.2.2.2.2.2.2.2.2.2⟩
theorem Fr_X4_insert_29.s_gy (σ : CSt) (v : (Nat → Int32)) : Fr_X4_insert_29 σ (cs_gy_s σ v) := ⟨rfl, rfl, rfl, rfl, rfl, rfl, rfl, rfl, rfl, rfl, rfl, rfl, rfl, rfl⟩
theorem Fr_X4_insert_29.u_gy (σ : CSt) (i x : Int32) : Fr_X4_insert_29 σ (sc_gy σ i x) := ⟨rfl, rfl, rfl, rfl, rfl, rfl, rfl, rfl, rfl, rfl, rfl, rfl, rfl, rfl⟩
theorem fr_X4_insert_29_L42 {F : Nat} {σ : CSt} {x1 : Int32} {x2 : Int32} {x3 : Int32} {r : Int32} {R : CSt}  (h : fc_X4_insert_29_L42 F σ x1 x2 x3 = some (r, R)) : Fr_X4_insert_29 σ R := by
  unfold fc_X4_insert_29_L42 at h
  obtain ⟨-, h⟩ := gd_some h
  replace h := lt_e h
  obtain ⟨-, h⟩ := gd_some h
  replace h := lt_e h
  obtain ⟨-, rfl⟩ := Prod.mk.inj (Option.some.inj h)
  exact ((Fr_X4_insert_29.rf.tr (Fr_X4_insert_29.s_gy _ _)).tr (Fr_X4_insert_29.u_gy _ _ _))
theorem fr_X4_insert_29_L40 {F : Nat} {σ : CSt} {x1 : Int32} {r : Int32} {R : CSt}  (h : fc_X4_insert_29_L40 F σ x1 = some (r, R)) : Fr_X4_insert_29 σ R := by
  unfold fc_X4_insert_29_L40 at h
  obtain ⟨-, rfl⟩ := Prod.mk.inj (Option.some.inj h)
  exact Fr_X4_insert_29.rf
theorem fr_X4_insert_29_L21 {F : Nat} {σ : CSt} {x1 : Int32} {x2 : Int32} {x3 : Int32} {r : Int32} {R : CSt}  (h : fc_X4_insert_29_L21 F σ x1 x2 x3 = some (r, R)) : Fr_X4_insert_29 σ R := by
  unfold fc_X4_insert_29_L21 at h
  rcases br_any h with h | h
  · exact Fr_X4_insert_29.rf.tr (fr_X4_insert_29_L40  h)
  · rcases br_any h with h | h
    · exact Fr_X4_insert_29.rf.tr (fr_X4_insert_29_L42  h)
    · obtain ⟨-, h⟩ := gd_some h
      rcases br_any h with h | h
      · exact Fr_X4_insert_29.rf.tr (fr_X4_insert_29_L40  h)
      · exact Fr_X4_insert_29.rf.tr (fr_X4_insert_29_L42  h)
theorem fr_X4_insert_29_L2_c {F : Nat} {k2 : CSt → Int32 → Int32 → Int32 → Option (Int32 × CSt)} {σ : CSt} {x1 : Int32} {x2 : Int32} {x3 : Int32} {r : Int32} {R : CSt} (hk2 : ∀ {y0 : CSt} {y1 : Int32} {y2 : Int32} {y3 : Int32}, k2 y0 y1 y2 y3 = some (r, R) → Fr_X4_insert_29 y0 R) (h : fc_X4_insert_29_L2_c F k2 σ x1 x2 x3 = some (r, R)) : Fr_X4_insert_29 σ R := by
  unfold fc_X4_insert_29_L2_c at h
  rcases br_any h with h | h
  · exact Fr_X4_insert_29.rf.tr (fr_X4_insert_29_L21  h)
  · obtain ⟨-, h⟩ := gd_some h
    rcases br_any h with h | h
    · exact Fr_X4_insert_29.rf.tr (fr_X4_insert_29_L21  h)
    · replace h := lt_e h
      exact Fr_X4_insert_29.rf.tr (hk2 h)
theorem fr_X4_insert_29_L2 {F : Nat} {n : Nat} {σ : CSt} {x1 : Int32} {x2 : Int32} {x3 : Int32} {r : Int32} {R : CSt}  (h : fc_X4_insert_29_L2 F n σ x1 x2 x3 = some (r, R)) : Fr_X4_insert_29 σ R := by
  induction n generalizing σ x1 x2 x3 with
  | zero => cases (show (none : Option _) = _ from h)
  | succ n ih => exact fr_X4_insert_29_L2_c  (fun h9 => ih h9) (show fc_X4_insert_29_L2_c F (fc_X4_insert_29_L2 F n) σ x1 x2 x3 = some (r, R) from h)
theorem fr_X4_insert_29 {F : Nat} {σ : CSt} {x1 : Int32} {x2 : Int32} {r : Int32} {R : CSt}  (h : fc_X4_insert_29 F σ x1 x2 = some (r, R)) : Fr_X4_insert_29 σ R := by
  unfold fc_X4_insert_29 at h
  exact Fr_X4_insert_29.rf.tr (fr_X4_insert_29_L2  h)
def Fr_X4_addLinesAround (σ σ' : CSt) : Prop := σ'.1 = σ.1 ∧ σ'.2.1 = σ.2.1 ∧ σ'.2.2.1 = σ.2.2.1 ∧ σ'.2.2.2.1 = σ.2.2.2.1 ∧ cs_goR σ' = cs_goR σ ∧ cs_goD σ' = cs_goD σ ∧ σ'.2.2.2.2.2.1 = σ.2.2.2.2.2.1 ∧ σ'.2.2.2.2.2.2.1 = σ.2.2.2.2.2.2.1 ∧ σ'.2.2.2.2.2.2.2.1 = σ.2.2.2.2.2.2.2.1 ∧ σ'.2.2.2.2.2.2.2.2.1 = σ.2.2.2.2.2.2.2.2.1 ∧ σ'.2.2.2.2.2.2.2.2.2 = σ.2.2.2.2.2.2.2.2.2
theorem Fr_X4_addLinesAround.rf {σ : CSt} : Fr_X4_addLinesAround σ σ := ⟨rfl, rfl, rfl, rfl, rfl, rfl, rfl, rfl, rfl, rfl, rfl⟩
theorem Fr_X4_addLinesAround.tr {a b c : CSt} (h : Fr_X4_addLinesAround a b) (h' : Fr_X4_addLinesAround b c) : Fr_X4_addLinesAround a c := ⟨h'.1.trans h.1, h'.2.1.trans h.2.1, h'.2.2.1.trans h.2.2.1, h'.2.2.2.1.trans h.2.2.2.1, h'.2.2.2.2.1.trans h.2.2.2.2.1, h'.2.2.2.2.2.1.trans h.2.2.2.2.2.1, h'.2.2.2.2.2.2.1.trans h.2.2.2.2.2.2.1, h'.2.2.2.2.2.2.2.1.trans h.2.2.2.2.2.2.2.1, h'.2.2.2.2.2.2.2.2.1.trans h.2.2.2.2.2.2.2.2.1, h'.2.2.2.2.2.2.2.2.2.1.trans h.2.2.2.2.2.2.2.2.2.1, h'.2.2.2.2.2.2.2.2.2.2.trans h.2.2.2.2.2.2.2.2.2.2⟩
theorem Fr_X4_addLinesAround.s_gc (σ : CSt) (v : Int32) : Fr_X4_addLinesAround σ (cs_gc_s σ v) := ⟨rfl, rfl, rfl, rfl, rfl, rfl, rfl, rfl, rfl, rfl, rfl⟩
theorem Fr_X4_addLinesAround.s_gr (σ : CSt) (v : Int32) : Fr_X4_addLinesAround σ (cs_gr_s σ v) := ⟨rfl, rfl, rfl, rfl, rfl, rfl, rfl, rfl, rfl, rfl, rfl⟩
theorem Fr_X4_addLinesAround.c_X4_insert_28 {σ σ' : CSt} (h : Fr_X4_insert_28 σ σ') : Fr_X4_addLinesAround σ σ' := ⟨h.1, h.2.1, h.2.2.1, h.2.2.2.1, h.2.2.2.2.2.2.2.1, h.2.2.2.2.2.2.2.2.1, h.2.2.2.2.2.2.2.2.2.1, h.2.2.2.2.2.2.2.2.2.2.1, h.2.2.2.2.2.2.2.2.2.2.2.1, h.2.2.2.2.2.2.2.2.2.2.2.2.1, h.2.2.2.2.2.2.2.2.2.2.2.2.2⟩
theorem Fr_X4_addLinesAround.c_X4_insert_29 {σ σ' : CSt} (h : Fr_X4_insert_29 σ σ') : Fr_X4_addLinesAround σ σ' := ⟨h.1, h.2.1, h.2.2.1, h.2.2.2.1, h.2.2.2.2.2.2.2.1, h.2.2.2.2.2.2.2.2.1, h.2.2.2.2.2.2.2.2.2.1, h.2.2.2.2.2.2.2.2.2.2.1, h.2.2.2.2.2.2.2.2.2.2.2.1, h.2.2.2.2.2.2.2.2.2.2.2.2.1, h.2.2.2.2.2.2.2.2.2.2.2.2.2⟩
theorem fr_X4_addLinesAround_L2_c {F : Nat} {k2 : CSt → Int32 → Option (CSt)} {σ : CSt} {x2 : Int32} {R : CSt} (hk2 : ∀ {y0 : CSt} {y1 : Int32}, k2 y0 y1 = some R → Fr_X4_addLinesAround y0 R) (h : fc_X4_addLinesAround_L2_c F k2 σ x2 = some R) : Fr_X4_addLinesAround σ R := by
  unfold fc_X4_addLinesAround_L2_c at h
  rcases br_any h with h | h
  · obtain rfl := Option.some.inj h
    exact Fr_X4_addLinesAround.rf
  · obtain ⟨r22, hc1, h⟩ := bd_some h
    obtain ⟨r27, σ27, hc2, h⟩ := bd2_some h
    replace h := lt_e h
    obtain ⟨r45, hc3, h⟩ := bd_some h
    obtain ⟨r50, σ50, hc4, h⟩ := bd2_some h
    replace h := lt_e h
    obtain ⟨r68, hc5, h⟩ := bd_some h
    obtain ⟨r73, σ73, hc6, h⟩ := bd2_some h
    replace h := lt_e h
    obtain ⟨r91, hc7, h⟩ := bd_some h
    obtain ⟨r96, σ96, hc8, h⟩ := bd2_some h
    replace h := lt_e h
    replace h := lt_e h
    exact ((((((((Fr_X4_addLinesAround.rf.tr (Fr_X4_addLinesAround.c_X4_insert_28 (fr_X4_insert_28 hc2))).tr (Fr_X4_addLinesAround.s_gc _ _)).tr (Fr_X4_addLinesAround.c_X4_insert_28 (fr_X4_insert_28 hc4))).tr (Fr_X4_addLinesAround.s_gc _ _)).tr (Fr_X4_addLinesAround.c_X4_insert_29 (fr_X4_insert_29 hc6))).tr (Fr_X4_addLinesAround.s_gr _ _)).tr (Fr_X4_addLinesAround.c_X4_insert_29 (fr_X4_insert_29 hc8))).tr (Fr_X4_addLinesAround.s_gr _ _)).tr (hk2 h)
theorem fr_X4_addLinesAround_L2 {F : Nat} {n : Nat} {σ : CSt} {x2 : Int32} {R : CSt}  (h : fc_X4_addLinesAround_L2 F n σ x2 = some R) : Fr_X4_addLinesAround σ R := by
  induction n generalizing σ x2 with
  | zero => cases (show (none : Option _) = _ from h)
  | succ n ih => exact fr_X4_addLinesAround_L2_c  (fun h9 => ih h9) (show fc_X4_addLinesAround_L2_c F (fc_X4_addLinesAround_L2 F n) σ x2 = some R from h)
theorem fr_X4_addLinesAround {F : Nat} {σ : CSt} {R : CSt}  (h : fc_X4_addLinesAround F σ = some R) : Fr_X4_addLinesAround σ R := by
  unfold fc_X4_addLinesAround at h
  exact Fr_X4_addLinesAround.rf.tr (fr_X4_addLinesAround_L2  h)
def Fr_X4_addLinesThrough (σ σ' : CSt) : Prop := σ'.1 = σ.1 ∧ σ'.2.1 = σ.2.1 ∧ σ'.2.2.1 = σ.2.2.1 ∧ σ'.2.2.2.1 = σ.2.2.2.1 ∧ cs_goR σ' = cs_goR σ ∧ cs_goD σ' = cs_goD σ ∧ σ'.2.2.2.2.2.1 = σ.2.2.2.2.2.1 ∧ σ'.2.2.2.2.2.2.1 = σ.2.2.2.2.2.2.1 ∧ σ'.2.2.2.2.2.2.2.1 = σ.2.2.2.2.2.2.2.1 ∧ σ'.2.2.2.2.2.2.2.2.1 = σ.2.2.2.2.2.2.2.2.1 ∧ σ'.2.2.2.2.2.2.2.2.2 = σ.2.2.2.2.2.2.2.2.2
theorem Fr_X4_addLinesThrough.rf {σ : CSt} : Fr_X4_addLinesThrough σ σ := ⟨rfl, rfl, rfl, rfl, rfl, rfl, rfl, rfl, rfl, rfl, rfl⟩
theorem Fr_X4_addLinesThrough.tr {a b c : CSt} (h : Fr_X4_addLinesThrough a b) (h' : Fr_X4_addLinesThrough b c) : Fr_X4_addLinesThrough a c := ⟨h'.1.trans h.1, h'.2.1.trans h.2.1, h'.2.2.1.trans h.2.2.1, h'.2.2.2.1.trans h.2.2.2.1, h'.2.2.2.2.1.trans h.2.2.2.2.1, h'.2.2.2.2.2.1.trans h.2.2.2.2.2.1, h'.2.2.2.2.2.2.1.trans h.2.2.2.2.2.2.1, h'.2.2.2.2.2.2.2.1.trans h.2.2.2.2.2.2.2.1, h'.2.2.2.2.2.2.2.2.1.trans h.2.2.2.2.2.2.2.2.1, h'.2.2.2.2.2.2.2.2.2.1.trans h.2.2.2.2.2.2.2.2.2.1, h'.2.2.2.2.2.2.2.2.2.2.trans h.2.2.2.2.2.2.2.2.2.2⟩
theorem Fr_X4_addLinesThrough.s_gc (σ : CSt) (v : Int32) : Fr_X4_addLinesThrough σ (cs_gc_s σ v) := ⟨rfl, rfl, rfl, rfl, rfl, rfl, rfl, rfl, rfl, rfl, rfl⟩
theorem Fr_X4_addLinesThrough.s_gr (σ : CSt) (v : Int32) : Fr_X4_addLinesThrough σ (cs_gr_s σ v) := ⟨rfl, rfl, rfl, rfl, rfl, rfl, rfl, rfl, rfl, rfl, rfl⟩
theorem Fr_X4_addLinesThrough.c_X4_insert_28 {σ σ' : CSt} (h : Fr_X4_insert_28 σ σ') : Fr_X4_addLinesThrough σ σ' := ⟨h.1, h.2.1, h.2.2.1, h.2.2.2.1, h.2.2.2.2.2.2.2.1, h.2.2.2.2.2.2.2.2.1, h.2.2.2.2.2.2.2.2.2.1, h.2.2.2.2.2.2.2.2.2.2.1, h.2.2.2.2.2.2.2.2.2.2.2.1, h.2.2.2.2.2.2.2.2.2.2.2.2.1, h.2.2.2.2.2.2.2.2.2.2.2.2.2⟩
theorem Fr_X4_addLinesThrough.c_X4_insert_29 {σ σ' : CSt} (h : Fr_X4_insert_29 σ σ') : Fr_X4_addLinesThrough σ σ' := ⟨h.1, h.2.1, h.2.2.1, h.2.2.2.1, h.2.2.2.2.2.2.2.1, h.2.2.2.2.2.2.2.2.1, h.2.2.2.2.2.2.2.2.2.1, h.2.2.2.2.2.2.2.2.2.2.1, h.2.2.2.2.2.2.2.2.2.2.2.1, h.2.2.2.2.2.2.2.2.2.2.2.2.1, h.2.2.2.2.2.2.2.2.2.2.2.2.2⟩
theorem fr_X4_addLinesThrough {F : Nat} {σ : CSt} {x1 : Int32} {x2 : Int32} {R : CSt}  (h : fc_X4_addLinesThrough F σ x1 x2 = some R) : Fr_X4_addLinesThrough σ R := by
  unfold fc_X4_addLinesThrough at h
  obtain ⟨r10, σ10, hc1, h⟩ := bd2_some h
  replace h := lt_e h
  obtain ⟨r26, σ26, hc2, h⟩ := bd2_some h
  replace h := lt_e h
  obtain rfl := Option.some.inj h
  exact ((((Fr_X4_addLinesThrough.rf.tr (Fr_X4_addLinesThrough.c_X4_insert_28 (fr_X4_insert_28 hc1))).tr (Fr_X4_addLinesThrough.s_gc _ _)).tr (Fr_X4_addLinesThrough.c_X4_insert_29 (fr_X4_insert_29 hc2))).tr (Fr_X4_addLinesThrough.s_gr _ _))
def Fr_X4_joinNodes (σ σ' : CSt) : Prop := σ'.1 = σ.1 ∧ σ'.2.1 = σ.2.1 ∧ σ'.2.2.1 = σ.2.2.1 ∧ σ'.2.2.2.1 = σ.2.2.2.1 ∧ cs_gx σ' = cs_gx σ ∧ cs_gy σ' = cs_gy σ ∧ cs_gc σ' = cs_gc σ ∧ cs_gr σ' = cs_gr σ ∧ σ'.2.2.2.2.2.1 = σ.2.2.2.2.2.1 ∧ σ'.2.2.2.2.2.2.1 = σ.2.2.2.2.2.2.1 ∧ σ'.2.2.2.2.2.2.2.1 = σ.2.2.2.2.2.2.2.1 ∧ σ'.2.2.2.2.2.2.2.2.1 = σ.2.2.2.2.2.2.2.2.1 ∧ σ'.2.2.2.2.2.2.2.2.2 = σ.2.2.2.2.2.2.2.2.2
theorem Fr_X4_joinNodes.rf {σ : CSt} : Fr_X4_joinNodes σ σ := ⟨rfl, rfl, rfl, rfl, rfl, rfl, rfl, rfl, rfl, rfl, rfl, rfl, rfl⟩
theorem Fr_X4_joinNodes.tr {a b c : CSt} (h : Fr_X4_joinNodes a b) (h' : Fr_X4_joinNodes b c) : Fr_X4_joinNodes a c := ⟨h'.1.trans h.1, h'.2.1.trans h.2.1, h'.2.2.1.trans h.2.2.1, h'.2.2.2.1.trans h.2.2.2.1, h'.2.2.2.2.1.trans h.2.2.2.2.1, h'.2.2.2.2.2.1.trans h.2.2.2.2.2.1, h'.2.2.2.2.2.2.1.trans h.2.2.2.2.2.2.1, h'.2.2.2.2.2.2.2.1.trans h.2.2.2.2.2.2.2.1, h'.2.2.2.2.2.2.2.2.1.trans h.2.2.2.2.2.2.2.2.1, h'.2.2.2.2.2.2.2.2.2.1.trans h.2.2.2.2.2.2.2.2.2.1, h'.2.2.2.2.2.2.2.2.2.2.1.trans h.2.2.2.2.2.2.2.2.2.2.1, h'.2.2.2.2.2.2.2.2.2.2.2.1.trans h.2.2.2.2.2.2.2.2.2.2.2.1, h'.2.2.2.2.2.2.2.2.2.2.2.2.trans h.2.2.2.2.2.2.2.2.2.2.2.2⟩
theorem Fr_X4_joinNodes.u_goD (σ : CSt) (i x : Int32) : Fr_X4_joinNodes σ (sc_goD σ i x) := ⟨rfl, rfl, rfl, rfl, rfl, rfl, rfl, rfl, rfl, rfl, rfl, rfl, rfl⟩
theorem Fr_X4_joinNodes.u_goR (σ : CSt) (i x : Int32) : Fr_X4_joinNodes σ (sc_goR σ i x) := ⟨rfl, rfl, rfl, rfl, rfl, rfl, rfl, rfl, rfl, rfl, rfl, rfl, rfl⟩
theorem fr_X4_joinNodes_L131 {F : Nat} {k2 : CSt → Int32 → Option (CSt)} {k12 : CSt → Int32 → Int32 → Option (CSt)} {σ : CSt} {x2 : Int32} {x3 : Int32} {s0 : Int32} {s1 : Int32} {R : CSt} (hk2 : ∀ {y0 : CSt} {y1 : Int32}, k2 y0 y1 = some R → Fr_X4_joinNodes y0 R) (hk12 : ∀ {y0 : CSt} {y1 : Int32} {y2 : Int32}, k12 y0 y1 y2 = some R → Fr_X4_joinNodes y0 R) (h : fc_X4_joinNodes_L131 F k2 k12 σ x2 x3 s0 s1 = some R) : Fr_X4_joinNodes σ R := by
  unfold fc_X4_joinNodes_L131 at h
  obtain ⟨-, h⟩ := gd_some h
  obtain ⟨-, h⟩ := gd_some h
  replace h := lt_e h
  replace h := lt_e h
  exact (Fr_X4_joinNodes.rf.tr (Fr_X4_joinNodes.u_goD _ _ _)).tr (hk12 h)
theorem fr_X4_joinNodes_L130 {F : Nat} {k2 : CSt → Int32 → Option (CSt)} {k12 : CSt → Int32 → Int32 → Option (CSt)} {σ : CSt} {x2 : Int32} {x3 : Int32} {s0 : Int32} {R : CSt} (hk2 : ∀ {y0 : CSt} {y1 : Int32}, k2 y0 y1 = some R → Fr_X4_joinNodes y0 R) (hk12 : ∀ {y0 : CSt} {y1 : Int32} {y2 : Int32}, k12 y0 y1 y2 = some R → Fr_X4_joinNodes y0 R) (h : fc_X4_joinNodes_L130 F k2 k12 σ x2 x3 s0 = some R) : Fr_X4_joinNodes σ R := by
  unfold fc_X4_joinNodes_L130 at h
  exact Fr_X4_joinNodes.rf.tr (fr_X4_joinNodes_L131 hk2 hk12 h)
theorem fr_X4_joinNodes_L87 {F : Nat} {k2 : CSt → Int32 → Option (CSt)} {k12 : CSt → Int32 → Int32 → Option (CSt)} {σ : CSt} {x2 : Int32} {x3 : Int32} {x4 : Int32} {x5 : Int32} {x6 : Int32} {s0 : Int32} {s1 : Int32} {R : CSt} (hk2 : ∀ {y0 : CSt} {y1 : Int32}, k2 y0 y1 = some R → Fr_X4_joinNodes y0 R) (hk12 : ∀ {y0 : CSt} {y1 : Int32} {y2 : Int32}, k12 y0 y1 y2 = some R → Fr_X4_joinNodes y0 R) (h : fc_X4_joinNodes_L87 F k2 k12 σ x2 x3 x4 x5 x6 s0 s1 = some R) : Fr_X4_joinNodes σ R := by
  unfold fc_X4_joinNodes_L87 at h
  obtain ⟨-, h⟩ := gd_some h
  obtain ⟨-, h⟩ := gd_some h
  replace h := lt_e h
  rcases br_any h with h | h
  · exact (Fr_X4_joinNodes.rf.tr (Fr_X4_joinNodes.u_goR _ _ _)).tr (fr_X4_joinNodes_L130 hk2 hk12 h)
  · obtain ⟨-, h⟩ := gd_some h
    obtain ⟨r119, hc1, h⟩ := bd_some h
    rcases br_any h with h | h
    · exact (Fr_X4_joinNodes.rf.tr (Fr_X4_joinNodes.u_goR _ _ _)).tr (fr_X4_joinNodes_L131 hk2 hk12 h)
    · exact (Fr_X4_joinNodes.rf.tr (Fr_X4_joinNodes.u_goR _ _ _)).tr (fr_X4_joinNodes_L130 hk2 hk12 h)
theorem fr_X4_joinNodes_L86 {F : Nat} {k2 : CSt → Int32 → Option (CSt)} {k12 : CSt → Int32 → Int32 → Option (CSt)} {σ : CSt} {x2 : Int32} {x3 : Int32} {x4 : Int32} {x5 : Int32} {x6 : Int32} {s0 : Int32} {R : CSt} (hk2 : ∀ {y0 : CSt} {y1 : Int32}, k2 y0 y1 = some R → Fr_X4_joinNodes y0 R) (hk12 : ∀ {y0 : CSt} {y1 : Int32} {y2 : Int32}, k12 y0 y1 y2 = some R → Fr_X4_joinNodes y0 R) (h : fc_X4_joinNodes_L86 F k2 k12 σ x2 x3 x4 x5 x6 s0 = some R) : Fr_X4_joinNodes σ R := by
  unfold fc_X4_joinNodes_L86 at h
  exact Fr_X4_joinNodes.rf.tr (fr_X4_joinNodes_L87 hk2 hk12 h)
theorem fr_X4_joinNodes_L12_c {F : Nat} {k2 : CSt → Int32 → Option (CSt)} {k12 : CSt → Int32 → Int32 → Option (CSt)} {σ : CSt} {x2 : Int32} {x3 : Int32} {R : CSt} (hk2 : ∀ {y0 : CSt} {y1 : Int32}, k2 y0 y1 = some R → Fr_X4_joinNodes y0 R) (hk12 : ∀ {y0 : CSt} {y1 : Int32} {y2 : Int32}, k12 y0 y1 y2 = some R → Fr_X4_joinNodes y0 R) (h : fc_X4_joinNodes_L12_c F k2 k12 σ x2 x3 = some R) : Fr_X4_joinNodes σ R := by
  unfold fc_X4_joinNodes_L12_c at h
  rcases br_any h with h | h
  · replace h := lt_e h
    exact Fr_X4_joinNodes.rf.tr (hk2 h)
  · obtain ⟨-, h⟩ := gd_some h
    replace h := lt_e h
    obtain ⟨-, h⟩ := gd_some h
    replace h := lt_e h
    replace h := lt_e h
    rcases br_any h with h | h
    · exact Fr_X4_joinNodes.rf.tr (fr_X4_joinNodes_L86 hk2 hk12 h)
    · obtain ⟨-, h⟩ := gd_some h
      obtain ⟨r75, hc1, h⟩ := bd_some h
      rcases br_any h with h | h
      · exact Fr_X4_joinNodes.rf.tr (fr_X4_joinNodes_L87 hk2 hk12 h)
      · exact Fr_X4_joinNodes.rf.tr (fr_X4_joinNodes_L86 hk2 hk12 h)
theorem fr_X4_joinNodes_L12 {F : Nat} {k2 : CSt → Int32 → Option (CSt)} {n : Nat} {σ : CSt} {x2 : Int32} {x3 : Int32} {R : CSt} (hk2 : ∀ {y0 : CSt} {y1 : Int32}, k2 y0 y1 = some R → Fr_X4_joinNodes y0 R) (h : fc_X4_joinNodes_L12 F k2 n σ x2 x3 = some R) : Fr_X4_joinNodes σ R := by
  induction n generalizing σ x2 x3 with
  | zero => cases (show (none : Option _) = _ from h)
  | succ n ih => exact fr_X4_joinNodes_L12_c hk2 (fun h9 => ih h9) (show fc_X4_joinNodes_L12_c F k2 (fc_X4_joinNodes_L12 F k2 n) σ x2 x3 = some R from h)
theorem fr_X4_joinNodes_L2_c {F : Nat} {k2 : CSt → Int32 → Option (CSt)} {σ : CSt} {x2 : Int32} {R : CSt} (hk2 : ∀ {y0 : CSt} {y1 : Int32}, k2 y0 y1 = some R → Fr_X4_joinNodes y0 R) (h : fc_X4_joinNodes_L2_c F k2 σ x2 = some R) : Fr_X4_joinNodes σ R := by
  unfold fc_X4_joinNodes_L2_c at h
  rcases br_any h with h | h
  · obtain rfl := Option.some.inj h
    exact Fr_X4_joinNodes.rf
  · exact Fr_X4_joinNodes.rf.tr (fr_X4_joinNodes_L12 hk2 h)
theorem fr_X4_joinNodes_L2 {F : Nat} {n : Nat} {σ : CSt} {x2 : Int32} {R : CSt}  (h : fc_X4_joinNodes_L2 F n σ x2 = some R) : Fr_X4_joinNodes σ R := by
  induction n generalizing σ x2 with
  | zero => cases (show (none : Option _) = _ from h)
  | succ n ih => exact fr_X4_joinNodes_L2_c  (fun h9 => ih h9) (show fc_X4_joinNodes_L2_c F (fc_X4_joinNodes_L2 F n) σ x2 = some R from h)
theorem fr_X4_joinNodes {F : Nat} {σ : CSt} {R : CSt}  (h : fc_X4_joinNodes F σ = some R) : Fr_X4_joinNodes σ R := by
  unfold fc_X4_joinNodes at h
  exact Fr_X4_joinNodes.rf.tr (fr_X4_joinNodes_L2  h)
def Fr_X7_remove (σ σ' : CSt) : Prop := σ'.1 = σ.1 ∧ σ'.2.1 = σ.2.1 ∧ σ'.2.2.1 = σ.2.2.1 ∧ σ'.2.2.2.1 = σ.2.2.2.1 ∧ σ'.2.2.2.2.1 = σ.2.2.2.2.1 ∧ cs_wre σ' = cs_wre σ ∧ σ'.2.2.2.2.2.2.1 = σ.2.2.2.2.2.2.1 ∧ σ'.2.2.2.2.2.2.2.1 = σ.2.2.2.2.2.2.2.1 ∧ σ'.2.2.2.2.2.2.2.2.1 = σ.2.2.2.2.2.2.2.2.1 ∧ σ'.2.2.2.2.2.2.2.2.2 = σ.2.2.2.2.2.2.2.2.2
theorem Fr_X7_remove.rf {σ : CSt} : Fr_X7_remove σ σ := ⟨rfl, rfl, rfl, rfl, rfl, rfl, rfl, rfl, rfl, rfl⟩
theorem Fr_X7_remove.tr {a b c : CSt} (h : Fr_X7_remove a b) (h' : Fr_X7_remove b c) : Fr_X7_remove a c := ⟨h'.1.trans h.1, h'.2.1.trans h.2.1, h'.2.2.1.trans h.2.2.1, h'.2.2.2.1.trans h.2.2.2.1, h'.2.2.2.2.1.trans h.2.2.2.2.1, h'.2.2.2.2.2.1.trans h.2.2.2.2.2.1, h'.2.2.2.2.2.2.1.trans h.2.2.2.2.2.2.1, h'.2.2.2.2.2.2.2.1.trans h.2.2.2.2.2.2.2.1, h'.2.2.2.2.2.2.2.2.1.trans h.2.2.2.2.2.2.2.2.1, h'.2.2.2.2.2.2.2.2.2.trans h.2.2.2.2.2.2.2.2.2⟩
theorem Fr_X7_remove.u_whd (σ : CSt) (i x : Int32) : Fr_X7_remove σ (sc_whd σ i x) := ⟨rfl, rfl, rfl, rfl, rfl, rfl, rfl, rfl, rfl, rfl⟩
theorem Fr_X7_remove.u_wnx (σ : CSt) (i x : Int32) : Fr_X7_remove σ (sc_wnx σ i x) := ⟨rfl, rfl, rfl, rfl, rfl, rfl, rfl, rfl, rfl, rfl⟩
theorem Fr_X7_remove.u_wpv (σ : CSt) (i x : Int32) : Fr_X7_remove σ (sc_wpv σ i x) := ⟨rfl, rfl, rfl, rfl, rfl, rfl, rfl, rfl, rfl, rfl⟩
theorem fr_X7_remove_L54 {F : Nat} {σ : CSt} {R : CSt}  (h : fc_X7_remove_L54 F σ = some R) : Fr_X7_remove σ R := by
  unfold fc_X7_remove_L54 at h
  obtain rfl := Option.some.inj h
  exact Fr_X7_remove.rf
theorem fr_X7_remove_L27 {F : Nat} {σ : CSt} {x2 : Int32} {x3 : Int32} {x4 : Int32} {R : CSt}  (h : fc_X7_remove_L27 F σ x2 x3 x4 = some R) : Fr_X7_remove σ R := by
  unfold fc_X7_remove_L27 at h
  rcases br_any h with h | h
  · obtain ⟨-, h⟩ := gd_some h
    replace h := lt_e h
    exact (Fr_X7_remove.rf.tr (Fr_X7_remove.u_whd _ _ _)).tr (fr_X7_remove_L54  h)
  · obtain ⟨-, h⟩ := gd_some h
    replace h := lt_e h
    exact (Fr_X7_remove.rf.tr (Fr_X7_remove.u_wnx _ _ _)).tr (fr_X7_remove_L54  h)
theorem fr_X7_remove {F : Nat} {σ : CSt} {x1 : Int32} {x2 : Int32} {R : CSt}  (h : fc_X7_remove F σ x1 x2 = some R) : Fr_X7_remove σ R := by
  unfold fc_X7_remove at h
  obtain ⟨-, h⟩ := gd_some h
  replace h := lt_e h
  obtain ⟨-, h⟩ := gd_some h
  replace h := lt_e h
  rcases br_any h with h | h
  · exact Fr_X7_remove.rf.tr (fr_X7_remove_L27  h)
  · obtain ⟨-, h⟩ := gd_some h
    replace h := lt_e h
    exact (Fr_X7_remove.rf.tr (Fr_X7_remove.u_wpv _ _ _)).tr (fr_X7_remove_L27  h)
def Fr_X7_put (σ σ' : CSt) : Prop := σ'.1 = σ.1 ∧ σ'.2.1 = σ.2.1 ∧ σ'.2.2.1 = σ.2.2.1 ∧ σ'.2.2.2.1 = σ.2.2.2.1 ∧ σ'.2.2.2.2.1 = σ.2.2.2.2.1 ∧ cs_wre σ' = cs_wre σ ∧ σ'.2.2.2.2.2.2.1 = σ.2.2.2.2.2.2.1 ∧ σ'.2.2.2.2.2.2.2.1 = σ.2.2.2.2.2.2.2.1 ∧ σ'.2.2.2.2.2.2.2.2.1 = σ.2.2.2.2.2.2.2.2.1 ∧ σ'.2.2.2.2.2.2.2.2.2 = σ.2.2.2.2.2.2.2.2.2
theorem Fr_X7_put.rf {σ : CSt} : Fr_X7_put σ σ := ⟨rfl, rfl, rfl, rfl, rfl, rfl, rfl, rfl, rfl, rfl⟩
theorem Fr_X7_put.tr {a b c : CSt} (h : Fr_X7_put a b) (h' : Fr_X7_put b c) : Fr_X7_put a c := ⟨h'.1.trans h.1, h'.2.1.trans h.2.1, h'.2.2.1.trans h.2.2.1, h'.2.2.2.1.trans h.2.2.2.1, h'.2.2.2.2.1.trans h.2.2.2.2.1, h'.2.2.2.2.2.1.trans h.2.2.2.2.2.1, h'.2.2.2.2.2.2.1.trans h.2.2.2.2.2.2.1, h'.2.2.2.2.2.2.2.1.trans h.2.2.2.2.2.2.2.1, h'.2.2.2.2.2.2.2.2.1.trans h.2.2.2.2.2.2.2.2.1, h'.2.2.2.2.2.2.2.2.2.trans h.2.2.2.2.2.2.2.2.2⟩
theorem Fr_X7_put.u_whd (σ : CSt) (i x : Int32) : Fr_X7_put σ (sc_whd σ i x) := ⟨rfl, rfl, rfl, rfl, rfl, rfl, rfl, rfl, rfl, rfl⟩
theorem Fr_X7_put.u_wnx (σ : CSt) (i x : Int32) : Fr_X7_put σ (sc_wnx σ i x) := ⟨rfl, rfl, rfl, rfl, rfl, rfl, rfl, rfl, rfl, rfl⟩
theorem Fr_X7_put.u_wpv (σ : CSt) (i x : Int32) : Fr_X7_put σ (sc_wpv σ i x) := ⟨rfl, rfl, rfl, rfl, rfl, rfl, rfl, rfl, rfl, rfl⟩
theorem fr_X7_put_L42 {F : Nat} {σ : CSt} {x1 : Int32} {x3 : Int32} {R : CSt}  (h : fc_X7_put_L42 F σ x1 x3 = some R) : Fr_X7_put σ R := by
  unfold fc_X7_put_L42 at h
  obtain ⟨-, h⟩ := gd_some h
  replace h := lt_e h
  obtain rfl := Option.some.inj h
  exact (Fr_X7_put.rf.tr (Fr_X7_put.u_whd _ _ _))
theorem fr_X7_put {F : Nat} {σ : CSt} {x1 : Int32} {x2 : Int32} {R : CSt}  (h : fc_X7_put F σ x1 x2 = some R) : Fr_X7_put σ R := by
  unfold fc_X7_put at h
  replace h := lt_e h
  obtain ⟨-, h⟩ := gd_some h
  replace h := lt_e h
  obtain ⟨-, h⟩ := gd_some h
  replace h := lt_e h
  obtain ⟨-, h⟩ := gd_some h
  replace h := lt_e h
  rcases br_any h with h | h
  · exact ((Fr_X7_put.rf.tr (Fr_X7_put.u_wnx _ _ _)).tr (Fr_X7_put.u_wpv _ _ _)).tr (fr_X7_put_L42  h)
  · obtain ⟨-, h⟩ := gd_some h
    replace h := lt_e h
    exact (((Fr_X7_put.rf.tr (Fr_X7_put.u_wnx _ _ _)).tr (Fr_X7_put.u_wpv _ _ _)).tr (Fr_X7_put.u_wpv _ _ _)).tr (fr_X7_put_L42  h)
def Fr_X8_offer (σ σ' : CSt) : Prop := σ'.1 = σ.1 ∧ σ'.2.1 = σ.2.1 ∧ σ'.2.2.1 = σ.2.2.1 ∧ cs_fpen σ' = cs_fpen σ ∧ cs_fstart σ' = cs_fstart σ ∧ cs_fss σ' = cs_fss σ ∧ cs_fgoal σ' = cs_fgoal σ ∧ cs_fgs σ' = cs_fgs σ ∧ cs_fcx σ' = cs_fcx σ ∧ cs_fcy σ' = cs_fcy σ ∧ cs_fcn σ' = cs_fcn σ ∧ σ'.2.2.2.2.1 = σ.2.2.2.2.1 ∧ cs_wre σ' = cs_wre σ ∧ σ'.2.2.2.2.2.2.1 = σ.2.2.2.2.2.2.1 ∧ σ'.2.2.2.2.2.2.2.1 = σ.2.2.2.2.2.2.2.1 ∧ σ'.2.2.2.2.2.2.2.2.1 = σ.2.2.2.2.2.2.2.2.1 ∧ σ'.2.2.2.2.2.2.2.2.2 = σ.2.2.2.2.2.2.2.2.2
theorem Fr_X8_offer.rf {σ : CSt} : Fr_X8_offer σ σ := ⟨rfl, rfl, rfl, rfl, rfl, rfl, rfl, rfl, rfl, rfl, rfl, rfl, rfl, rfl, rfl, rfl, rfl⟩
theorem Fr_X8_offer.tr {a b c : CSt} (h : Fr_X8_offer a b) (h' : Fr_X8_offer b c) : Fr_X8_offer a c := ⟨h'.1.trans h.1, h'.2.1.trans h.2.1, h'.2.2.1.trans h.2.2.1, h'.2.2.2.1.trans h.2.2.2.1, h'.2.2.2.2.1.trans h.2.2.2.2.1, h'.2.2.2.2.2.1.trans h.2.2.2.2.2.1, h'.2.2.2.2.2.2.1.trans h.2.2.2.2.2.2.1, h'.2.2.2.2.2.2.2.1.trans h.2.2.2.2.2.2.2.1, h'.2.2.2.2.2.2.2.2.1.trans h.2.2.2.2.2.2.2.2.1, h'.2.2.2.2.2.2.2.2.2.1.trans h.2.2.2.2.2.2.2.2.2.1, h'.2.2.2.2.2.2.2.2.2.2.1.trans h.2.2.2.2.2.2.2.2.2.2.1, h'.2.2.2.2.2.2.2.2.2.2.2.1.trans h.2.2.2.2.2.2.2.2.2.2.2.1, h'.2.2.2.2.2.2.2.2.2.2.2.2.1.trans h.2.2.2.2.2.2.2.2.2.2.2.2.1, h'.2.2.2.2.2.2.2.2.2.2.2.2.2.1.trans h.2.2.2.2.2.2.2.2.2.2.2.2.2.1, h'.2.2.2.2.2.2.2.2.2.2.2.2.2.2.1.trans h.2.2.2.2.2.2.2.2.2.2.2.2.2.2.1, h'.2.2.2.2.2.2.2.2.2.2.2.2.2.2.2.1.trans h.2.2.2.2.2.2.2.2.2.2.2.2.2.2.2.1, h'.2.2.2.2.2.2.2.2.2.2.2.2.2.2.2.2.trans h.2.2.2.2.2.2.2.2.2.2.2.2.2.2.2.2⟩
theorem Fr_X8_offer.u_frests (σ : CSt) (i x : Int32) : Fr_X8_offer σ (sc_frests σ i x) := ⟨rfl, rfl, rfl, rfl, rfl, rfl, rfl, rfl, rfl, rfl, rfl, rfl, rfl, rfl, rfl, rfl, rfl⟩
theorem Fr_X8_offer.c_X7_put {σ σ' : CSt} (h : Fr_X7_put σ σ') : Fr_X8_offer σ σ' := ⟨h.1, h.2.1, h.2.2.1, congrArg (fun q : CT_fi => q.2.1) h.2.2.2.1, congrArg (fun q : CT_fi => q.2.2.1) h.2.2.2.1, congrArg (fun q : CT_fi => q.2.2.2.1) h.2.2.2.1, congrArg (fun q : CT_fi => q.2.2.2.2.1) h.2.2.2.1, congrArg (fun q : CT_fi => q.2.2.2.2.2.1) h.2.2.2.1, congrArg (fun q : CT_fi => q.2.2.2.2.2.2.1) h.2.2.2.1, congrArg (fun q : CT_fi => q.2.2.2.2.2.2.2.1) h.2.2.2.1, congrArg (fun q : CT_fi => q.2.2.2.2.2.2.2.2) h.2.2.2.1, h.2.2.2.2.1, h.2.2.2.2.2.1, h.2.2.2.2.2.2.1, h.2.2.2.2.2.2.2.1, h.2.2.2.2.2.2.2.2.1, h.2.2.2.2.2.2.2.2.2⟩
theorem Fr_X8_offer.c_X7_remove {σ σ' : CSt} (h : Fr_X7_remove σ σ') : Fr_X8_offer σ σ' := ⟨h.1, h.2.1, h.2.2.1, congrArg (fun q : CT_fi => q.2.1) h.2.2.2.1, congrArg (fun q : CT_fi => q.2.2.1) h.2.2.2.1, congrArg (fun q : CT_fi => q.2.2.2.1) h.2.2.2.1, congrArg (fun q : CT_fi => q.2.2.2.2.1) h.2.2.2.1, congrArg (fun q : CT_fi => q.2.2.2.2.2.1) h.2.2.2.1, congrArg (fun q : CT_fi => q.2.2.2.2.2.2.1) h.2.2.2.1, congrArg (fun q : CT_fi => q.2.2.2.2.2.2.2.1) h.2.2.2.1, congrArg (fun q : CT_fi => q.2.2.2.2.2.2.2.2) h.2.2.2.1, h.2.2.2.2.1, h.2.2.2.2.2.1, h.2.2.2.2.2.2.1, h.2.2.2.2.2.2.2.1, h.2.2.2.2.2.2.2.2.1, h.2.2.2.2.2.2.2.2.2⟩
theorem fr_X8_offer_L36 {F : Nat} {σ : CSt} {x1 : Int32} {x2 : Int32} {R : CSt}  (h : fc_X8_offer_L36 F σ x1 x2 = some R) : Fr_X8_offer σ R := by
  unfold fc_X8_offer_L36 at h
  obtain ⟨-, h⟩ := gd_some h
  replace h := lt_e h
  obtain ⟨σ49, hc1, h⟩ := bd_some h
  obtain rfl := Option.some.inj h
  exact ((Fr_X8_offer.rf.tr (Fr_X8_offer.u_frests _ _ _)).tr (Fr_X8_offer.c_X7_put (fr_X7_put hc1)))
theorem fr_X8_offer {F : Nat} {σ : CSt} {x1 : Int32} {x2 : Int32} {R : CSt}  (h : fc_X8_offer F σ x1 x2 = some R) : Fr_X8_offer σ R := by
  unfold fc_X8_offer at h
  obtain ⟨-, h⟩ := gd_some h
  rcases br_any h with h | h
  · obtain ⟨-, h⟩ := gd_some h
    rcases br_any h with h | h
    · exact Fr_X8_offer.rf.tr (fr_X8_offer_L36  h)
    · obtain ⟨-, h⟩ := gd_some h
      obtain ⟨σ33, hc1, h⟩ := bd_some h
      exact (Fr_X8_offer.rf.tr (Fr_X8_offer.c_X7_remove (fr_X7_remove hc1))).tr (fr_X8_offer_L36  h)
  · obtain rfl := Option.some.inj h
    exact Fr_X8_offer.rf
def Fr_X7_takeCheapest (σ σ' : CSt) : Prop := σ'.1 = σ.1 ∧ σ'.2.1 = σ.2.1 ∧ σ'.2.2.1 = σ.2.2.1 ∧ σ'.2.2.2.1 = σ.2.2.2.1 ∧ σ'.2.2.2.2.1 = σ.2.2.2.2.1 ∧ σ'.2.2.2.2.2.2.1 = σ.2.2.2.2.2.2.1 ∧ σ'.2.2.2.2.2.2.2.1 = σ.2.2.2.2.2.2.2.1 ∧ σ'.2.2.2.2.2.2.2.2.1 = σ.2.2.2.2.2.2.2.2.1 ∧ σ'.2.2.2.2.2.2.2.2.2 = σ.2.2.2.2.2.2.2.2.2
theorem Fr_X7_takeCheapest.rf {σ : CSt} : Fr_X7_takeCheapest σ σ := ⟨rfl, rfl, rfl, rfl, rfl, rfl, rfl, rfl, rfl⟩
theorem Fr_X7_takeCheapest.tr {a b c : CSt} (h : Fr_X7_takeCheapest a b) (h' : Fr_X7_takeCheapest b c) : Fr_X7_takeCheapest a c := ⟨h'.1.trans h.1, h'.2.1.trans h.2.1, h'.2.2.1.trans h.2.2.1, h'.2.2.2.1.trans h.2.2.2.1, h'.2.2.2.2.1.trans h.2.2.2.2.1, h'.2.2.2.2.2.1.trans h.2.2.2.2.2.1, h'.2.2.2.2.2.2.1.trans h.2.2.2.2.2.2.1, h'.2.2.2.2.2.2.2.1.trans h.2.2.2.2.2.2.2.1, h'.2.2.2.2.2.2.2.2.trans h.2.2.2.2.2.2.2.2⟩
theorem Fr_X7_takeCheapest.s_wre (σ : CSt) (v : Int32) : Fr_X7_takeCheapest σ (cs_wre_s σ v) := ⟨rfl, rfl, rfl, rfl, rfl, rfl, rfl, rfl, rfl⟩
theorem Fr_X7_takeCheapest.c_X7_remove {σ σ' : CSt} (h : Fr_X7_remove σ σ') : Fr_X7_takeCheapest σ σ' := ⟨h.1, h.2.1, h.2.2.1, h.2.2.2.1, h.2.2.2.2.1, h.2.2.2.2.2.2.1, h.2.2.2.2.2.2.2.1, h.2.2.2.2.2.2.2.2.1, h.2.2.2.2.2.2.2.2.2⟩
theorem fr_X7_takeCheapest_L2_c {F : Nat} {k2 : CSt → Int32 → Option (Int32 × CSt)} {σ : CSt} {x1 : Int32} {r : Int32} {R : CSt} (hk2 : ∀ {y0 : CSt} {y1 : Int32}, k2 y0 y1 = some (r, R) → Fr_X7_takeCheapest y0 R) (h : fc_X7_takeCheapest_L2_c F k2 σ x1 = some (r, R)) : Fr_X7_takeCheapest σ R := by
  unfold fc_X7_takeCheapest_L2_c at h
  rcases br_any h with h | h
  · obtain ⟨-, rfl⟩ := Prod.mk.inj (Option.some.inj h)
    exact Fr_X7_takeCheapest.rf
  · replace h := lt_e h
    obtain ⟨-, h⟩ := gd_some h
    replace h := lt_e h
    rcases br_any h with h | h
    · replace h := lt_e h
      exact Fr_X7_takeCheapest.rf.tr (hk2 h)
    · replace h := lt_e h
      obtain ⟨σ39, hc1, h⟩ := bd_some h
      obtain ⟨-, rfl⟩ := Prod.mk.inj (Option.some.inj h)
      exact ((Fr_X7_takeCheapest.rf.tr (Fr_X7_takeCheapest.s_wre _ _)).tr (Fr_X7_takeCheapest.c_X7_remove (fr_X7_remove hc1)))
theorem fr_X7_takeCheapest_L2 {F : Nat} {n : Nat} {σ : CSt} {x1 : Int32} {r : Int32} {R : CSt}  (h : fc_X7_takeCheapest_L2 F n σ x1 = some (r, R)) : Fr_X7_takeCheapest σ R := by
  induction n generalizing σ x1 with
  | zero => cases (show (none : Option _) = _ from h)
  | succ n ih => exact fr_X7_takeCheapest_L2_c  (fun h9 => ih h9) (show fc_X7_takeCheapest_L2_c F (fc_X7_takeCheapest_L2 F n) σ x1 = some (r, R) from h)
theorem fr_X7_takeCheapest {F : Nat} {σ : CSt} {r : Int32} {R : CSt}  (h : fc_X7_takeCheapest F σ = some (r, R)) : Fr_X7_takeCheapest σ R := by
  unfold fc_X7_takeCheapest at h
  exact Fr_X7_takeCheapest.rf.tr (fr_X7_takeCheapest_L2  h)
def Fr_X8_goBackFrom (σ σ' : CSt) : Prop := σ'.1 = σ.1 ∧ σ'.2.1 = σ.2.1 ∧ σ'.2.2.1 = σ.2.2.1 ∧ cs_fpen σ' = cs_fpen σ ∧ cs_fstart σ' = cs_fstart σ ∧ cs_fss σ' = cs_fss σ ∧ cs_fgoal σ' = cs_fgoal σ ∧ cs_fgs σ' = cs_fgs σ ∧ cs_fcx σ' = cs_fcx σ ∧ cs_fcy σ' = cs_fcy σ ∧ cs_fcn σ' = cs_fcn σ ∧ σ'.2.2.2.2.1 = σ.2.2.2.2.1 ∧ cs_wre σ' = cs_wre σ ∧ σ'.2.2.2.2.2.2.1 = σ.2.2.2.2.2.2.1 ∧ σ'.2.2.2.2.2.2.2.1 = σ.2.2.2.2.2.2.2.1 ∧ σ'.2.2.2.2.2.2.2.2.1 = σ.2.2.2.2.2.2.2.2.1 ∧ σ'.2.2.2.2.2.2.2.2.2 = σ.2.2.2.2.2.2.2.2.2
theorem Fr_X8_goBackFrom.rf {σ : CSt} : Fr_X8_goBackFrom σ σ := ⟨rfl, rfl, rfl, rfl, rfl, rfl, rfl, rfl, rfl, rfl, rfl, rfl, rfl, rfl, rfl, rfl, rfl⟩
theorem Fr_X8_goBackFrom.tr {a b c : CSt} (h : Fr_X8_goBackFrom a b) (h' : Fr_X8_goBackFrom b c) : Fr_X8_goBackFrom a c := ⟨h'.1.trans h.1, h'.2.1.trans h.2.1, h'.2.2.1.trans h.2.2.1, h'.2.2.2.1.trans h.2.2.2.1, h'.2.2.2.2.1.trans h.2.2.2.2.1, h'.2.2.2.2.2.1.trans h.2.2.2.2.2.1, h'.2.2.2.2.2.2.1.trans h.2.2.2.2.2.2.1, h'.2.2.2.2.2.2.2.1.trans h.2.2.2.2.2.2.2.1, h'.2.2.2.2.2.2.2.2.1.trans h.2.2.2.2.2.2.2.2.1, h'.2.2.2.2.2.2.2.2.2.1.trans h.2.2.2.2.2.2.2.2.2.1, h'.2.2.2.2.2.2.2.2.2.2.1.trans h.2.2.2.2.2.2.2.2.2.2.1, h'.2.2.2.2.2.2.2.2.2.2.2.1.trans h.2.2.2.2.2.2.2.2.2.2.2.1, h'.2.2.2.2.2.2.2.2.2.2.2.2.1.trans h.2.2.2.2.2.2.2.2.2.2.2.2.1, h'.2.2.2.2.2.2.2.2.2.2.2.2.2.1.trans h.2.2.2.2.2.2.2.2.2.2.2.2.2.1, h'.2.2.2.2.2.2.2.2.2.2.2.2.2.2.1.trans h.2.2.2.2.2.2.2.2.2.2.2.2.2.2.1, h'.2.2.2.2.2.2.2.2.2.2.2.2.2.2.2.1.trans h.2.2.2.2.2.2.2.2.2.2.2.2.2.2.2.1, h'.2.2.2.2.2.2.2.2.2.2.2.2.2.2.2.2.trans h.2.2.2.2.2.2.2.2.2.2.2.2.2.2.2.2⟩
theorem Fr_X8_goBackFrom.c_X8_offer {σ σ' : CSt} (h : Fr_X8_offer σ σ') : Fr_X8_goBackFrom σ σ' := ⟨h.1, h.2.1, h.2.2.1, h.2.2.2.1, h.2.2.2.2.1, h.2.2.2.2.2.1, h.2.2.2.2.2.2.1, h.2.2.2.2.2.2.2.1, h.2.2.2.2.2.2.2.2.1, h.2.2.2.2.2.2.2.2.2.1, h.2.2.2.2.2.2.2.2.2.2.1, h.2.2.2.2.2.2.2.2.2.2.2.1, h.2.2.2.2.2.2.2.2.2.2.2.2.1, h.2.2.2.2.2.2.2.2.2.2.2.2.2.1, h.2.2.2.2.2.2.2.2.2.2.2.2.2.2.1, h.2.2.2.2.2.2.2.2.2.2.2.2.2.2.2.1, h.2.2.2.2.2.2.2.2.2.2.2.2.2.2.2.2⟩
theorem fr_X8_goBackFrom_L97 {F : Nat} {k55 : CSt → Int32 → Int32 → Int32 → Int32 → Int32 → Option (CSt)} {σ : CSt} {x3 : Int32} {x4 : Int32} {x5 : Int32} {x6 : Int32} {x7 : Int32} {R : CSt} (hk55 : ∀ {y0 : CSt} {y1 : Int32} {y2 : Int32} {y3 : Int32} {y4 : Int32} {y5 : Int32}, k55 y0 y1 y2 y3 y4 y5 = some R → Fr_X8_goBackFrom y0 R) (h : fc_X8_goBackFrom_L97 F k55 σ x3 x4 x5 x6 x7 = some R) : Fr_X8_goBackFrom σ R := by
  unfold fc_X8_goBackFrom_L97 at h
  replace h := lt_e h
  exact Fr_X8_goBackFrom.rf.tr (hk55 h)
theorem fr_X8_goBackFrom_L94 {F : Nat} {k55 : CSt → Int32 → Int32 → Int32 → Int32 → Int32 → Option (CSt)} {σ : CSt} {x3 : Int32} {x4 : Int32} {x5 : Int32} {x6 : Int32} {x7 : Int32} {s0 : Int32} {s1 : Int32} {R : CSt} (hk55 : ∀ {y0 : CSt} {y1 : Int32} {y2 : Int32} {y3 : Int32} {y4 : Int32} {y5 : Int32}, k55 y0 y1 y2 y3 y4 y5 = some R → Fr_X8_goBackFrom y0 R) (h : fc_X8_goBackFrom_L94 F k55 σ x3 x4 x5 x6 x7 s0 s1 = some R) : Fr_X8_goBackFrom σ R := by
  unfold fc_X8_goBackFrom_L94 at h
  obtain ⟨σ94, hc1, h⟩ := bd_some h
  exact (Fr_X8_goBackFrom.rf.tr (Fr_X8_goBackFrom.c_X8_offer (fr_X8_offer hc1))).tr (fr_X8_goBackFrom_L97 hk55 h)
theorem fr_X8_goBackFrom_L55_c {F : Nat} {k55 : CSt → Int32 → Int32 → Int32 → Int32 → Int32 → Option (CSt)} {σ : CSt} {x3 : Int32} {x4 : Int32} {x5 : Int32} {x6 : Int32} {x7 : Int32} {R : CSt} (hk55 : ∀ {y0 : CSt} {y1 : Int32} {y2 : Int32} {y3 : Int32} {y4 : Int32} {y5 : Int32}, k55 y0 y1 y2 y3 y4 y5 = some R → Fr_X8_goBackFrom y0 R) (h : fc_X8_goBackFrom_L55_c F k55 σ x3 x4 x5 x6 x7 = some R) : Fr_X8_goBackFrom σ R := by
  unfold fc_X8_goBackFrom_L55_c at h
  rcases br_any h with h | h
  · obtain rfl := Option.some.inj h
    exact Fr_X8_goBackFrom.rf
  · rcases br_any h with h | h
    · exact Fr_X8_goBackFrom.rf.tr (fr_X8_goBackFrom_L97 hk55 h)
    · obtain ⟨r73, hc1, h⟩ := bd_some h
      rcases br_any h with h | h
      · exact Fr_X8_goBackFrom.rf.tr (fr_X8_goBackFrom_L94 hk55 h)
      · exact Fr_X8_goBackFrom.rf.tr (fr_X8_goBackFrom_L94 hk55 h)
theorem fr_X8_goBackFrom_L55 {F : Nat} {n : Nat} {σ : CSt} {x3 : Int32} {x4 : Int32} {x5 : Int32} {x6 : Int32} {x7 : Int32} {R : CSt}  (h : fc_X8_goBackFrom_L55 F n σ x3 x4 x5 x6 x7 = some R) : Fr_X8_goBackFrom σ R := by
  induction n generalizing σ x3 x4 x5 x6 x7 with
  | zero => cases (show (none : Option _) = _ from h)
  | succ n ih => exact fr_X8_goBackFrom_L55_c  (fun h9 => ih h9) (show fc_X8_goBackFrom_L55_c F (fc_X8_goBackFrom_L55 F n) σ x3 x4 x5 x6 x7 = some R from h)
theorem fr_X8_goBackFrom {F : Nat} {σ : CSt} {x1 : Int32} {R : CSt}  (h : fc_X8_goBackFrom F σ x1 = some R) : Fr_X8_goBackFrom σ R := by
  unfold fc_X8_goBackFrom at h
  replace h := lt_e h
  replace h := lt_e h
  obtain ⟨r9, hc1, h⟩ := bd_some h
  obtain ⟨r21, hc2, h⟩ := bd_some h
  rcases br_any h with h | h
  · obtain rfl := Option.some.inj h
    exact Fr_X8_goBackFrom.rf
  · obtain ⟨-, h⟩ := gd_some h
    obtain ⟨r46, hc3, h⟩ := bd_some h
    replace h := lt_e h
    exact Fr_X8_goBackFrom.rf.tr (fr_X8_goBackFrom_L55  h)
def Fr_X8_addCorner (σ σ' : CSt) : Prop := σ'.1 = σ.1 ∧ σ'.2.1 = σ.2.1 ∧ σ'.2.2.1 = σ.2.2.1 ∧ cs_frests σ' = cs_frests σ ∧ cs_fpen σ' = cs_fpen σ ∧ cs_fstart σ' = cs_fstart σ ∧ cs_fss σ' = cs_fss σ ∧ cs_fgoal σ' = cs_fgoal σ ∧ cs_fgs σ' = cs_fgs σ ∧ σ'.2.2.2.2.1 = σ.2.2.2.2.1 ∧ σ'.2.2.2.2.2.1 = σ.2.2.2.2.2.1 ∧ σ'.2.2.2.2.2.2.1 = σ.2.2.2.2.2.2.1 ∧ σ'.2.2.2.2.2.2.2.1 = σ.2.2.2.2.2.2.2.1 ∧ σ'.2.2.2.2.2.2.2.2.1 = σ.2.2.2.2.2.2.2.2.1 ∧ σ'.2.2.2.2.2.2.2.2.2 = σ.2.2.2.2.2.2.2.2.2
theorem Fr_X8_addCorner.rf {σ : CSt} : Fr_X8_addCorner σ σ := ⟨rfl, rfl, rfl, rfl, rfl, rfl, rfl, rfl, rfl, rfl, rfl, rfl, rfl, rfl, rfl⟩
theorem Fr_X8_addCorner.tr {a b c : CSt} (h : Fr_X8_addCorner a b) (h' : Fr_X8_addCorner b c) : Fr_X8_addCorner a c := ⟨h'.1.trans h.1, h'.2.1.trans h.2.1, h'.2.2.1.trans h.2.2.1, h'.2.2.2.1.trans h.2.2.2.1, h'.2.2.2.2.1.trans h.2.2.2.2.1, h'.2.2.2.2.2.1.trans h.2.2.2.2.2.1, h'.2.2.2.2.2.2.1.trans h.2.2.2.2.2.2.1, h'.2.2.2.2.2.2.2.1.trans h.2.2.2.2.2.2.2.1, h'.2.2.2.2.2.2.2.2.1.trans h.2.2.2.2.2.2.2.2.1, h'.2.2.2.2.2.2.2.2.2.1.trans h.2.2.2.2.2.2.2.2.2.1, h'.2.2.2.2.2.2.2.2.2.2.1.trans h.2.2.2.2.2.2.2.2.2.2.1, h'.2.2.2.2.2.2.2.2.2.2.2.1.trans h.2.2.2.2.2.2.2.2.2.2.2.1, h'.2.2.2.2.2.2.2.2.2.2.2.2.1.trans h.2.2.2.2.2.2.2.2.2.2.2.2.1, h'.2.2.2.2.2.2.2.2.2.2.2.2.2.1.trans h.2.2.2.2.2.2.2.2.2.2.2.2.2.1, h'.2.2.2.2.2.2.2.2.2.2.2.2.2.2.trans h.2.2.2.2.2.2.2.2.2.2.2.2.2.2⟩
theorem Fr_X8_addCorner.s_fcn (σ : CSt) (v : Int32) : Fr_X8_addCorner σ (cs_fcn_s σ v) := ⟨rfl, rfl, rfl, rfl, rfl, rfl, rfl, rfl, rfl, rfl, rfl, rfl, rfl, rfl, rfl⟩
theorem Fr_X8_addCorner.u_fcx (σ : CSt) (i x : Int32) : Fr_X8_addCorner σ (sc_fcx σ i x) := ⟨rfl, rfl, rfl, rfl, rfl, rfl, rfl, rfl, rfl, rfl, rfl, rfl, rfl, rfl, rfl⟩
theorem Fr_X8_addCorner.u_fcy (σ : CSt) (i x : Int32) : Fr_X8_addCorner σ (sc_fcy σ i x) := ⟨rfl, rfl, rfl, rfl, rfl, rfl, rfl, rfl, rfl, rfl, rfl, rfl, rfl, rfl, rfl⟩
theorem fr_X8_addCorner_L40 {F : Nat} {σ : CSt} {R : CSt}  (h : fc_X8_addCorner_L40 F σ = some R) : Fr_X8_addCorner σ R := by
  unfold fc_X8_addCorner_L40 at h
  obtain rfl := Option.some.inj h
  exact Fr_X8_addCorner.rf
theorem fr_X8_addCorner {F : Nat} {σ : CSt} {x1 : Int32} {x2 : Int32} {R : CSt}  (h : fc_X8_addCorner F σ x1 x2 = some R) : Fr_X8_addCorner σ R := by
  unfold fc_X8_addCorner at h
  rcases br_any h with h | h
  · exact Fr_X8_addCorner.rf.tr (fr_X8_addCorner_L40  h)
  · obtain ⟨-, h⟩ := gd_some h
    replace h := lt_e h
    obtain ⟨-, h⟩ := gd_some h
    replace h := lt_e h
    replace h := lt_e h
    exact (((Fr_X8_addCorner.rf.tr (Fr_X8_addCorner.u_fcx _ _ _)).tr (Fr_X8_addCorner.u_fcy _ _ _)).tr (Fr_X8_addCorner.s_fcn _ _)).tr (fr_X8_addCorner_L40  h)
def Fr_X8_walk (σ σ' : CSt) : Prop := σ'.1 = σ.1 ∧ σ'.2.1 = σ.2.1 ∧ σ'.2.2.1 = σ.2.2.1 ∧ cs_frests σ' = cs_frests σ ∧ cs_fpen σ' = cs_fpen σ ∧ cs_fstart σ' = cs_fstart σ ∧ cs_fss σ' = cs_fss σ ∧ cs_fgoal σ' = cs_fgoal σ ∧ cs_fgs σ' = cs_fgs σ ∧ σ'.2.2.2.2.1 = σ.2.2.2.2.1 ∧ σ'.2.2.2.2.2.1 = σ.2.2.2.2.2.1 ∧ σ'.2.2.2.2.2.2.1 = σ.2.2.2.2.2.2.1 ∧ σ'.2.2.2.2.2.2.2.1 = σ.2.2.2.2.2.2.2.1 ∧ σ'.2.2.2.2.2.2.2.2.1 = σ.2.2.2.2.2.2.2.2.1 ∧ σ'.2.2.2.2.2.2.2.2.2 = σ.2.2.2.2.2.2.2.2.2
theorem Fr_X8_walk.rf {σ : CSt} : Fr_X8_walk σ σ := ⟨rfl, rfl, rfl, rfl, rfl, rfl, rfl, rfl, rfl, rfl, rfl, rfl, rfl, rfl, rfl⟩
theorem Fr_X8_walk.tr {a b c : CSt} (h : Fr_X8_walk a b) (h' : Fr_X8_walk b c) : Fr_X8_walk a c := ⟨h'.1.trans h.1, h'.2.1.trans h.2.1, h'.2.2.1.trans h.2.2.1, h'.2.2.2.1.trans h.2.2.2.1, h'.2.2.2.2.1.trans h.2.2.2.2.1, h'.2.2.2.2.2.1.trans h.2.2.2.2.2.1, h'.2.2.2.2.2.2.1.trans h.2.2.2.2.2.2.1, h'.2.2.2.2.2.2.2.1.trans h.2.2.2.2.2.2.2.1, h'.2.2.2.2.2.2.2.2.1.trans h.2.2.2.2.2.2.2.2.1, h'.2.2.2.2.2.2.2.2.2.1.trans h.2.2.2.2.2.2.2.2.2.1, h'.2.2.2.2.2.2.2.2.2.2.1.trans h.2.2.2.2.2.2.2.2.2.2.1, h'.2.2.2.2.2.2.2.2.2.2.2.1.trans h.2.2.2.2.2.2.2.2.2.2.2.1, h'.2.2.2.2.2.2.2.2.2.2.2.2.1.trans h.2.2.2.2.2.2.2.2.2.2.2.2.1, h'.2.2.2.2.2.2.2.2.2.2.2.2.2.1.trans h.2.2.2.2.2.2.2.2.2.2.2.2.2.1, h'.2.2.2.2.2.2.2.2.2.2.2.2.2.2.trans h.2.2.2.2.2.2.2.2.2.2.2.2.2.2⟩
theorem Fr_X8_walk.s_fcn (σ : CSt) (v : Int32) : Fr_X8_walk σ (cs_fcn_s σ v) := ⟨rfl, rfl, rfl, rfl, rfl, rfl, rfl, rfl, rfl, rfl, rfl, rfl, rfl, rfl, rfl⟩
theorem Fr_X8_walk.c_X8_addCorner {σ σ' : CSt} (h : Fr_X8_addCorner σ σ') : Fr_X8_walk σ σ' := ⟨h.1, h.2.1, h.2.2.1, h.2.2.2.1, h.2.2.2.2.1, h.2.2.2.2.2.1, h.2.2.2.2.2.2.1, h.2.2.2.2.2.2.2.1, h.2.2.2.2.2.2.2.2.1, h.2.2.2.2.2.2.2.2.2.1, h.2.2.2.2.2.2.2.2.2.2.1, h.2.2.2.2.2.2.2.2.2.2.2.1, h.2.2.2.2.2.2.2.2.2.2.2.2.1, h.2.2.2.2.2.2.2.2.2.2.2.2.2.1, h.2.2.2.2.2.2.2.2.2.2.2.2.2.2⟩
theorem fr_X8_walk_L166 {F : Nat} {σ : CSt} {R : CSt}  (h : fc_X8_walk_L166 F σ = some R) : Fr_X8_walk σ R := by
  unfold fc_X8_walk_L166 at h
  obtain ⟨r175, hc1, h⟩ := bd_some h
  obtain ⟨r182, hc2, h⟩ := bd_some h
  obtain ⟨r194, hc3, h⟩ := bd_some h
  obtain ⟨r201, hc4, h⟩ := bd_some h
  obtain ⟨σ205, hc5, h⟩ := bd_some h
  obtain rfl := Option.some.inj h
  exact (Fr_X8_walk.rf.tr (Fr_X8_walk.c_X8_addCorner (fr_X8_addCorner hc5)))
theorem fr_X8_walk_L129 {F : Nat} {σ : CSt} {x2 : Int32} {R : CSt}  (h : fc_X8_walk_L129 F σ x2 = some R) : Fr_X8_walk σ R := by
  unfold fc_X8_walk_L129 at h
  obtain ⟨r134, hc1, h⟩ := bd_some h
  rcases br_any h with h | h
  · exact Fr_X8_walk.rf.tr (fr_X8_walk_L166  h)
  · obtain ⟨r149, hc2, h⟩ := bd_some h
    obtain ⟨r160, hc3, h⟩ := bd_some h
    obtain ⟨σ163, hc4, h⟩ := bd_some h
    exact (Fr_X8_walk.rf.tr (Fr_X8_walk.c_X8_addCorner (fr_X8_addCorner hc4))).tr (fr_X8_walk_L166  h)
theorem fr_X8_walk_L109 {F : Nat} {k59 : CSt → Int32 → Int32 → Int32 → Option (CSt)} {σ : CSt} {x1 : Int32} {x3 : Int32} {x4 : Int32} {R : CSt} (hk59 : ∀ {y0 : CSt} {y1 : Int32} {y2 : Int32} {y3 : Int32}, k59 y0 y1 y2 y3 = some R → Fr_X8_walk y0 R) (h : fc_X8_walk_L109 F k59 σ x1 x3 x4 = some R) : Fr_X8_walk σ R := by
  unfold fc_X8_walk_L109 at h
  obtain ⟨r116, hc1, h⟩ := bd_some h
  replace h := lt_e h
  exact Fr_X8_walk.rf.tr (hk59 h)
theorem fr_X8_walk_L59_c {F : Nat} {k59 : CSt → Int32 → Int32 → Int32 → Option (CSt)} {σ : CSt} {x1 : Int32} {x2 : Int32} {x3 : Int32} {R : CSt} (hk59 : ∀ {y0 : CSt} {y1 : Int32} {y2 : Int32} {y3 : Int32}, k59 y0 y1 y2 y3 = some R → Fr_X8_walk y0 R) (h : fc_X8_walk_L59_c F k59 σ x1 x2 x3 = some R) : Fr_X8_walk σ R := by
  unfold fc_X8_walk_L59_c at h
  rcases br_any h with h | h
  · exact Fr_X8_walk.rf.tr (fr_X8_walk_L129  h)
  · obtain ⟨r69, hc1, h⟩ := bd_some h
    rcases br_any h with h | h
    · exact Fr_X8_walk.rf.tr (fr_X8_walk_L129  h)
    · rcases br_any h with h | h
      · exact Fr_X8_walk.rf.tr (fr_X8_walk_L109 hk59 h)
      · obtain ⟨r95, hc2, h⟩ := bd_some h
        obtain ⟨r103, hc3, h⟩ := bd_some h
        obtain ⟨σ106, hc4, h⟩ := bd_some h
        exact (Fr_X8_walk.rf.tr (Fr_X8_walk.c_X8_addCorner (fr_X8_addCorner hc4))).tr (fr_X8_walk_L109 hk59 h)
theorem fr_X8_walk_L59 {F : Nat} {n : Nat} {σ : CSt} {x1 : Int32} {x2 : Int32} {x3 : Int32} {R : CSt}  (h : fc_X8_walk_L59 F n σ x1 x2 x3 = some R) : Fr_X8_walk σ R := by
  induction n generalizing σ x1 x2 x3 with
  | zero => cases (show (none : Option _) = _ from h)
  | succ n ih => exact fr_X8_walk_L59_c  (fun h9 => ih h9) (show fc_X8_walk_L59_c F (fc_X8_walk_L59 F n) σ x1 x2 x3 = some R from h)
theorem fr_X8_walk {F : Nat} {σ : CSt} {R : CSt}  (h : fc_X8_walk F σ = some R) : Fr_X8_walk σ R := by
  unfold fc_X8_walk at h
  replace h := lt_e h
  obtain ⟨r14, hc1, h⟩ := bd_some h
  obtain ⟨r21, hc2, h⟩ := bd_some h
  obtain ⟨r33, hc3, h⟩ := bd_some h
  obtain ⟨r40, hc4, h⟩ := bd_some h
  obtain ⟨σ44, hc5, h⟩ := bd_some h
  replace h := lt_e h
  replace h := lt_e h
  exact ((Fr_X8_walk.rf.tr (Fr_X8_walk.s_fcn _ _)).tr (Fr_X8_walk.c_X8_addCorner (fr_X8_addCorner hc5))).tr (fr_X8_walk_L59  h)
def Fr_X0_add (σ σ' : CSt) : Prop := σ'.1 = σ.1 ∧ σ'.2.1 = σ.2.1 ∧ σ'.2.2.1 = σ.2.2.1 ∧ σ'.2.2.2.1 = σ.2.2.2.1 ∧ σ'.2.2.2.2.1 = σ.2.2.2.2.1 ∧ σ'.2.2.2.2.2.1 = σ.2.2.2.2.2.1 ∧ cs_bo σ' = cs_bo σ ∧ σ'.2.2.2.2.2.2.2.1 = σ.2.2.2.2.2.2.2.1 ∧ σ'.2.2.2.2.2.2.2.2.1 = σ.2.2.2.2.2.2.2.2.1 ∧ σ'.2.2.2.2.2.2.2.2.2 = σ.2.2.2.2.2.2.2.2.2
theorem Fr_X0_add.rf {σ : CSt} : Fr_X0_add σ σ := ⟨rfl, rfl, rfl, rfl, rfl, rfl, rfl, rfl, rfl, rfl⟩
theorem Fr_X0_add.tr {a b c : CSt} (h : Fr_X0_add a b) (h' : Fr_X0_add b c) : Fr_X0_add a c := ⟨h'.1.trans h.1, h'.2.1.trans h.2.1, h'.2.2.1.trans h.2.2.1, h'.2.2.2.1.trans h.2.2.2.1, h'.2.2.2.2.1.trans h.2.2.2.2.1, h'.2.2.2.2.2.1.trans h.2.2.2.2.2.1, h'.2.2.2.2.2.2.1.trans h.2.2.2.2.2.2.1, h'.2.2.2.2.2.2.2.1.trans h.2.2.2.2.2.2.2.1, h'.2.2.2.2.2.2.2.2.1.trans h.2.2.2.2.2.2.2.2.1, h'.2.2.2.2.2.2.2.2.2.trans h.2.2.2.2.2.2.2.2.2⟩
theorem Fr_X0_add.s_bs (σ : CSt) (v : Int32) : Fr_X0_add σ (cs_bs_s σ v) := ⟨rfl, rfl, rfl, rfl, rfl, rfl, rfl, rfl, rfl, rfl⟩
theorem Fr_X0_add.u_ben (σ : CSt) (i x : Int32) : Fr_X0_add σ (sc_ben σ i x) := ⟨rfl, rfl, rfl, rfl, rfl, rfl, rfl, rfl, rfl, rfl⟩
theorem Fr_X0_add.u_bla (σ : CSt) (i x : Int32) : Fr_X0_add σ (sc_bla σ i x) := ⟨rfl, rfl, rfl, rfl, rfl, rfl, rfl, rfl, rfl, rfl⟩
theorem Fr_X0_add.u_bpu (σ : CSt) (i x : Int32) : Fr_X0_add σ (sc_bpu σ i x) := ⟨rfl, rfl, rfl, rfl, rfl, rfl, rfl, rfl, rfl, rfl⟩
theorem Fr_X0_add.u_bre (σ : CSt) (i x : Int32) : Fr_X0_add σ (sc_bre σ i x) := ⟨rfl, rfl, rfl, rfl, rfl, rfl, rfl, rfl, rfl, rfl⟩
theorem Fr_X0_add.u_bst (σ : CSt) (i x : Int32) : Fr_X0_add σ (sc_bst σ i x) := ⟨rfl, rfl, rfl, rfl, rfl, rfl, rfl, rfl, rfl, rfl⟩
theorem fr_X0_add {F : Nat} {σ : CSt} {vx1 : RV} {x2 : Int32} {R : CSt}  (h : fc_X0_add F σ vx1 x2 = some R) : Fr_X0_add σ R := by
  unfold fc_X0_add at h
  obtain ⟨r10, hc1, h⟩ := bd_some h
  obtain ⟨-, h⟩ := gd_some h
  replace h := lt_e h
  obtain ⟨r24, hc2, h⟩ := bd_some h
  obtain ⟨-, h⟩ := gd_some h
  replace h := lt_e h
  obtain ⟨r38, hc3, h⟩ := bd_some h
  obtain ⟨-, h⟩ := gd_some h
  replace h := lt_e h
  obtain ⟨-, h⟩ := gd_some h
  replace h := lt_e h
  obtain ⟨-, h⟩ := gd_some h
  replace h := lt_e h
  replace h := lt_e h
  obtain rfl := Option.some.inj h
  exact ((((((Fr_X0_add.rf.tr (Fr_X0_add.u_bst _ _ _)).tr (Fr_X0_add.u_ben _ _ _)).tr (Fr_X0_add.u_bpu _ _ _)).tr (Fr_X0_add.u_bla _ _ _)).tr (Fr_X0_add.u_bre _ _ _)).tr (Fr_X0_add.s_bs _ _))
def Fr_X0_gather (σ σ' : CSt) : Prop := σ'.1 = σ.1 ∧ σ'.2.1 = σ.2.1 ∧ σ'.2.2.1 = σ.2.2.1 ∧ σ'.2.2.2.1 = σ.2.2.2.1 ∧ σ'.2.2.2.2.1 = σ.2.2.2.2.1 ∧ σ'.2.2.2.2.2.1 = σ.2.2.2.2.2.1 ∧ σ'.2.2.2.2.2.2.2.1 = σ.2.2.2.2.2.2.2.1 ∧ σ'.2.2.2.2.2.2.2.2.1 = σ.2.2.2.2.2.2.2.2.1 ∧ σ'.2.2.2.2.2.2.2.2.2 = σ.2.2.2.2.2.2.2.2.2
theorem Fr_X0_gather.rf {σ : CSt} : Fr_X0_gather σ σ := ⟨rfl, rfl, rfl, rfl, rfl, rfl, rfl, rfl, rfl⟩
theorem Fr_X0_gather.tr {a b c : CSt} (h : Fr_X0_gather a b) (h' : Fr_X0_gather b c) : Fr_X0_gather a c := ⟨h'.1.trans h.1, h'.2.1.trans h.2.1, h'.2.2.1.trans h.2.2.1, h'.2.2.2.1.trans h.2.2.2.1, h'.2.2.2.2.1.trans h.2.2.2.2.1, h'.2.2.2.2.2.1.trans h.2.2.2.2.2.1, h'.2.2.2.2.2.2.1.trans h.2.2.2.2.2.2.1, h'.2.2.2.2.2.2.2.1.trans h.2.2.2.2.2.2.2.1, h'.2.2.2.2.2.2.2.2.trans h.2.2.2.2.2.2.2.2⟩
theorem Fr_X0_gather.s_bo (σ : CSt) (v : Int32) : Fr_X0_gather σ (cs_bo_s σ v) := ⟨rfl, rfl, rfl, rfl, rfl, rfl, rfl, rfl, rfl⟩
theorem Fr_X0_gather.s_bs (σ : CSt) (v : Int32) : Fr_X0_gather σ (cs_bs_s σ v) := ⟨rfl, rfl, rfl, rfl, rfl, rfl, rfl, rfl, rfl⟩
theorem Fr_X0_gather.c_X0_add {σ σ' : CSt} (h : Fr_X0_add σ σ') : Fr_X0_gather σ σ' := ⟨h.1, h.2.1, h.2.2.1, h.2.2.2.1, h.2.2.2.2.1, h.2.2.2.2.2.1, h.2.2.2.2.2.2.2.1, h.2.2.2.2.2.2.2.2.1, h.2.2.2.2.2.2.2.2.2⟩
theorem fr_X0_gather_L158 {F : Nat} {k42 : CSt → Int32 → Int32 → Int32 → Int32 → Int32 → Option (CSt)} {σ : CSt} {x2 : Int32} {x3 : Int32} {x5 : Int32} {x6 : Int32} {x7 : Int32} {R : CSt} (hk42 : ∀ {y0 : CSt} {y1 : Int32} {y2 : Int32} {y3 : Int32} {y4 : Int32} {y5 : Int32}, k42 y0 y1 y2 y3 y4 y5 = some R → Fr_X0_gather y0 R) (h : fc_X0_gather_L158 F k42 σ x2 x3 x5 x6 x7 = some R) : Fr_X0_gather σ R := by
  unfold fc_X0_gather_L158 at h
  replace h := lt_e h
  exact Fr_X0_gather.rf.tr (hk42 h)
theorem fr_X0_gather_L152 {F : Nat} {k42 : CSt → Int32 → Int32 → Int32 → Int32 → Int32 → Option (CSt)} {k71 : CSt → Int32 → Int32 → Int32 → Int32 → Int32 → RV → Int32 → Option (CSt)} {σ : CSt} {x2 : Int32} {x3 : Int32} {x5 : Int32} {x6 : Int32} {x7 : Int32} {vx8 : RV} {x9 : Int32} {R : CSt} (hk42 : ∀ {y0 : CSt} {y1 : Int32} {y2 : Int32} {y3 : Int32} {y4 : Int32} {y5 : Int32}, k42 y0 y1 y2 y3 y4 y5 = some R → Fr_X0_gather y0 R) (hk71 : ∀ {y0 : CSt} {y1 : Int32} {y2 : Int32} {y3 : Int32} {y4 : Int32} {y5 : Int32} {y6 : RV} {y7 : Int32}, k71 y0 y1 y2 y3 y4 y5 y6 y7 = some R → Fr_X0_gather y0 R) (h : fc_X0_gather_L152 F k42 k71 σ x2 x3 x5 x6 x7 vx8 x9 = some R) : Fr_X0_gather σ R := by
  unfold fc_X0_gather_L152 at h
  replace h := lt_e h
  exact Fr_X0_gather.rf.tr (hk71 h)
theorem fr_X0_gather_L141 {F : Nat} {k42 : CSt → Int32 → Int32 → Int32 → Int32 → Int32 → Option (CSt)} {k71 : CSt → Int32 → Int32 → Int32 → Int32 → Int32 → RV → Int32 → Option (CSt)} {σ : CSt} {x2 : Int32} {x3 : Int32} {x5 : Int32} {x6 : Int32} {x7 : Int32} {vx8 : RV} {x9 : Int32} {s0 : Int32} {R : CSt} (hk42 : ∀ {y0 : CSt} {y1 : Int32} {y2 : Int32} {y3 : Int32} {y4 : Int32} {y5 : Int32}, k42 y0 y1 y2 y3 y4 y5 = some R → Fr_X0_gather y0 R) (hk71 : ∀ {y0 : CSt} {y1 : Int32} {y2 : Int32} {y3 : Int32} {y4 : Int32} {y5 : Int32} {y6 : RV} {y7 : Int32}, k71 y0 y1 y2 y3 y4 y5 y6 y7 = some R → Fr_X0_gather y0 R) (h : fc_X0_gather_L141 F k42 k71 σ x2 x3 x5 x6 x7 vx8 x9 s0 = some R) : Fr_X0_gather σ R := by
  unfold fc_X0_gather_L141 at h
  replace h := lt_e h
  obtain ⟨σ149, hc1, h⟩ := bd_some h
  exact ((Fr_X0_gather.rf.tr (Fr_X0_gather.s_bo _ _)).tr (Fr_X0_gather.c_X0_add (fr_X0_add hc1))).tr (fr_X0_gather_L152 hk42 hk71 h)
theorem fr_X0_gather_L137 {F : Nat} {k42 : CSt → Int32 → Int32 → Int32 → Int32 → Int32 → Option (CSt)} {k71 : CSt → Int32 → Int32 → Int32 → Int32 → Int32 → RV → Int32 → Option (CSt)} {σ : CSt} {x2 : Int32} {x3 : Int32} {x5 : Int32} {x6 : Int32} {x7 : Int32} {vx8 : RV} {x9 : Int32} {R : CSt} (hk42 : ∀ {y0 : CSt} {y1 : Int32} {y2 : Int32} {y3 : Int32} {y4 : Int32} {y5 : Int32}, k42 y0 y1 y2 y3 y4 y5 = some R → Fr_X0_gather y0 R) (hk71 : ∀ {y0 : CSt} {y1 : Int32} {y2 : Int32} {y3 : Int32} {y4 : Int32} {y5 : Int32} {y6 : RV} {y7 : Int32}, k71 y0 y1 y2 y3 y4 y5 y6 y7 = some R → Fr_X0_gather y0 R) (h : fc_X0_gather_L137 F k42 k71 σ x2 x3 x5 x6 x7 vx8 x9 = some R) : Fr_X0_gather σ R := by
  unfold fc_X0_gather_L137 at h
  exact Fr_X0_gather.rf.tr (fr_X0_gather_L141 hk42 hk71 h)
theorem fr_X0_gather_L71_c {F : Nat} {k42 : CSt → Int32 → Int32 → Int32 → Int32 → Int32 → Option (CSt)} {k71 : CSt → Int32 → Int32 → Int32 → Int32 → Int32 → RV → Int32 → Option (CSt)} {σ : CSt} {x2 : Int32} {x3 : Int32} {x5 : Int32} {x6 : Int32} {x7 : Int32} {vx8 : RV} {x9 : Int32} {R : CSt} (hk42 : ∀ {y0 : CSt} {y1 : Int32} {y2 : Int32} {y3 : Int32} {y4 : Int32} {y5 : Int32}, k42 y0 y1 y2 y3 y4 y5 = some R → Fr_X0_gather y0 R) (hk71 : ∀ {y0 : CSt} {y1 : Int32} {y2 : Int32} {y3 : Int32} {y4 : Int32} {y5 : Int32} {y6 : RV} {y7 : Int32}, k71 y0 y1 y2 y3 y4 y5 y6 y7 = some R → Fr_X0_gather y0 R) (h : fc_X0_gather_L71_c F k42 k71 σ x2 x3 x5 x6 x7 vx8 x9 = some R) : Fr_X0_gather σ R := by
  unfold fc_X0_gather_L71_c at h
  obtain ⟨r75, hc1, h⟩ := bd_some h
  rcases br_any h with h | h
  · exact Fr_X0_gather.rf.tr (fr_X0_gather_L158 hk42 h)
  · rcases br_any h with h | h
    · exact Fr_X0_gather.rf.tr (fr_X0_gather_L158 hk42 h)
    · obtain ⟨r97, hc2, h⟩ := bd_some h
      rcases br_any h with h | h
      · obtain ⟨r109, hc3, h⟩ := bd_some h
        rcases br_any h with h | h
        · rcases br_any h with h | h
          · rcases br_any h with h | h
            · exact Fr_X0_gather.rf.tr (fr_X0_gather_L141 hk42 hk71 h)
            · exact Fr_X0_gather.rf.tr (fr_X0_gather_L137 hk42 hk71 h)
          · exact Fr_X0_gather.rf.tr (fr_X0_gather_L137 hk42 hk71 h)
        · exact Fr_X0_gather.rf.tr (fr_X0_gather_L152 hk42 hk71 h)
      · exact Fr_X0_gather.rf.tr (fr_X0_gather_L152 hk42 hk71 h)
theorem fr_X0_gather_L71 {F : Nat} {k42 : CSt → Int32 → Int32 → Int32 → Int32 → Int32 → Option (CSt)} {n : Nat} {σ : CSt} {x2 : Int32} {x3 : Int32} {x5 : Int32} {x6 : Int32} {x7 : Int32} {vx8 : RV} {x9 : Int32} {R : CSt} (hk42 : ∀ {y0 : CSt} {y1 : Int32} {y2 : Int32} {y3 : Int32} {y4 : Int32} {y5 : Int32}, k42 y0 y1 y2 y3 y4 y5 = some R → Fr_X0_gather y0 R) (h : fc_X0_gather_L71 F k42 n σ x2 x3 x5 x6 x7 vx8 x9 = some R) : Fr_X0_gather σ R := by
  induction n generalizing σ x2 x3 x5 x6 x7 vx8 x9 with
  | zero => cases (show (none : Option _) = _ from h)
  | succ n ih => exact fr_X0_gather_L71_c hk42 (fun h9 => ih h9) (show fc_X0_gather_L71_c F k42 (fc_X0_gather_L71 F k42 n) σ x2 x3 x5 x6 x7 vx8 x9 = some R from h)
theorem fr_X0_gather_L42_c {F : Nat} {k42 : CSt → Int32 → Int32 → Int32 → Int32 → Int32 → Option (CSt)} {σ : CSt} {x2 : Int32} {x3 : Int32} {x5 : Int32} {x6 : Int32} {x7 : Int32} {R : CSt} (hk42 : ∀ {y0 : CSt} {y1 : Int32} {y2 : Int32} {y3 : Int32} {y4 : Int32} {y5 : Int32}, k42 y0 y1 y2 y3 y4 y5 = some R → Fr_X0_gather y0 R) (h : fc_X0_gather_L42_c F k42 σ x2 x3 x5 x6 x7 = some R) : Fr_X0_gather σ R := by
  unfold fc_X0_gather_L42_c at h
  rcases br_any h with h | h
  · obtain rfl := Option.some.inj h
    exact Fr_X0_gather.rf
  · obtain ⟨-, h⟩ := gd_some h
    rcases mo_any h with h | ⟨v57, h⟩
    · exact Fr_X0_gather.rf.tr (fr_X0_gather_L158 hk42 h)
    · exact Fr_X0_gather.rf.tr (fr_X0_gather_L71 hk42 h)
theorem fr_X0_gather_L42 {F : Nat} {n : Nat} {σ : CSt} {x2 : Int32} {x3 : Int32} {x5 : Int32} {x6 : Int32} {x7 : Int32} {R : CSt}  (h : fc_X0_gather_L42 F n σ x2 x3 x5 x6 x7 = some R) : Fr_X0_gather σ R := by
  induction n generalizing σ x2 x3 x5 x6 x7 with
  | zero => cases (show (none : Option _) = _ from h)
  | succ n ih => exact fr_X0_gather_L42_c  (fun h9 => ih h9) (show fc_X0_gather_L42_c F (fc_X0_gather_L42 F n) σ x2 x3 x5 x6 x7 = some R from h)
theorem fr_X0_gather {F : Nat} {σ : CSt} {x2 : Int32} {x3 : Int32} {R : CSt}  (h : fc_X0_gather F σ x2 x3 = some R) : Fr_X0_gather σ R := by
  unfold fc_X0_gather at h
  replace h := lt_e h
  replace h := lt_e h
  obtain ⟨r12, hc1, h⟩ := bd_some h
  rcases mo_any h with h | ⟨v12, h⟩
  · obtain rfl := Option.some.inj h
    exact ((Fr_X0_gather.rf.tr (Fr_X0_gather.s_bs _ _)).tr (Fr_X0_gather.s_bo _ _))
  · obtain ⟨r26, hc2, h⟩ := bd_some h
    obtain ⟨r34, hc3, h⟩ := bd_some h
    exact ((Fr_X0_gather.rf.tr (Fr_X0_gather.s_bs _ _)).tr (Fr_X0_gather.s_bo _ _)).tr (fr_X0_gather_L42  h)
def Fr_X0_assignLanes (σ σ' : CSt) : Prop := σ'.1 = σ.1 ∧ σ'.2.1 = σ.2.1 ∧ σ'.2.2.1 = σ.2.2.1 ∧ σ'.2.2.2.1 = σ.2.2.2.1 ∧ σ'.2.2.2.2.1 = σ.2.2.2.2.1 ∧ σ'.2.2.2.2.2.1 = σ.2.2.2.2.2.1 ∧ cs_bs σ' = cs_bs σ ∧ cs_bo σ' = cs_bo σ ∧ cs_bst σ' = cs_bst σ ∧ cs_ben σ' = cs_ben σ ∧ cs_bpu σ' = cs_bpu σ ∧ cs_bre σ' = cs_bre σ ∧ σ'.2.2.2.2.2.2.2.1 = σ.2.2.2.2.2.2.2.1 ∧ σ'.2.2.2.2.2.2.2.2.1 = σ.2.2.2.2.2.2.2.2.1 ∧ σ'.2.2.2.2.2.2.2.2.2 = σ.2.2.2.2.2.2.2.2.2
theorem Fr_X0_assignLanes.rf {σ : CSt} : Fr_X0_assignLanes σ σ := ⟨rfl, rfl, rfl, rfl, rfl, rfl, rfl, rfl, rfl, rfl, rfl, rfl, rfl, rfl, rfl⟩
theorem Fr_X0_assignLanes.tr {a b c : CSt} (h : Fr_X0_assignLanes a b) (h' : Fr_X0_assignLanes b c) : Fr_X0_assignLanes a c := ⟨h'.1.trans h.1, h'.2.1.trans h.2.1, h'.2.2.1.trans h.2.2.1, h'.2.2.2.1.trans h.2.2.2.1, h'.2.2.2.2.1.trans h.2.2.2.2.1, h'.2.2.2.2.2.1.trans h.2.2.2.2.2.1, h'.2.2.2.2.2.2.1.trans h.2.2.2.2.2.2.1, h'.2.2.2.2.2.2.2.1.trans h.2.2.2.2.2.2.2.1, h'.2.2.2.2.2.2.2.2.1.trans h.2.2.2.2.2.2.2.2.1, h'.2.2.2.2.2.2.2.2.2.1.trans h.2.2.2.2.2.2.2.2.2.1, h'.2.2.2.2.2.2.2.2.2.2.1.trans h.2.2.2.2.2.2.2.2.2.2.1, h'.2.2.2.2.2.2.2.2.2.2.2.1.trans h.2.2.2.2.2.2.2.2.2.2.2.1, h'.2.2.2.2.2.2.2.2.2.2.2.2.1.trans h.2.2.2.2.2.2.2.2.2.2.2.2.1, h'.2.2.2.2.2.2.2.2.2.2.2.2.2.1.trans h.2.2.2.2.2.2.2.2.2.2.2.2.2.1, h'.2.2.2.2.2.2.2.2.2.2.2.2.2.2.trans h.2.2.2.2.2.2.2.2.2.2.2.2.2.2⟩
theorem Fr_X0_assignLanes.u_bla (σ : CSt) (i x : Int32) : Fr_X0_assignLanes σ (sc_bla σ i x) := ⟨rfl, rfl, rfl, rfl, rfl, rfl, rfl, rfl, rfl, rfl, rfl, rfl, rfl, rfl, rfl⟩
theorem fr_X0_assignLanes_L60 {F : Nat} {k2 : CSt → Int32 → Option (CSt)} {k20 : CSt → Int32 → Int32 → Int32 → Int32 → Option (CSt)} {σ : CSt} {x1 : Int32} {x2 : Int32} {x3 : Int32} {x4 : Int32} {R : CSt} (hk2 : ∀ {y0 : CSt} {y1 : Int32}, k2 y0 y1 = some R → Fr_X0_assignLanes y0 R) (hk20 : ∀ {y0 : CSt} {y1 : Int32} {y2 : Int32} {y3 : Int32} {y4 : Int32}, k20 y0 y1 y2 y3 y4 = some R → Fr_X0_assignLanes y0 R) (h : fc_X0_assignLanes_L60 F k2 k20 σ x1 x2 x3 x4 = some R) : Fr_X0_assignLanes σ R := by
  unfold fc_X0_assignLanes_L60 at h
  replace h := lt_e h
  exact Fr_X0_assignLanes.rf.tr (hk20 h)
theorem fr_X0_assignLanes_L20_c {F : Nat} {k2 : CSt → Int32 → Option (CSt)} {k20 : CSt → Int32 → Int32 → Int32 → Int32 → Option (CSt)} {σ : CSt} {x1 : Int32} {x2 : Int32} {x3 : Int32} {x4 : Int32} {R : CSt} (hk2 : ∀ {y0 : CSt} {y1 : Int32}, k2 y0 y1 = some R → Fr_X0_assignLanes y0 R) (hk20 : ∀ {y0 : CSt} {y1 : Int32} {y2 : Int32} {y3 : Int32} {y4 : Int32}, k20 y0 y1 y2 y3 y4 = some R → Fr_X0_assignLanes y0 R) (h : fc_X0_assignLanes_L20_c F k2 k20 σ x1 x2 x3 x4 = some R) : Fr_X0_assignLanes σ R := by
  unfold fc_X0_assignLanes_L20_c at h
  rcases br_any h with h | h
  · obtain ⟨-, h⟩ := gd_some h
    replace h := lt_e h
    replace h := lt_e h
    exact (Fr_X0_assignLanes.rf.tr (Fr_X0_assignLanes.u_bla _ _ _)).tr (hk2 h)
  · obtain ⟨-, h⟩ := gd_some h
    rcases br_any h with h | h
    · exact Fr_X0_assignLanes.rf.tr (fr_X0_assignLanes_L60 hk2 hk20 h)
    · obtain ⟨r44, hc1, h⟩ := bd_some h
      rcases br_any h with h | h
      · exact Fr_X0_assignLanes.rf.tr (fr_X0_assignLanes_L60 hk2 hk20 h)
      · obtain ⟨-, h⟩ := gd_some h
        replace h := lt_e h
        exact Fr_X0_assignLanes.rf.tr (fr_X0_assignLanes_L60 hk2 hk20 h)
theorem fr_X0_assignLanes_L20 {F : Nat} {k2 : CSt → Int32 → Option (CSt)} {n : Nat} {σ : CSt} {x1 : Int32} {x2 : Int32} {x3 : Int32} {x4 : Int32} {R : CSt} (hk2 : ∀ {y0 : CSt} {y1 : Int32}, k2 y0 y1 = some R → Fr_X0_assignLanes y0 R) (h : fc_X0_assignLanes_L20 F k2 n σ x1 x2 x3 x4 = some R) : Fr_X0_assignLanes σ R := by
  induction n generalizing σ x1 x2 x3 x4 with
  | zero => cases (show (none : Option _) = _ from h)
  | succ n ih => exact fr_X0_assignLanes_L20_c hk2 (fun h9 => ih h9) (show fc_X0_assignLanes_L20_c F k2 (fc_X0_assignLanes_L20 F k2 n) σ x1 x2 x3 x4 = some R from h)
theorem fr_X0_assignLanes_L2_c {F : Nat} {k2 : CSt → Int32 → Option (CSt)} {σ : CSt} {x1 : Int32} {R : CSt} (hk2 : ∀ {y0 : CSt} {y1 : Int32}, k2 y0 y1 = some R → Fr_X0_assignLanes y0 R) (h : fc_X0_assignLanes_L2_c F k2 σ x1 = some R) : Fr_X0_assignLanes σ R := by
  unfold fc_X0_assignLanes_L2_c at h
  rcases br_any h with h | h
  · obtain rfl := Option.some.inj h
    exact Fr_X0_assignLanes.rf
  · obtain ⟨r11, hc1, h⟩ := bd_some h
    exact Fr_X0_assignLanes.rf.tr (fr_X0_assignLanes_L20 hk2 h)
theorem fr_X0_assignLanes_L2 {F : Nat} {n : Nat} {σ : CSt} {x1 : Int32} {R : CSt}  (h : fc_X0_assignLanes_L2 F n σ x1 = some R) : Fr_X0_assignLanes σ R := by
  induction n generalizing σ x1 with
  | zero => cases (show (none : Option _) = _ from h)
  | succ n ih => exact fr_X0_assignLanes_L2_c  (fun h9 => ih h9) (show fc_X0_assignLanes_L2_c F (fc_X0_assignLanes_L2 F n) σ x1 = some R from h)
theorem fr_X0_assignLanes {F : Nat} {σ : CSt} {R : CSt}  (h : fc_X0_assignLanes F σ = some R) : Fr_X0_assignLanes σ R := by
  unfold fc_X0_assignLanes at h
  exact Fr_X0_assignLanes.rf.tr (fr_X0_assignLanes_L2  h)
def Fr_X0_lanesOfOwn (σ σ' : CSt) : Prop := σ'.1 = σ.1 ∧ σ'.2.1 = σ.2.1 ∧ σ'.2.2.1 = σ.2.2.1 ∧ σ'.2.2.2.1 = σ.2.2.2.1 ∧ σ'.2.2.2.2.1 = σ.2.2.2.2.1 ∧ σ'.2.2.2.2.2.1 = σ.2.2.2.2.2.1 ∧ cs_bs σ' = cs_bs σ ∧ cs_bo σ' = cs_bo σ ∧ cs_bst σ' = cs_bst σ ∧ cs_ben σ' = cs_ben σ ∧ cs_bpu σ' = cs_bpu σ ∧ cs_bla σ' = cs_bla σ ∧ σ'.2.2.2.2.2.2.2.1 = σ.2.2.2.2.2.2.2.1 ∧ σ'.2.2.2.2.2.2.2.2.1 = σ.2.2.2.2.2.2.2.2.1 ∧ σ'.2.2.2.2.2.2.2.2.2 = σ.2.2.2.2.2.2.2.2.2
theorem Fr_X0_lanesOfOwn.rf {σ : CSt} : Fr_X0_lanesOfOwn σ σ := ⟨rfl, rfl, rfl, rfl, rfl, rfl, rfl, rfl, rfl, rfl, rfl, rfl, rfl, rfl, rfl⟩
theorem Fr_X0_lanesOfOwn.tr {a b c : CSt} (h : Fr_X0_lanesOfOwn a b) (h' : Fr_X0_lanesOfOwn b c) : Fr_X0_lanesOfOwn a c := ⟨h'.1.trans h.1, h'.2.1.trans h.2.1, h'.2.2.1.trans h.2.2.1, h'.2.2.2.1.trans h.2.2.2.1, h'.2.2.2.2.1.trans h.2.2.2.2.1, h'.2.2.2.2.2.1.trans h.2.2.2.2.2.1, h'.2.2.2.2.2.2.1.trans h.2.2.2.2.2.2.1, h'.2.2.2.2.2.2.2.1.trans h.2.2.2.2.2.2.2.1, h'.2.2.2.2.2.2.2.2.1.trans h.2.2.2.2.2.2.2.2.1, h'.2.2.2.2.2.2.2.2.2.1.trans h.2.2.2.2.2.2.2.2.2.1, h'.2.2.2.2.2.2.2.2.2.2.1.trans h.2.2.2.2.2.2.2.2.2.2.1, h'.2.2.2.2.2.2.2.2.2.2.2.1.trans h.2.2.2.2.2.2.2.2.2.2.2.1, h'.2.2.2.2.2.2.2.2.2.2.2.2.1.trans h.2.2.2.2.2.2.2.2.2.2.2.2.1, h'.2.2.2.2.2.2.2.2.2.2.2.2.2.1.trans h.2.2.2.2.2.2.2.2.2.2.2.2.2.1, h'.2.2.2.2.2.2.2.2.2.2.2.2.2.2.trans h.2.2.2.2.2.2.2.2.2.2.2.2.2.2⟩
theorem Fr_X0_lanesOfOwn.u_bre (σ : CSt) (i x : Int32) : Fr_X0_lanesOfOwn σ (sc_bre σ i x) := ⟨rfl, rfl, rfl, rfl, rfl, rfl, rfl, rfl, rfl, rfl, rfl, rfl, rfl, rfl, rfl⟩
theorem fr_X0_lanesOfOwn_L108 {F : Nat} {k80 : CSt → Int32 → Int32 → Option (Int32 × CSt)} {σ : CSt} {x2 : Int32} {x3 : Int32} {r : Int32} {R : CSt} (hk80 : ∀ {y0 : CSt} {y1 : Int32} {y2 : Int32}, k80 y0 y1 y2 = some (r, R) → Fr_X0_lanesOfOwn y0 R) (h : fc_X0_lanesOfOwn_L108 F k80 σ x2 x3 = some (r, R)) : Fr_X0_lanesOfOwn σ R := by
  unfold fc_X0_lanesOfOwn_L108 at h
  replace h := lt_e h
  exact Fr_X0_lanesOfOwn.rf.tr (hk80 h)
theorem fr_X0_lanesOfOwn_L80_c {F : Nat} {k80 : CSt → Int32 → Int32 → Option (Int32 × CSt)} {σ : CSt} {x2 : Int32} {x3 : Int32} {r : Int32} {R : CSt} (hk80 : ∀ {y0 : CSt} {y1 : Int32} {y2 : Int32}, k80 y0 y1 y2 = some (r, R) → Fr_X0_lanesOfOwn y0 R) (h : fc_X0_lanesOfOwn_L80_c F k80 σ x2 x3 = some (r, R)) : Fr_X0_lanesOfOwn σ R := by
  unfold fc_X0_lanesOfOwn_L80_c at h
  rcases br_any h with h | h
  · obtain ⟨-, rfl⟩ := Prod.mk.inj (Option.some.inj h)
    exact Fr_X0_lanesOfOwn.rf
  · obtain ⟨-, h⟩ := gd_some h
    rcases br_any h with h | h
    · exact Fr_X0_lanesOfOwn.rf.tr (fr_X0_lanesOfOwn_L108 hk80 h)
    · obtain ⟨-, h⟩ := gd_some h
      replace h := lt_e h
      exact Fr_X0_lanesOfOwn.rf.tr (fr_X0_lanesOfOwn_L108 hk80 h)
theorem fr_X0_lanesOfOwn_L80 {F : Nat} {n : Nat} {σ : CSt} {x2 : Int32} {x3 : Int32} {r : Int32} {R : CSt}  (h : fc_X0_lanesOfOwn_L80 F n σ x2 x3 = some (r, R)) : Fr_X0_lanesOfOwn σ R := by
  induction n generalizing σ x2 x3 with
  | zero => cases (show (none : Option _) = _ from h)
  | succ n ih => exact fr_X0_lanesOfOwn_L80_c  (fun h9 => ih h9) (show fc_X0_lanesOfOwn_L80_c F (fc_X0_lanesOfOwn_L80 F n) σ x2 x3 = some (r, R) from h)
theorem fr_X0_lanesOfOwn_L76 {F : Nat} {σ : CSt} {r : Int32} {R : CSt}  (h : fc_X0_lanesOfOwn_L76 F σ = some (r, R)) : Fr_X0_lanesOfOwn σ R := by
  unfold fc_X0_lanesOfOwn_L76 at h
  exact Fr_X0_lanesOfOwn.rf.tr (fr_X0_lanesOfOwn_L80  h)
theorem fr_X0_lanesOfOwn_L64 {F : Nat} {k14 : CSt → Int32 → Int32 → Option (Int32 × CSt)} {k30 : CSt → Int32 → Int32 → Int32 → Option (Int32 × CSt)} {σ : CSt} {x1 : Int32} {x2 : Int32} {x3 : Int32} {r : Int32} {R : CSt} (hk14 : ∀ {y0 : CSt} {y1 : Int32} {y2 : Int32}, k14 y0 y1 y2 = some (r, R) → Fr_X0_lanesOfOwn y0 R) (hk30 : ∀ {y0 : CSt} {y1 : Int32} {y2 : Int32} {y3 : Int32}, k30 y0 y1 y2 y3 = some (r, R) → Fr_X0_lanesOfOwn y0 R) (h : fc_X0_lanesOfOwn_L64 F k14 k30 σ x1 x2 x3 = some (r, R)) : Fr_X0_lanesOfOwn σ R := by
  unfold fc_X0_lanesOfOwn_L64 at h
  replace h := lt_e h
  exact Fr_X0_lanesOfOwn.rf.tr (hk30 h)
theorem fr_X0_lanesOfOwn_L30_c {F : Nat} {k14 : CSt → Int32 → Int32 → Option (Int32 × CSt)} {k30 : CSt → Int32 → Int32 → Int32 → Option (Int32 × CSt)} {σ : CSt} {x1 : Int32} {x2 : Int32} {x3 : Int32} {r : Int32} {R : CSt} (hk14 : ∀ {y0 : CSt} {y1 : Int32} {y2 : Int32}, k14 y0 y1 y2 = some (r, R) → Fr_X0_lanesOfOwn y0 R) (hk30 : ∀ {y0 : CSt} {y1 : Int32} {y2 : Int32} {y3 : Int32}, k30 y0 y1 y2 y3 = some (r, R) → Fr_X0_lanesOfOwn y0 R) (h : fc_X0_lanesOfOwn_L30_c F k14 k30 σ x1 x2 x3 = some (r, R)) : Fr_X0_lanesOfOwn σ R := by
  unfold fc_X0_lanesOfOwn_L30_c at h
  rcases br_any h with h | h
  · replace h := lt_e h
    exact Fr_X0_lanesOfOwn.rf.tr (hk14 h)
  · obtain ⟨-, h⟩ := gd_some h
    rcases br_any h with h | h
    · obtain ⟨r49, hc1, h⟩ := bd_some h
      rcases br_any h with h | h
      · exact Fr_X0_lanesOfOwn.rf.tr (fr_X0_lanesOfOwn_L64 hk14 hk30 h)
      · obtain ⟨-, h⟩ := gd_some h
        replace h := lt_e h
        exact (Fr_X0_lanesOfOwn.rf.tr (Fr_X0_lanesOfOwn.u_bre _ _ _)).tr (fr_X0_lanesOfOwn_L64 hk14 hk30 h)
    · exact Fr_X0_lanesOfOwn.rf.tr (fr_X0_lanesOfOwn_L64 hk14 hk30 h)
theorem fr_X0_lanesOfOwn_L30 {F : Nat} {k14 : CSt → Int32 → Int32 → Option (Int32 × CSt)} {n : Nat} {σ : CSt} {x1 : Int32} {x2 : Int32} {x3 : Int32} {r : Int32} {R : CSt} (hk14 : ∀ {y0 : CSt} {y1 : Int32} {y2 : Int32}, k14 y0 y1 y2 = some (r, R) → Fr_X0_lanesOfOwn y0 R) (h : fc_X0_lanesOfOwn_L30 F k14 n σ x1 x2 x3 = some (r, R)) : Fr_X0_lanesOfOwn σ R := by
  induction n generalizing σ x1 x2 x3 with
  | zero => cases (show (none : Option _) = _ from h)
  | succ n ih => exact fr_X0_lanesOfOwn_L30_c hk14 (fun h9 => ih h9) (show fc_X0_lanesOfOwn_L30_c F k14 (fc_X0_lanesOfOwn_L30 F k14 n) σ x1 x2 x3 = some (r, R) from h)
theorem fr_X0_lanesOfOwn_L14_c {F : Nat} {k14 : CSt → Int32 → Int32 → Option (Int32 × CSt)} {σ : CSt} {x1 : Int32} {x2 : Int32} {r : Int32} {R : CSt} (hk14 : ∀ {y0 : CSt} {y1 : Int32} {y2 : Int32}, k14 y0 y1 y2 = some (r, R) → Fr_X0_lanesOfOwn y0 R) (h : fc_X0_lanesOfOwn_L14_c F k14 σ x1 x2 = some (r, R)) : Fr_X0_lanesOfOwn σ R := by
  unfold fc_X0_lanesOfOwn_L14_c at h
  rcases br_any h with h | h
  · exact Fr_X0_lanesOfOwn.rf.tr (fr_X0_lanesOfOwn_L76  h)
  · rcases br_any h with h | h
    · exact Fr_X0_lanesOfOwn.rf.tr (fr_X0_lanesOfOwn_L76  h)
    · exact Fr_X0_lanesOfOwn.rf.tr (fr_X0_lanesOfOwn_L30 hk14 h)
theorem fr_X0_lanesOfOwn_L14 {F : Nat} {n : Nat} {σ : CSt} {x1 : Int32} {x2 : Int32} {r : Int32} {R : CSt}  (h : fc_X0_lanesOfOwn_L14 F n σ x1 x2 = some (r, R)) : Fr_X0_lanesOfOwn σ R := by
  induction n generalizing σ x1 x2 with
  | zero => cases (show (none : Option _) = _ from h)
  | succ n ih => exact fr_X0_lanesOfOwn_L14_c  (fun h9 => ih h9) (show fc_X0_lanesOfOwn_L14_c F (fc_X0_lanesOfOwn_L14 F n) σ x1 x2 = some (r, R) from h)
theorem fr_X0_lanesOfOwn {F : Nat} {σ : CSt} {r : Int32} {R : CSt}  (h : fc_X0_lanesOfOwn F σ = some (r, R)) : Fr_X0_lanesOfOwn σ R := by
  unfold fc_X0_lanesOfOwn at h
  obtain ⟨-, h⟩ := gd_some h
  replace h := lt_e h
  exact (Fr_X0_lanesOfOwn.rf.tr (Fr_X0_lanesOfOwn.u_bre _ _ _)).tr (fr_X0_lanesOfOwn_L14  h)
def Fr_X9_lane (σ σ' : CSt) : Prop := σ'.1 = σ.1 ∧ σ'.2.1 = σ.2.1 ∧ σ'.2.2.1 = σ.2.2.1 ∧ σ'.2.2.2.1 = σ.2.2.2.1 ∧ σ'.2.2.2.2.1 = σ.2.2.2.2.1 ∧ σ'.2.2.2.2.2.1 = σ.2.2.2.2.2.1 ∧ σ'.2.2.2.2.2.2.2.1 = σ.2.2.2.2.2.2.2.1 ∧ σ'.2.2.2.2.2.2.2.2.1 = σ.2.2.2.2.2.2.2.2.1 ∧ σ'.2.2.2.2.2.2.2.2.2 = σ.2.2.2.2.2.2.2.2.2
theorem Fr_X9_lane.rf {σ : CSt} : Fr_X9_lane σ σ := ⟨rfl, rfl, rfl, rfl, rfl, rfl, rfl, rfl, rfl⟩
theorem Fr_X9_lane.tr {a b c : CSt} (h : Fr_X9_lane a b) (h' : Fr_X9_lane b c) : Fr_X9_lane a c := ⟨h'.1.trans h.1, h'.2.1.trans h.2.1, h'.2.2.1.trans h.2.2.1, h'.2.2.2.1.trans h.2.2.2.1, h'.2.2.2.2.1.trans h.2.2.2.2.1, h'.2.2.2.2.2.1.trans h.2.2.2.2.2.1, h'.2.2.2.2.2.2.1.trans h.2.2.2.2.2.2.1, h'.2.2.2.2.2.2.2.1.trans h.2.2.2.2.2.2.2.1, h'.2.2.2.2.2.2.2.2.trans h.2.2.2.2.2.2.2.2⟩
theorem Fr_X9_lane.c_X0_assignLanes {σ σ' : CSt} (h : Fr_X0_assignLanes σ σ') : Fr_X9_lane σ σ' := ⟨h.1, h.2.1, h.2.2.1, h.2.2.2.1, h.2.2.2.2.1, h.2.2.2.2.2.1, h.2.2.2.2.2.2.2.2.2.2.2.2.1, h.2.2.2.2.2.2.2.2.2.2.2.2.2.1, h.2.2.2.2.2.2.2.2.2.2.2.2.2.2⟩
theorem Fr_X9_lane.c_X0_gather {σ σ' : CSt} (h : Fr_X0_gather σ σ') : Fr_X9_lane σ σ' := ⟨h.1, h.2.1, h.2.2.1, h.2.2.2.1, h.2.2.2.2.1, h.2.2.2.2.2.1, h.2.2.2.2.2.2.1, h.2.2.2.2.2.2.2.1, h.2.2.2.2.2.2.2.2⟩
theorem Fr_X9_lane.c_X0_lanesOfOwn {σ σ' : CSt} (h : Fr_X0_lanesOfOwn σ σ') : Fr_X9_lane σ σ' := ⟨h.1, h.2.1, h.2.2.1, h.2.2.2.1, h.2.2.2.2.1, h.2.2.2.2.2.1, h.2.2.2.2.2.2.2.2.2.2.2.2.1, h.2.2.2.2.2.2.2.2.2.2.2.2.2.1, h.2.2.2.2.2.2.2.2.2.2.2.2.2.2⟩
theorem fr_X9_lane_L24 {F : Nat} {σ : CSt} {r : Int32} {R : CSt}  (h : fc_X9_lane_L24 F σ = some (r, R)) : Fr_X9_lane σ R := by
  unfold fc_X9_lane_L24 at h
  obtain ⟨-, rfl⟩ := Prod.mk.inj (Option.some.inj h)
  exact Fr_X9_lane.rf
theorem fr_X9_lane {F : Nat} {σ : CSt} {x1 : Int32} {x2 : Int32} {x3 : Int32} {r : Int32} {R : CSt}  (h : fc_X9_lane F σ x1 x2 x3 = some (r, R)) : Fr_X9_lane σ R := by
  unfold fc_X9_lane at h
  obtain ⟨r5, hc1, h⟩ := bd_some h
  rcases mo_any h with h | ⟨v5, h⟩
  · exact Fr_X9_lane.rf.tr (fr_X9_lane_L24  h)
  · obtain ⟨r18, hc2, h⟩ := bd_some h
    rcases br_any h with h | h
    · exact Fr_X9_lane.rf.tr (fr_X9_lane_L24  h)
    · obtain ⟨r31, hc3, h⟩ := bd_some h
      rcases br_any h with h | h
      · obtain ⟨-, rfl⟩ := Prod.mk.inj (Option.some.inj h)
        exact Fr_X9_lane.rf
      · rcases br_any h with h | h
        · obtain ⟨r48, hc4, h⟩ := bd_some h
          obtain ⟨-, rfl⟩ := Prod.mk.inj (Option.some.inj h)
          exact Fr_X9_lane.rf
        · obtain ⟨σ62, hc5, h⟩ := bd_some h
          obtain ⟨σ69, hc6, h⟩ := bd_some h
          obtain ⟨r76, hc7, h⟩ := bd_some h
          obtain ⟨r85, σ85, hc8, h⟩ := bd2_some h
          rcases br_any h with h | h
          · obtain ⟨-, rfl⟩ := Prod.mk.inj (Option.some.inj h)
            exact (((Fr_X9_lane.rf.tr (Fr_X9_lane.c_X0_gather (fr_X0_gather hc5))).tr (Fr_X9_lane.c_X0_assignLanes (fr_X0_assignLanes hc6))).tr (Fr_X9_lane.c_X0_lanesOfOwn (fr_X0_lanesOfOwn hc8)))
          · rcases br_any h with h | h
            · obtain ⟨-, rfl⟩ := Prod.mk.inj (Option.some.inj h)
              exact (((Fr_X9_lane.rf.tr (Fr_X9_lane.c_X0_gather (fr_X0_gather hc5))).tr (Fr_X9_lane.c_X0_assignLanes (fr_X0_assignLanes hc6))).tr (Fr_X9_lane.c_X0_lanesOfOwn (fr_X0_lanesOfOwn hc8)))
            · obtain ⟨r127, hc9, h⟩ := bd_some h
              obtain ⟨-, rfl⟩ := Prod.mk.inj (Option.some.inj h)
              exact (((Fr_X9_lane.rf.tr (Fr_X9_lane.c_X0_gather (fr_X0_gather hc5))).tr (Fr_X9_lane.c_X0_assignLanes (fr_X0_assignLanes hc6))).tr (Fr_X9_lane.c_X0_lanesOfOwn (fr_X0_lanesOfOwn hc8)))
def Fr_X2_append (σ σ' : CSt) : Prop := σ'.1 = σ.1 ∧ σ'.2.1 = σ.2.1 ∧ σ'.2.2.1 = σ.2.2.1 ∧ σ'.2.2.2.1 = σ.2.2.2.1 ∧ σ'.2.2.2.2.1 = σ.2.2.2.2.1 ∧ σ'.2.2.2.2.2.1 = σ.2.2.2.2.2.1 ∧ σ'.2.2.2.2.2.2.1 = σ.2.2.2.2.2.2.1 ∧ cs_tw σ' = cs_tw σ ∧ cs_tn σ' = cs_tn σ ∧ cs_tc σ' = cs_tc σ ∧ cs_te σ' = cs_te σ ∧ cs_tf σ' = cs_tf σ ∧ σ'.2.2.2.2.2.2.2.2.1 = σ.2.2.2.2.2.2.2.2.1 ∧ σ'.2.2.2.2.2.2.2.2.2 = σ.2.2.2.2.2.2.2.2.2
theorem Fr_X2_append.rf {σ : CSt} : Fr_X2_append σ σ := ⟨rfl, rfl, rfl, rfl, rfl, rfl, rfl, rfl, rfl, rfl, rfl, rfl, rfl, rfl⟩
theorem Fr_X2_append.tr {a b c : CSt} (h : Fr_X2_append a b) (h' : Fr_X2_append b c) : Fr_X2_append a c := ⟨h'.1.trans h.1, h'.2.1.trans h.2.1, h'.2.2.1.trans h.2.2.1, h'.2.2.2.1.trans h.2.2.2.1, h'.2.2.2.2.1.trans h.2.2.2.2.1, h'.2.2.2.2.2.1.trans h.2.2.2.2.2.1, h'.2.2.2.2.2.2.1.trans h.2.2.2.2.2.2.1, h'.2.2.2.2.2.2.2.1.trans h.2.2.2.2.2.2.2.1, h'.2.2.2.2.2.2.2.2.1.trans h.2.2.2.2.2.2.2.2.1, h'.2.2.2.2.2.2.2.2.2.1.trans h.2.2.2.2.2.2.2.2.2.1, h'.2.2.2.2.2.2.2.2.2.2.1.trans h.2.2.2.2.2.2.2.2.2.2.1, h'.2.2.2.2.2.2.2.2.2.2.2.1.trans h.2.2.2.2.2.2.2.2.2.2.2.1, h'.2.2.2.2.2.2.2.2.2.2.2.2.1.trans h.2.2.2.2.2.2.2.2.2.2.2.2.1, h'.2.2.2.2.2.2.2.2.2.2.2.2.2.trans h.2.2.2.2.2.2.2.2.2.2.2.2.2⟩
theorem Fr_X2_append.s_tl (σ : CSt) (v : Int32) : Fr_X2_append σ (cs_tl_s σ v) := ⟨rfl, rfl, rfl, rfl, rfl, rfl, rfl, rfl, rfl, rfl, rfl, rfl, rfl, rfl⟩
theorem Fr_X2_append.u_tb (σ : CSt) (i x : Int32) : Fr_X2_append σ (sc_tb σ i x) := ⟨rfl, rfl, rfl, rfl, rfl, rfl, rfl, rfl, rfl, rfl, rfl, rfl, rfl, rfl⟩
theorem fr_X2_append_L29 {F : Nat} {σ : CSt} {R : CSt}  (h : fc_X2_append_L29 F σ = some R) : Fr_X2_append σ R := by
  unfold fc_X2_append_L29 at h
  obtain rfl := Option.some.inj h
  exact Fr_X2_append.rf
theorem fr_X2_append {F : Nat} {σ : CSt} {x1 : Int32} {R : CSt}  (h : fc_X2_append F σ x1 = some R) : Fr_X2_append σ R := by
  unfold fc_X2_append at h
  rcases br_any h with h | h
  · exact Fr_X2_append.rf.tr (fr_X2_append_L29  h)
  · obtain ⟨-, h⟩ := gd_some h
    replace h := lt_e h
    replace h := lt_e h
    exact ((Fr_X2_append.rf.tr (Fr_X2_append.u_tb _ _ _)).tr (Fr_X2_append.s_tl _ _)).tr (fr_X2_append_L29  h)
def Fr_X9_type (σ σ' : CSt) : Prop := σ'.1 = σ.1 ∧ σ'.2.1 = σ.2.1 ∧ σ'.2.2.1 = σ.2.2.1 ∧ σ'.2.2.2.1 = σ.2.2.2.1 ∧ σ'.2.2.2.2.1 = σ.2.2.2.2.1 ∧ σ'.2.2.2.2.2.1 = σ.2.2.2.2.2.1 ∧ σ'.2.2.2.2.2.2.1 = σ.2.2.2.2.2.2.1 ∧ cs_tw σ' = cs_tw σ ∧ cs_tn σ' = cs_tn σ ∧ cs_tc σ' = cs_tc σ ∧ cs_te σ' = cs_te σ ∧ cs_tf σ' = cs_tf σ ∧ σ'.2.2.2.2.2.2.2.2.1 = σ.2.2.2.2.2.2.2.2.1 ∧ σ'.2.2.2.2.2.2.2.2.2 = σ.2.2.2.2.2.2.2.2.2
theorem Fr_X9_type.rf {σ : CSt} : Fr_X9_type σ σ := ⟨rfl, rfl, rfl, rfl, rfl, rfl, rfl, rfl, rfl, rfl, rfl, rfl, rfl, rfl⟩
theorem Fr_X9_type.tr {a b c : CSt} (h : Fr_X9_type a b) (h' : Fr_X9_type b c) : Fr_X9_type a c := ⟨h'.1.trans h.1, h'.2.1.trans h.2.1, h'.2.2.1.trans h.2.2.1, h'.2.2.2.1.trans h.2.2.2.1, h'.2.2.2.2.1.trans h.2.2.2.2.1, h'.2.2.2.2.2.1.trans h.2.2.2.2.2.1, h'.2.2.2.2.2.2.1.trans h.2.2.2.2.2.2.1, h'.2.2.2.2.2.2.2.1.trans h.2.2.2.2.2.2.2.1, h'.2.2.2.2.2.2.2.2.1.trans h.2.2.2.2.2.2.2.2.1, h'.2.2.2.2.2.2.2.2.2.1.trans h.2.2.2.2.2.2.2.2.2.1, h'.2.2.2.2.2.2.2.2.2.2.1.trans h.2.2.2.2.2.2.2.2.2.2.1, h'.2.2.2.2.2.2.2.2.2.2.2.1.trans h.2.2.2.2.2.2.2.2.2.2.2.1, h'.2.2.2.2.2.2.2.2.2.2.2.2.1.trans h.2.2.2.2.2.2.2.2.2.2.2.2.1, h'.2.2.2.2.2.2.2.2.2.2.2.2.2.trans h.2.2.2.2.2.2.2.2.2.2.2.2.2⟩
theorem Fr_X9_type.c_X2_append {σ σ' : CSt} (h : Fr_X2_append σ σ') : Fr_X9_type σ σ' := ⟨h.1, h.2.1, h.2.2.1, h.2.2.2.1, h.2.2.2.2.1, h.2.2.2.2.2.1, h.2.2.2.2.2.2.1, h.2.2.2.2.2.2.2.1, h.2.2.2.2.2.2.2.2.1, h.2.2.2.2.2.2.2.2.2.1, h.2.2.2.2.2.2.2.2.2.2.1, h.2.2.2.2.2.2.2.2.2.2.2.1, h.2.2.2.2.2.2.2.2.2.2.2.2.1, h.2.2.2.2.2.2.2.2.2.2.2.2.2⟩
theorem fr_X9_type {F : Nat} {σ : CSt} {x1 : Int32} {r : Int32} {R : CSt}  (h : fc_X9_type F σ x1 = some (r, R)) : Fr_X9_type σ R := by
  unfold fc_X9_type at h
  obtain ⟨r5, hc1, h⟩ := bd_some h
  rcases br_any h with h | h
  · obtain ⟨-, rfl⟩ := Prod.mk.inj (Option.some.inj h)
    exact Fr_X9_type.rf
  · rcases br_any h with h | h
    · obtain ⟨σ36, hc2, h⟩ := bd_some h
      obtain ⟨-, rfl⟩ := Prod.mk.inj (Option.some.inj h)
      exact (Fr_X9_type.rf.tr (Fr_X9_type.c_X2_append (fr_X2_append hc2)))
    · obtain ⟨-, rfl⟩ := Prod.mk.inj (Option.some.inj h)
      exact Fr_X9_type.rf
def Fr_X9_clearText (σ σ' : CSt) : Prop := σ'.1 = σ.1 ∧ σ'.2.1 = σ.2.1 ∧ σ'.2.2.1 = σ.2.2.1 ∧ σ'.2.2.2.1 = σ.2.2.2.1 ∧ σ'.2.2.2.2.1 = σ.2.2.2.2.1 ∧ σ'.2.2.2.2.2.1 = σ.2.2.2.2.2.1 ∧ σ'.2.2.2.2.2.2.1 = σ.2.2.2.2.2.2.1 ∧ cs_tb σ' = cs_tb σ ∧ cs_tw σ' = cs_tw σ ∧ cs_tn σ' = cs_tn σ ∧ cs_tc σ' = cs_tc σ ∧ cs_te σ' = cs_te σ ∧ cs_tf σ' = cs_tf σ ∧ σ'.2.2.2.2.2.2.2.2.1 = σ.2.2.2.2.2.2.2.2.1 ∧ σ'.2.2.2.2.2.2.2.2.2 = σ.2.2.2.2.2.2.2.2.2
theorem Fr_X9_clearText.rf {σ : CSt} : Fr_X9_clearText σ σ := ⟨rfl, rfl, rfl, rfl, rfl, rfl, rfl, rfl, rfl, rfl, rfl, rfl, rfl, rfl, rfl⟩
theorem Fr_X9_clearText.tr {a b c : CSt} (h : Fr_X9_clearText a b) (h' : Fr_X9_clearText b c) : Fr_X9_clearText a c := ⟨h'.1.trans h.1, h'.2.1.trans h.2.1, h'.2.2.1.trans h.2.2.1, h'.2.2.2.1.trans h.2.2.2.1, h'.2.2.2.2.1.trans h.2.2.2.2.1, h'.2.2.2.2.2.1.trans h.2.2.2.2.2.1, h'.2.2.2.2.2.2.1.trans h.2.2.2.2.2.2.1, h'.2.2.2.2.2.2.2.1.trans h.2.2.2.2.2.2.2.1, h'.2.2.2.2.2.2.2.2.1.trans h.2.2.2.2.2.2.2.2.1, h'.2.2.2.2.2.2.2.2.2.1.trans h.2.2.2.2.2.2.2.2.2.1, h'.2.2.2.2.2.2.2.2.2.2.1.trans h.2.2.2.2.2.2.2.2.2.2.1, h'.2.2.2.2.2.2.2.2.2.2.2.1.trans h.2.2.2.2.2.2.2.2.2.2.2.1, h'.2.2.2.2.2.2.2.2.2.2.2.2.1.trans h.2.2.2.2.2.2.2.2.2.2.2.2.1, h'.2.2.2.2.2.2.2.2.2.2.2.2.2.1.trans h.2.2.2.2.2.2.2.2.2.2.2.2.2.1, h'.2.2.2.2.2.2.2.2.2.2.2.2.2.2.trans h.2.2.2.2.2.2.2.2.2.2.2.2.2.2⟩
theorem Fr_X9_clearText.s_tl (σ : CSt) (v : Int32) : Fr_X9_clearText σ (cs_tl_s σ v) := ⟨rfl, rfl, rfl, rfl, rfl, rfl, rfl, rfl, rfl, rfl, rfl, rfl, rfl, rfl, rfl⟩
theorem fr_X9_clearText {F : Nat} {σ : CSt} {r : Int32} {R : CSt}  (h : fc_X9_clearText F σ = some (r, R)) : Fr_X9_clearText σ R := by
  unfold fc_X9_clearText at h
  replace h := lt_e h
  replace h := lt_e h
  obtain ⟨-, rfl⟩ := Prod.mk.inj (Option.some.inj h)
  exact (Fr_X9_clearText.rf.tr (Fr_X9_clearText.s_tl _ _))
def Fr_X2_rewind (σ σ' : CSt) : Prop := σ'.1 = σ.1 ∧ σ'.2.1 = σ.2.1 ∧ σ'.2.2.1 = σ.2.2.1 ∧ σ'.2.2.2.1 = σ.2.2.2.1 ∧ σ'.2.2.2.2.1 = σ.2.2.2.2.1 ∧ σ'.2.2.2.2.2.1 = σ.2.2.2.2.2.1 ∧ σ'.2.2.2.2.2.2.1 = σ.2.2.2.2.2.2.1 ∧ cs_tl σ' = cs_tl σ ∧ cs_tb σ' = cs_tb σ ∧ cs_tw σ' = cs_tw σ ∧ cs_tn σ' = cs_tn σ ∧ σ'.2.2.2.2.2.2.2.2.1 = σ.2.2.2.2.2.2.2.2.1 ∧ σ'.2.2.2.2.2.2.2.2.2 = σ.2.2.2.2.2.2.2.2.2
theorem Fr_X2_rewind.rf {σ : CSt} : Fr_X2_rewind σ σ := ⟨rfl, rfl, rfl, rfl, rfl, rfl, rfl, rfl, rfl, rfl, rfl, rfl, rfl⟩
theorem Fr_X2_rewind.tr {a b c : CSt} (h : Fr_X2_rewind a b) (h' : Fr_X2_rewind b c) : Fr_X2_rewind a c := ⟨h'.1.trans h.1, h'.2.1.trans h.2.1, h'.2.2.1.trans h.2.2.1, h'.2.2.2.1.trans h.2.2.2.1, h'.2.2.2.2.1.trans h.2.2.2.2.1, h'.2.2.2.2.2.1.trans h.2.2.2.2.2.1, h'.2.2.2.2.2.2.1.trans h.2.2.2.2.2.2.1, h'.2.2.2.2.2.2.2.1.trans h.2.2.2.2.2.2.2.1, h'.2.2.2.2.2.2.2.2.1.trans h.2.2.2.2.2.2.2.2.1, h'.2.2.2.2.2.2.2.2.2.1.trans h.2.2.2.2.2.2.2.2.2.1, h'.2.2.2.2.2.2.2.2.2.2.1.trans h.2.2.2.2.2.2.2.2.2.2.1, h'.2.2.2.2.2.2.2.2.2.2.2.1.trans h.2.2.2.2.2.2.2.2.2.2.2.1, h'.2.2.2.2.2.2.2.2.2.2.2.2.trans h.2.2.2.2.2.2.2.2.2.2.2.2⟩
theorem Fr_X2_rewind.s_tc (σ : CSt) (v : Int32) : Fr_X2_rewind σ (cs_tc_s σ v) := ⟨rfl, rfl, rfl, rfl, rfl, rfl, rfl, rfl, rfl, rfl, rfl, rfl, rfl⟩
theorem Fr_X2_rewind.s_te (σ : CSt) (v : Int32) : Fr_X2_rewind σ (cs_te_s σ v) := ⟨rfl, rfl, rfl, rfl, rfl, rfl, rfl, rfl, rfl, rfl, rfl, rfl, rfl⟩
theorem Fr_X2_rewind.s_tf (σ : CSt) (v : Int32) : Fr_X2_rewind σ (cs_tf_s σ v) := ⟨rfl, rfl, rfl, rfl, rfl, rfl, rfl, rfl, rfl, rfl, rfl, rfl, rfl⟩
theorem fr_X2_rewind {F : Nat} {σ : CSt} {R : CSt}  (h : fc_X2_rewind F σ = some R) : Fr_X2_rewind σ R := by
  unfold fc_X2_rewind at h
  replace h := lt_e h
  replace h := lt_e h
  replace h := lt_e h
  obtain rfl := Option.some.inj h
  exact (((Fr_X2_rewind.rf.tr (Fr_X2_rewind.s_tc _ _)).tr (Fr_X2_rewind.s_te _ _)).tr (Fr_X2_rewind.s_tf _ _))
def Fr_X2_skipBlanks (σ σ' : CSt) : Prop := σ'.1 = σ.1 ∧ σ'.2.1 = σ.2.1 ∧ σ'.2.2.1 = σ.2.2.1 ∧ σ'.2.2.2.1 = σ.2.2.2.1 ∧ σ'.2.2.2.2.1 = σ.2.2.2.2.1 ∧ σ'.2.2.2.2.2.1 = σ.2.2.2.2.2.1 ∧ σ'.2.2.2.2.2.2.1 = σ.2.2.2.2.2.2.1 ∧ cs_tl σ' = cs_tl σ ∧ cs_tb σ' = cs_tb σ ∧ cs_tw σ' = cs_tw σ ∧ cs_tn σ' = cs_tn σ ∧ cs_te σ' = cs_te σ ∧ cs_tf σ' = cs_tf σ ∧ σ'.2.2.2.2.2.2.2.2.1 = σ.2.2.2.2.2.2.2.2.1 ∧ σ'.2.2.2.2.2.2.2.2.2 = σ.2.2.2.2.2.2.2.2.2
theorem Fr_X2_skipBlanks.rf {σ : CSt} : Fr_X2_skipBlanks σ σ := ⟨rfl, rfl, rfl, rfl, rfl, rfl, rfl, rfl, rfl, rfl, rfl, rfl, rfl, rfl, rfl⟩
theorem Fr_X2_skipBlanks.tr {a b c : CSt} (h : Fr_X2_skipBlanks a b) (h' : Fr_X2_skipBlanks b c) : Fr_X2_skipBlanks a c := ⟨h'.1.trans h.1, h'.2.1.trans h.2.1, h'.2.2.1.trans h.2.2.1, h'.2.2.2.1.trans h.2.2.2.1, h'.2.2.2.2.1.trans h.2.2.2.2.1, h'.2.2.2.2.2.1.trans h.2.2.2.2.2.1, h'.2.2.2.2.2.2.1.trans h.2.2.2.2.2.2.1, h'.2.2.2.2.2.2.2.1.trans h.2.2.2.2.2.2.2.1, h'.2.2.2.2.2.2.2.2.1.trans h.2.2.2.2.2.2.2.2.1, h'.2.2.2.2.2.2.2.2.2.1.trans h.2.2.2.2.2.2.2.2.2.1, h'.2.2.2.2.2.2.2.2.2.2.1.trans h.2.2.2.2.2.2.2.2.2.2.1, h'.2.2.2.2.2.2.2.2.2.2.2.1.trans h.2.2.2.2.2.2.2.2.2.2.2.1, h'.2.2.2.2.2.2.2.2.2.2.2.2.1.trans h.2.2.2.2.2.2.2.2.2.2.2.2.1, h'.2.2.2.2.2.2.2.2.2.2.2.2.2.1.trans h.2.2.2.2.2.2.2.2.2.2.2.2.2.1, h'.2.2.2.2.2.2.2.2.2.2.2.2.2.2.trans h.2.2.2.2.2.2.2.2.2.2.2.2.2.2⟩
theorem Fr_X2_skipBlanks.s_tc (σ : CSt) (v : Int32) : Fr_X2_skipBlanks σ (cs_tc_s σ v) := ⟨rfl, rfl, rfl, rfl, rfl, rfl, rfl, rfl, rfl, rfl, rfl, rfl, rfl, rfl, rfl⟩
theorem fr_X2_skipBlanks_L38 {F : Nat} {σ : CSt} {R : CSt}  (h : fc_X2_skipBlanks_L38 F σ = some R) : Fr_X2_skipBlanks σ R := by
  unfold fc_X2_skipBlanks_L38 at h
  obtain rfl := Option.some.inj h
  exact Fr_X2_skipBlanks.rf
theorem fr_X2_skipBlanks_L0_c {F : Nat} {k0 : CSt → Option (CSt)} {σ : CSt} {R : CSt} (hk0 : ∀ {y0 : CSt}, k0 y0 = some R → Fr_X2_skipBlanks y0 R) (h : fc_X2_skipBlanks_L0_c F k0 σ = some R) : Fr_X2_skipBlanks σ R := by
  unfold fc_X2_skipBlanks_L0_c at h
  rcases br_any h with h | h
  · exact Fr_X2_skipBlanks.rf.tr (fr_X2_skipBlanks_L38  h)
  · obtain ⟨-, h⟩ := gd_some h
    rcases br_any h with h | h
    · replace h := lt_e h
      exact (Fr_X2_skipBlanks.rf.tr (Fr_X2_skipBlanks.s_tc _ _)).tr (hk0 h)
    · exact Fr_X2_skipBlanks.rf.tr (fr_X2_skipBlanks_L38  h)
theorem fr_X2_skipBlanks_L0 {F : Nat} {n : Nat} {σ : CSt} {R : CSt}  (h : fc_X2_skipBlanks_L0 F n σ = some R) : Fr_X2_skipBlanks σ R := by
  induction n generalizing σ with
  | zero => cases (show (none : Option _) = _ from h)
  | succ n ih => exact fr_X2_skipBlanks_L0_c  (fun h9 => ih h9) (show fc_X2_skipBlanks_L0_c F (fc_X2_skipBlanks_L0 F n) σ = some R from h)
theorem fr_X2_skipBlanks {F : Nat} {σ : CSt} {R : CSt}  (h : fc_X2_skipBlanks F σ = some R) : Fr_X2_skipBlanks σ R := by
  unfold fc_X2_skipBlanks at h
  exact Fr_X2_skipBlanks.rf.tr (fr_X2_skipBlanks_L0  h)
def Fr_X2_readNumber (σ σ' : CSt) : Prop := σ'.1 = σ.1 ∧ σ'.2.1 = σ.2.1 ∧ σ'.2.2.1 = σ.2.2.1 ∧ σ'.2.2.2.1 = σ.2.2.2.1 ∧ σ'.2.2.2.2.1 = σ.2.2.2.2.1 ∧ σ'.2.2.2.2.2.1 = σ.2.2.2.2.2.1 ∧ σ'.2.2.2.2.2.2.1 = σ.2.2.2.2.2.2.1 ∧ cs_tl σ' = cs_tl σ ∧ cs_tb σ' = cs_tb σ ∧ cs_tw σ' = cs_tw σ ∧ cs_tn σ' = cs_tn σ ∧ cs_te σ' = cs_te σ ∧ σ'.2.2.2.2.2.2.2.2.1 = σ.2.2.2.2.2.2.2.2.1 ∧ σ'.2.2.2.2.2.2.2.2.2 = σ.2.2.2.2.2.2.2.2.2
theorem Fr_X2_readNumber.rf {σ : CSt} : Fr_X2_readNumber σ σ := ⟨rfl, rfl, rfl, rfl, rfl, rfl, rfl, rfl, rfl, rfl, rfl, rfl, rfl, rfl⟩
theorem Fr_X2_readNumber.tr {a b c : CSt} (h : Fr_X2_readNumber a b) (h' : Fr_X2_readNumber b c) : Fr_X2_readNumber a c := ⟨h'.1.trans h.1, h'.2.1.trans h.2.1, h'.2.2.1.trans h.2.2.1, h'.2.2.2.1.trans h.2.2.2.1, h'.2.2.2.2.1.trans h.2.2.2.2.1, h'.2.2.2.2.2.1.trans h.2.2.2.2.2.1, h'.2.2.2.2.2.2.1.trans h.2.2.2.2.2.2.1, h'.2.2.2.2.2.2.2.1.trans h.2.2.2.2.2.2.2.1, h'.2.2.2.2.2.2.2.2.1.trans h.2.2.2.2.2.2.2.2.1, h'.2.2.2.2.2.2.2.2.2.1.trans h.2.2.2.2.2.2.2.2.2.1, h'.2.2.2.2.2.2.2.2.2.2.1.trans h.2.2.2.2.2.2.2.2.2.2.1, h'.2.2.2.2.2.2.2.2.2.2.2.1.trans h.2.2.2.2.2.2.2.2.2.2.2.1, h'.2.2.2.2.2.2.2.2.2.2.2.2.1.trans h.2.2.2.2.2.2.2.2.2.2.2.2.1, h'.2.2.2.2.2.2.2.2.2.2.2.2.2.trans h.2.2.2.2.2.2.2.2.2.2.2.2.2⟩
theorem Fr_X2_readNumber.s_tc (σ : CSt) (v : Int32) : Fr_X2_readNumber σ (cs_tc_s σ v) := ⟨rfl, rfl, rfl, rfl, rfl, rfl, rfl, rfl, rfl, rfl, rfl, rfl, rfl, rfl⟩
theorem Fr_X2_readNumber.s_tf (σ : CSt) (v : Int32) : Fr_X2_readNumber σ (cs_tf_s σ v) := ⟨rfl, rfl, rfl, rfl, rfl, rfl, rfl, rfl, rfl, rfl, rfl, rfl, rfl, rfl⟩
theorem Fr_X2_readNumber.c_X2_skipBlanks {σ σ' : CSt} (h : Fr_X2_skipBlanks σ σ') : Fr_X2_readNumber σ σ' := ⟨h.1, h.2.1, h.2.2.1, h.2.2.2.1, h.2.2.2.2.1, h.2.2.2.2.2.1, h.2.2.2.2.2.2.1, h.2.2.2.2.2.2.2.1, h.2.2.2.2.2.2.2.2.1, h.2.2.2.2.2.2.2.2.2.1, h.2.2.2.2.2.2.2.2.2.2.1, h.2.2.2.2.2.2.2.2.2.2.2.1, h.2.2.2.2.2.2.2.2.2.2.2.2.2.1, h.2.2.2.2.2.2.2.2.2.2.2.2.2.2⟩
theorem fr_X2_readNumber_L99 {F : Nat} {σ : CSt} {x1 : Int32} {r : Int32} {R : CSt}  (h : fc_X2_readNumber_L99 F σ x1 = some (r, R)) : Fr_X2_readNumber σ R := by
  unfold fc_X2_readNumber_L99 at h
  replace h := lt_e h
  obtain ⟨-, rfl⟩ := Prod.mk.inj (Option.some.inj h)
  exact (Fr_X2_readNumber.rf.tr (Fr_X2_readNumber.s_tf _ _))
theorem fr_X2_readNumber_L81 {F : Nat} {σ : CSt} {x1 : Int32} {x2 : Int32} {r : Int32} {R : CSt}  (h : fc_X2_readNumber_L81 F σ x1 x2 = some (r, R)) : Fr_X2_readNumber σ R := by
  unfold fc_X2_readNumber_L81 at h
  rcases br_any h with h | h
  · exact Fr_X2_readNumber.rf.tr (fr_X2_readNumber_L99  h)
  · rcases br_any h with h | h
    · obtain ⟨-, rfl⟩ := Prod.mk.inj (Option.some.inj h)
      exact Fr_X2_readNumber.rf
    · exact Fr_X2_readNumber.rf.tr (fr_X2_readNumber_L99  h)
theorem fr_X2_readNumber_L11_c {F : Nat} {k11 : CSt → Int32 → Int32 → Option (Int32 × CSt)} {σ : CSt} {x1 : Int32} {x2 : Int32} {r : Int32} {R : CSt} (hk11 : ∀ {y0 : CSt} {y1 : Int32} {y2 : Int32}, k11 y0 y1 y2 = some (r, R) → Fr_X2_readNumber y0 R) (h : fc_X2_readNumber_L11_c F k11 σ x1 x2 = some (r, R)) : Fr_X2_readNumber σ R := by
  unfold fc_X2_readNumber_L11_c at h
  rcases br_any h with h | h
  · exact Fr_X2_readNumber.rf.tr (fr_X2_readNumber_L81  h)
  · obtain ⟨-, h⟩ := gd_some h
    rcases br_any h with h | h
    · exact Fr_X2_readNumber.rf.tr (fr_X2_readNumber_L81  h)
    · obtain ⟨-, h⟩ := gd_some h
      rcases br_any h with h | h
      · exact Fr_X2_readNumber.rf.tr (fr_X2_readNumber_L81  h)
      · obtain ⟨-, h⟩ := gd_some h
        replace h := lt_e h
        replace h := lt_e h
        exact (Fr_X2_readNumber.rf.tr (Fr_X2_readNumber.s_tc _ _)).tr (hk11 h)
theorem fr_X2_readNumber_L11 {F : Nat} {n : Nat} {σ : CSt} {x1 : Int32} {x2 : Int32} {r : Int32} {R : CSt}  (h : fc_X2_readNumber_L11 F n σ x1 x2 = some (r, R)) : Fr_X2_readNumber σ R := by
  induction n generalizing σ x1 x2 with
  | zero => cases (show (none : Option _) = _ from h)
  | succ n ih => exact fr_X2_readNumber_L11_c  (fun h9 => ih h9) (show fc_X2_readNumber_L11_c F (fc_X2_readNumber_L11 F n) σ x1 x2 = some (r, R) from h)
theorem fr_X2_readNumber {F : Nat} {σ : CSt} {r : Int32} {R : CSt}  (h : fc_X2_readNumber F σ = some (r, R)) : Fr_X2_readNumber σ R := by
  unfold fc_X2_readNumber at h
  obtain ⟨σ1, hc1, h⟩ := bd_some h
  replace h := lt_e h
  exact (Fr_X2_readNumber.rf.tr (Fr_X2_readNumber.c_X2_skipBlanks (fr_X2_skipBlanks hc1))).tr (fr_X2_readNumber_L11  h)
def Fr_X2_readSeparator (σ σ' : CSt) : Prop := σ'.1 = σ.1 ∧ σ'.2.1 = σ.2.1 ∧ σ'.2.2.1 = σ.2.2.1 ∧ σ'.2.2.2.1 = σ.2.2.2.1 ∧ σ'.2.2.2.2.1 = σ.2.2.2.2.1 ∧ σ'.2.2.2.2.2.1 = σ.2.2.2.2.2.1 ∧ σ'.2.2.2.2.2.2.1 = σ.2.2.2.2.2.2.1 ∧ cs_tl σ' = cs_tl σ ∧ cs_tb σ' = cs_tb σ ∧ cs_tw σ' = cs_tw σ ∧ cs_tn σ' = cs_tn σ ∧ σ'.2.2.2.2.2.2.2.2.1 = σ.2.2.2.2.2.2.2.2.1 ∧ σ'.2.2.2.2.2.2.2.2.2 = σ.2.2.2.2.2.2.2.2.2
theorem Fr_X2_readSeparator.rf {σ : CSt} : Fr_X2_readSeparator σ σ := ⟨rfl, rfl, rfl, rfl, rfl, rfl, rfl, rfl, rfl, rfl, rfl, rfl, rfl⟩
theorem Fr_X2_readSeparator.tr {a b c : CSt} (h : Fr_X2_readSeparator a b) (h' : Fr_X2_readSeparator b c) : Fr_X2_readSeparator a c := ⟨h'.1.trans h.1, h'.2.1.trans h.2.1, h'.2.2.1.trans h.2.2.1, h'.2.2.2.1.trans h.2.2.2.1, h'.2.2.2.2.1.trans h.2.2.2.2.1, h'.2.2.2.2.2.1.trans h.2.2.2.2.2.1, h'.2.2.2.2.2.2.1.trans h.2.2.2.2.2.2.1, h'.2.2.2.2.2.2.2.1.trans h.2.2.2.2.2.2.2.1, h'.2.2.2.2.2.2.2.2.1.trans h.2.2.2.2.2.2.2.2.1, h'.2.2.2.2.2.2.2.2.2.1.trans h.2.2.2.2.2.2.2.2.2.1, h'.2.2.2.2.2.2.2.2.2.2.1.trans h.2.2.2.2.2.2.2.2.2.2.1, h'.2.2.2.2.2.2.2.2.2.2.2.1.trans h.2.2.2.2.2.2.2.2.2.2.2.1, h'.2.2.2.2.2.2.2.2.2.2.2.2.trans h.2.2.2.2.2.2.2.2.2.2.2.2⟩
theorem Fr_X2_readSeparator.s_tc (σ : CSt) (v : Int32) : Fr_X2_readSeparator σ (cs_tc_s σ v) := ⟨rfl, rfl, rfl, rfl, rfl, rfl, rfl, rfl, rfl, rfl, rfl, rfl, rfl⟩
theorem Fr_X2_readSeparator.s_te (σ : CSt) (v : Int32) : Fr_X2_readSeparator σ (cs_te_s σ v) := ⟨rfl, rfl, rfl, rfl, rfl, rfl, rfl, rfl, rfl, rfl, rfl, rfl, rfl⟩
theorem Fr_X2_readSeparator.s_tf (σ : CSt) (v : Int32) : Fr_X2_readSeparator σ (cs_tf_s σ v) := ⟨rfl, rfl, rfl, rfl, rfl, rfl, rfl, rfl, rfl, rfl, rfl, rfl, rfl⟩
theorem Fr_X2_readSeparator.c_X2_skipBlanks {σ σ' : CSt} (h : Fr_X2_skipBlanks σ σ') : Fr_X2_readSeparator σ σ' := ⟨h.1, h.2.1, h.2.2.1, h.2.2.2.1, h.2.2.2.2.1, h.2.2.2.2.2.1, h.2.2.2.2.2.2.1, h.2.2.2.2.2.2.2.1, h.2.2.2.2.2.2.2.2.1, h.2.2.2.2.2.2.2.2.2.1, h.2.2.2.2.2.2.2.2.2.2.1, h.2.2.2.2.2.2.2.2.2.2.2.2.2.1, h.2.2.2.2.2.2.2.2.2.2.2.2.2.2⟩
theorem fr_X2_readSeparator {F : Nat} {σ : CSt} {r : Int32} {R : CSt}  (h : fc_X2_readSeparator F σ = some (r, R)) : Fr_X2_readSeparator σ R := by
  unfold fc_X2_readSeparator at h
  obtain ⟨σ1, hc1, h⟩ := bd_some h
  rcases br_any h with h | h
  · obtain ⟨-, h⟩ := gd_some h
    rcases br_any h with h | h
    · replace h := lt_e h
      obtain ⟨-, rfl⟩ := Prod.mk.inj (Option.some.inj h)
      exact ((Fr_X2_readSeparator.rf.tr (Fr_X2_readSeparator.c_X2_skipBlanks (fr_X2_skipBlanks hc1))).tr (Fr_X2_readSeparator.s_tc _ _))
    · replace h := lt_e h
      obtain ⟨-, rfl⟩ := Prod.mk.inj (Option.some.inj h)
      exact ((Fr_X2_readSeparator.rf.tr (Fr_X2_readSeparator.c_X2_skipBlanks (fr_X2_skipBlanks hc1))).tr (Fr_X2_readSeparator.s_tf _ _))
  · replace h := lt_e h
    obtain ⟨-, rfl⟩ := Prod.mk.inj (Option.some.inj h)
    exact ((Fr_X2_readSeparator.rf.tr (Fr_X2_readSeparator.c_X2_skipBlanks (fr_X2_skipBlanks hc1))).tr (Fr_X2_readSeparator.s_te _ _))
def Fr_X1_copyFrom_K (σ σ' : CSt) : Prop := σ'.1 = σ.1 ∧ σ'.2.2.1 = σ.2.2.1 ∧ σ'.2.2.2.1 = σ.2.2.2.1 ∧ σ'.2.2.2.2.1 = σ.2.2.2.2.1 ∧ σ'.2.2.2.2.2.1 = σ.2.2.2.2.2.1 ∧ σ'.2.2.2.2.2.2.1 = σ.2.2.2.2.2.2.1 ∧ σ'.2.2.2.2.2.2.2.1 = σ.2.2.2.2.2.2.2.1 ∧ σ'.2.2.2.2.2.2.2.2.1 = σ.2.2.2.2.2.2.2.2.1 ∧ σ'.2.2.2.2.2.2.2.2.2 = σ.2.2.2.2.2.2.2.2.2
theorem Fr_X1_copyFrom_K.rf {σ : CSt} : Fr_X1_copyFrom_K σ σ := ⟨rfl, rfl, rfl, rfl, rfl, rfl, rfl, rfl, rfl⟩
theorem Fr_X1_copyFrom_K.tr {a b c : CSt} (h : Fr_X1_copyFrom_K a b) (h' : Fr_X1_copyFrom_K b c) : Fr_X1_copyFrom_K a c := ⟨h'.1.trans h.1, h'.2.1.trans h.2.1, h'.2.2.1.trans h.2.2.1, h'.2.2.2.1.trans h.2.2.2.1, h'.2.2.2.2.1.trans h.2.2.2.2.1, h'.2.2.2.2.2.1.trans h.2.2.2.2.2.1, h'.2.2.2.2.2.2.1.trans h.2.2.2.2.2.2.1, h'.2.2.2.2.2.2.2.1.trans h.2.2.2.2.2.2.2.1, h'.2.2.2.2.2.2.2.2.trans h.2.2.2.2.2.2.2.2⟩
theorem Fr_X1_copyFrom_K.s_kb (σ : CSt) (v : (Nat → Int32)) : Fr_X1_copyFrom_K σ (cs_kb_s σ v) := ⟨rfl, rfl, rfl, rfl, rfl, rfl, rfl, rfl, rfl⟩
theorem Fr_X1_copyFrom_K.s_kc (σ : CSt) (v : (Nat → Int32)) : Fr_X1_copyFrom_K σ (cs_kc_s σ v) := ⟨rfl, rfl, rfl, rfl, rfl, rfl, rfl, rfl, rfl⟩
theorem Fr_X1_copyFrom_K.s_ke (σ : CSt) (v : (Nat → Nat → Int32)) : Fr_X1_copyFrom_K σ (cs_ke_s σ v) := ⟨rfl, rfl, rfl, rfl, rfl, rfl, rfl, rfl, rfl⟩
theorem Fr_X1_copyFrom_K.s_kp (σ : CSt) (v : (Nat → Int32)) : Fr_X1_copyFrom_K σ (cs_kp_s σ v) := ⟨rfl, rfl, rfl, rfl, rfl, rfl, rfl, rfl, rfl⟩
theorem Fr_X1_copyFrom_K.s_kq (σ : CSt) (v : (Nat → Nat → Int32)) : Fr_X1_copyFrom_K σ (cs_kq_s σ v) := ⟨rfl, rfl, rfl, rfl, rfl, rfl, rfl, rfl, rfl⟩
theorem Fr_X1_copyFrom_K.s_kr (σ : CSt) (v : (Nat → Nat → Option RV)) : Fr_X1_copyFrom_K σ (cs_kr_s σ v) := ⟨rfl, rfl, rfl, rfl, rfl, rfl, rfl, rfl, rfl⟩
theorem fr_X1_copyFrom_K_L62_c {F : Nat} {i9 : Nat} {k62 : CSt → Int32 → Option (CSt)} {σ : CSt} {x2 : Int32} {R : CSt} (hk62 : ∀ {y0 : CSt} {y1 : Int32}, k62 y0 y1 = some R → Fr_X1_copyFrom_K y0 R) (h : fc_X1_copyFrom_K_L62_c F i9 k62 σ x2 = some R) : Fr_X1_copyFrom_K σ R := by
  unfold fc_X1_copyFrom_K_L62_c at h
  rcases br_any h with h | h
  · obtain rfl := Option.some.inj h
    exact Fr_X1_copyFrom_K.rf
  · obtain ⟨-, h⟩ := gd_some h
    rcases mo_any h with h | ⟨v81, h⟩
    · obtain ⟨-, h⟩ := gd_some h
      replace h := lt_e h
      replace h := lt_e h
      exact (Fr_X1_copyFrom_K.rf.tr (Fr_X1_copyFrom_K.s_kr _ _)).tr (hk62 h)
    · obtain ⟨-, h⟩ := gd_some h
      replace h := lt_e h
      replace h := lt_e h
      exact (Fr_X1_copyFrom_K.rf.tr (Fr_X1_copyFrom_K.s_kr _ _)).tr (hk62 h)
theorem fr_X1_copyFrom_K_L62 {F : Nat} {i9 : Nat} {n : Nat} {σ : CSt} {x2 : Int32} {R : CSt}  (h : fc_X1_copyFrom_K_L62 F i9 n σ x2 = some R) : Fr_X1_copyFrom_K σ R := by
  induction n generalizing σ x2 with
  | zero => cases (show (none : Option _) = _ from h)
  | succ n ih => exact fr_X1_copyFrom_K_L62_c  (fun h9 => ih h9) (show fc_X1_copyFrom_K_L62_c F i9 (fc_X1_copyFrom_K_L62 F i9 n) σ x2 = some R from h)
theorem fr_X1_copyFrom_K {F : Nat} {σ : CSt} {i9 : Nat} {R : CSt}  (h : fc_X1_copyFrom_K F σ i9 = some R) : Fr_X1_copyFrom_K σ R := by
  unfold fc_X1_copyFrom_K at h
  replace h := lt_e h
  replace h := lt_e h
  replace h := lt_e h
  obtain ⟨-, h⟩ := gd_some h
  replace h := lt_e h
  obtain ⟨-, h⟩ := gd_some h
  replace h := lt_e h
  exact (((((Fr_X1_copyFrom_K.rf.tr (Fr_X1_copyFrom_K.s_kb _ _)).tr (Fr_X1_copyFrom_K.s_kc _ _)).tr (Fr_X1_copyFrom_K.s_kp _ _)).tr (Fr_X1_copyFrom_K.s_ke _ _)).tr (Fr_X1_copyFrom_K.s_kq _ _)).tr (fr_X1_copyFrom_K_L62  h)
def Fr_X1_copyFrom_M (σ σ' : CSt) : Prop := σ'.2.1 = σ.2.1 ∧ σ'.2.2.1 = σ.2.2.1 ∧ σ'.2.2.2.1 = σ.2.2.2.1 ∧ σ'.2.2.2.2.1 = σ.2.2.2.2.1 ∧ σ'.2.2.2.2.2.1 = σ.2.2.2.2.2.1 ∧ σ'.2.2.2.2.2.2.1 = σ.2.2.2.2.2.2.1 ∧ σ'.2.2.2.2.2.2.2.1 = σ.2.2.2.2.2.2.2.1 ∧ σ'.2.2.2.2.2.2.2.2.1 = σ.2.2.2.2.2.2.2.2.1 ∧ σ'.2.2.2.2.2.2.2.2.2 = σ.2.2.2.2.2.2.2.2.2
theorem Fr_X1_copyFrom_M.rf {σ : CSt} : Fr_X1_copyFrom_M σ σ := ⟨rfl, rfl, rfl, rfl, rfl, rfl, rfl, rfl, rfl⟩
theorem Fr_X1_copyFrom_M.tr {a b c : CSt} (h : Fr_X1_copyFrom_M a b) (h' : Fr_X1_copyFrom_M b c) : Fr_X1_copyFrom_M a c := ⟨h'.1.trans h.1, h'.2.1.trans h.2.1, h'.2.2.1.trans h.2.2.1, h'.2.2.2.1.trans h.2.2.2.1, h'.2.2.2.2.1.trans h.2.2.2.2.1, h'.2.2.2.2.2.1.trans h.2.2.2.2.2.1, h'.2.2.2.2.2.2.1.trans h.2.2.2.2.2.2.1, h'.2.2.2.2.2.2.2.1.trans h.2.2.2.2.2.2.2.1, h'.2.2.2.2.2.2.2.2.trans h.2.2.2.2.2.2.2.2⟩
theorem Fr_X1_copyFrom_M.s_cb (σ : CSt) (v : Int32) : Fr_X1_copyFrom_M σ (cs_cb_s σ v) := ⟨rfl, rfl, rfl, rfl, rfl, rfl, rfl, rfl, rfl⟩
theorem Fr_X1_copyFrom_M.s_cc (σ : CSt) (v : Int32) : Fr_X1_copyFrom_M σ (cs_cc_s σ v) := ⟨rfl, rfl, rfl, rfl, rfl, rfl, rfl, rfl, rfl⟩
theorem Fr_X1_copyFrom_M.s_ce (σ : CSt) (v : (Nat → Int32)) : Fr_X1_copyFrom_M σ (cs_ce_s σ v) := ⟨rfl, rfl, rfl, rfl, rfl, rfl, rfl, rfl, rfl⟩
theorem Fr_X1_copyFrom_M.s_cp (σ : CSt) (v : Int32) : Fr_X1_copyFrom_M σ (cs_cp_s σ v) := ⟨rfl, rfl, rfl, rfl, rfl, rfl, rfl, rfl, rfl⟩
theorem Fr_X1_copyFrom_M.s_cq (σ : CSt) (v : (Nat → Int32)) : Fr_X1_copyFrom_M σ (cs_cq_s σ v) := ⟨rfl, rfl, rfl, rfl, rfl, rfl, rfl, rfl, rfl⟩
theorem Fr_X1_copyFrom_M.s_cr (σ : CSt) (v : (Nat → Option RV)) : Fr_X1_copyFrom_M σ (cs_cr_s σ v) := ⟨rfl, rfl, rfl, rfl, rfl, rfl, rfl, rfl, rfl⟩
theorem fr_X1_copyFrom_M_L62_c {F : Nat} {i9 : Nat} {k62 : CSt → Int32 → Option (CSt)} {σ : CSt} {x2 : Int32} {R : CSt} (hk62 : ∀ {y0 : CSt} {y1 : Int32}, k62 y0 y1 = some R → Fr_X1_copyFrom_M y0 R) (h : fc_X1_copyFrom_M_L62_c F i9 k62 σ x2 = some R) : Fr_X1_copyFrom_M σ R := by
  unfold fc_X1_copyFrom_M_L62_c at h
  rcases br_any h with h | h
  · obtain rfl := Option.some.inj h
    exact Fr_X1_copyFrom_M.rf
  · obtain ⟨-, h⟩ := gd_some h
    rcases mo_any h with h | ⟨v81, h⟩
    · obtain ⟨-, h⟩ := gd_some h
      replace h := lt_e h
      replace h := lt_e h
      exact (Fr_X1_copyFrom_M.rf.tr (Fr_X1_copyFrom_M.s_cr _ _)).tr (hk62 h)
    · obtain ⟨-, h⟩ := gd_some h
      replace h := lt_e h
      replace h := lt_e h
      exact (Fr_X1_copyFrom_M.rf.tr (Fr_X1_copyFrom_M.s_cr _ _)).tr (hk62 h)
theorem fr_X1_copyFrom_M_L62 {F : Nat} {i9 : Nat} {n : Nat} {σ : CSt} {x2 : Int32} {R : CSt}  (h : fc_X1_copyFrom_M_L62 F i9 n σ x2 = some R) : Fr_X1_copyFrom_M σ R := by
  induction n generalizing σ x2 with
  | zero => cases (show (none : Option _) = _ from h)
  | succ n ih => exact fr_X1_copyFrom_M_L62_c  (fun h9 => ih h9) (show fc_X1_copyFrom_M_L62_c F i9 (fc_X1_copyFrom_M_L62 F i9 n) σ x2 = some R from h)
theorem fr_X1_copyFrom_M {F : Nat} {σ : CSt} {i9 : Nat} {R : CSt}  (h : fc_X1_copyFrom_M F σ i9 = some R) : Fr_X1_copyFrom_M σ R := by
  unfold fc_X1_copyFrom_M at h
  replace h := lt_e h
  replace h := lt_e h
  replace h := lt_e h
  obtain ⟨-, h⟩ := gd_some h
  replace h := lt_e h
  obtain ⟨-, h⟩ := gd_some h
  replace h := lt_e h
  exact (((((Fr_X1_copyFrom_M.rf.tr (Fr_X1_copyFrom_M.s_cb _ _)).tr (Fr_X1_copyFrom_M.s_cc _ _)).tr (Fr_X1_copyFrom_M.s_cp _ _)).tr (Fr_X1_copyFrom_M.s_ce _ _)).tr (Fr_X1_copyFrom_M.s_cq _ _)).tr (fr_X1_copyFrom_M_L62  h)
def Fr_X5_keep (σ σ' : CSt) : Prop := σ'.1 = σ.1 ∧ cs_run σ' = cs_run σ ∧ σ'.2.2.2.1 = σ.2.2.2.1 ∧ σ'.2.2.2.2.1 = σ.2.2.2.2.1 ∧ σ'.2.2.2.2.2.1 = σ.2.2.2.2.2.1 ∧ σ'.2.2.2.2.2.2.1 = σ.2.2.2.2.2.2.1 ∧ σ'.2.2.2.2.2.2.2.1 = σ.2.2.2.2.2.2.2.1 ∧ σ'.2.2.2.2.2.2.2.2.1 = σ.2.2.2.2.2.2.2.2.1 ∧ σ'.2.2.2.2.2.2.2.2.2 = σ.2.2.2.2.2.2.2.2.2
theorem Fr_X5_keep.rf {σ : CSt} : Fr_X5_keep σ σ := ⟨rfl, rfl, rfl, rfl, rfl, rfl, rfl, rfl, rfl⟩
theorem Fr_X5_keep.tr {a b c : CSt} (h : Fr_X5_keep a b) (h' : Fr_X5_keep b c) : Fr_X5_keep a c := ⟨h'.1.trans h.1, h'.2.1.trans h.2.1, h'.2.2.1.trans h.2.2.1, h'.2.2.2.1.trans h.2.2.2.1, h'.2.2.2.2.1.trans h.2.2.2.2.1, h'.2.2.2.2.2.1.trans h.2.2.2.2.2.1, h'.2.2.2.2.2.2.1.trans h.2.2.2.2.2.2.1, h'.2.2.2.2.2.2.2.1.trans h.2.2.2.2.2.2.2.1, h'.2.2.2.2.2.2.2.2.trans h.2.2.2.2.2.2.2.2⟩
theorem Fr_X5_keep.s_ho (σ : CSt) (v : Int32) : Fr_X5_keep σ (cs_ho_s σ v) := ⟨rfl, rfl, rfl, rfl, rfl, rfl, rfl, rfl, rfl⟩
theorem Fr_X5_keep.s_hs (σ : CSt) (v : Int32) : Fr_X5_keep σ (cs_hs_s σ v) := ⟨rfl, rfl, rfl, rfl, rfl, rfl, rfl, rfl, rfl⟩
theorem Fr_X5_keep.c_X1_copyFrom_K {σ σ' : CSt} (h : Fr_X1_copyFrom_K σ σ') : Fr_X5_keep σ σ' := ⟨h.1, congrArg (fun q : CT_hi => q.2.2) h.2.1, h.2.2.1, h.2.2.2.1, h.2.2.2.2.1, h.2.2.2.2.2.1, h.2.2.2.2.2.2.1, h.2.2.2.2.2.2.2.1, h.2.2.2.2.2.2.2.2⟩
theorem fr_X5_keep_L33 {F : Nat} {σ : CSt} {R : CSt}  (h : fc_X5_keep_L33 F σ = some R) : Fr_X5_keep σ R := by
  unfold fc_X5_keep_L33 at h
  obtain ⟨-, h⟩ := gd_some h
  obtain ⟨σ52, hc1, h⟩ := bd_some h
  obtain rfl := Option.some.inj h
  exact (Fr_X5_keep.rf.tr (Fr_X5_keep.c_X1_copyFrom_K (fr_X1_copyFrom_K hc1)))
theorem fr_X5_keep {F : Nat} {σ : CSt} {R : CSt}  (h : fc_X5_keep F σ = some R) : Fr_X5_keep σ R := by
  unfold fc_X5_keep at h
  rcases br_any h with h | h
  · replace h := lt_e h
    exact (Fr_X5_keep.rf.tr (Fr_X5_keep.s_ho _ _)).tr (fr_X5_keep_L33  h)
  · replace h := lt_e h
    exact (Fr_X5_keep.rf.tr (Fr_X5_keep.s_hs _ _)).tr (fr_X5_keep_L33  h)
def Fr_X9_remember (σ σ' : CSt) : Prop := σ'.1 = σ.1 ∧ cs_run σ' = cs_run σ ∧ σ'.2.2.2.1 = σ.2.2.2.1 ∧ σ'.2.2.2.2.1 = σ.2.2.2.2.1 ∧ σ'.2.2.2.2.2.1 = σ.2.2.2.2.2.1 ∧ σ'.2.2.2.2.2.2.1 = σ.2.2.2.2.2.2.1 ∧ σ'.2.2.2.2.2.2.2.1 = σ.2.2.2.2.2.2.2.1 ∧ σ'.2.2.2.2.2.2.2.2.1 = σ.2.2.2.2.2.2.2.2.1 ∧ σ'.2.2.2.2.2.2.2.2.2 = σ.2.2.2.2.2.2.2.2.2
theorem Fr_X9_remember.rf {σ : CSt} : Fr_X9_remember σ σ := ⟨rfl, rfl, rfl, rfl, rfl, rfl, rfl, rfl, rfl⟩
theorem Fr_X9_remember.tr {a b c : CSt} (h : Fr_X9_remember a b) (h' : Fr_X9_remember b c) : Fr_X9_remember a c := ⟨h'.1.trans h.1, h'.2.1.trans h.2.1, h'.2.2.1.trans h.2.2.1, h'.2.2.2.1.trans h.2.2.2.1, h'.2.2.2.2.1.trans h.2.2.2.2.1, h'.2.2.2.2.2.1.trans h.2.2.2.2.2.1, h'.2.2.2.2.2.2.1.trans h.2.2.2.2.2.2.1, h'.2.2.2.2.2.2.2.1.trans h.2.2.2.2.2.2.2.1, h'.2.2.2.2.2.2.2.2.trans h.2.2.2.2.2.2.2.2⟩
theorem Fr_X9_remember.c_X5_keep {σ σ' : CSt} (h : Fr_X5_keep σ σ') : Fr_X9_remember σ σ' := ⟨h.1, h.2.1, h.2.2.1, h.2.2.2.1, h.2.2.2.2.1, h.2.2.2.2.2.1, h.2.2.2.2.2.2.1, h.2.2.2.2.2.2.2.1, h.2.2.2.2.2.2.2.2⟩
theorem fr_X9_remember_L18 {F : Nat} {σ : CSt} {R : CSt}  (h : fc_X9_remember_L18 F σ = some R) : Fr_X9_remember σ R := by
  unfold fc_X9_remember_L18 at h
  obtain rfl := Option.some.inj h
  exact Fr_X9_remember.rf
theorem fr_X9_remember {F : Nat} {σ : CSt} {R : CSt}  (h : fc_X9_remember F σ = some R) : Fr_X9_remember σ R := by
  unfold fc_X9_remember at h
  rcases br_any h with h | h
  · obtain ⟨σ15, hc1, h⟩ := bd_some h
    exact (Fr_X9_remember.rf.tr (Fr_X9_remember.c_X5_keep (fr_X5_keep hc1))).tr (fr_X9_remember_L18  h)
  · exact Fr_X9_remember.rf.tr (fr_X9_remember_L18  h)
def Fr_X9_addBox (σ σ' : CSt) : Prop := cs_cc σ' = cs_cc σ ∧ cs_cp σ' = cs_cp σ ∧ cs_cq σ' = cs_cq σ ∧ cs_cr σ' = cs_cr σ ∧ cs_run σ' = cs_run σ ∧ σ'.2.2.2.1 = σ.2.2.2.1 ∧ σ'.2.2.2.2.1 = σ.2.2.2.2.1 ∧ σ'.2.2.2.2.2.1 = σ.2.2.2.2.2.1 ∧ σ'.2.2.2.2.2.2.1 = σ.2.2.2.2.2.2.1 ∧ σ'.2.2.2.2.2.2.2.1 = σ.2.2.2.2.2.2.2.1 ∧ σ'.2.2.2.2.2.2.2.2.1 = σ.2.2.2.2.2.2.2.2.1 ∧ σ'.2.2.2.2.2.2.2.2.2 = σ.2.2.2.2.2.2.2.2.2
theorem Fr_X9_addBox.rf {σ : CSt} : Fr_X9_addBox σ σ := ⟨rfl, rfl, rfl, rfl, rfl, rfl, rfl, rfl, rfl, rfl, rfl, rfl⟩
theorem Fr_X9_addBox.tr {a b c : CSt} (h : Fr_X9_addBox a b) (h' : Fr_X9_addBox b c) : Fr_X9_addBox a c := ⟨h'.1.trans h.1, h'.2.1.trans h.2.1, h'.2.2.1.trans h.2.2.1, h'.2.2.2.1.trans h.2.2.2.1, h'.2.2.2.2.1.trans h.2.2.2.2.1, h'.2.2.2.2.2.1.trans h.2.2.2.2.2.1, h'.2.2.2.2.2.2.1.trans h.2.2.2.2.2.2.1, h'.2.2.2.2.2.2.2.1.trans h.2.2.2.2.2.2.2.1, h'.2.2.2.2.2.2.2.2.1.trans h.2.2.2.2.2.2.2.2.1, h'.2.2.2.2.2.2.2.2.2.1.trans h.2.2.2.2.2.2.2.2.2.1, h'.2.2.2.2.2.2.2.2.2.2.1.trans h.2.2.2.2.2.2.2.2.2.2.1, h'.2.2.2.2.2.2.2.2.2.2.2.trans h.2.2.2.2.2.2.2.2.2.2.2⟩
theorem Fr_X9_addBox.s_cb (σ : CSt) (v : Int32) : Fr_X9_addBox σ (cs_cb_s σ v) := ⟨rfl, rfl, rfl, rfl, rfl, rfl, rfl, rfl, rfl, rfl, rfl, rfl⟩
theorem Fr_X9_addBox.c_X1_putBox {σ σ' : CSt} (h : Fr_X1_putBox σ σ') : Fr_X9_addBox σ σ' := ⟨h.2.1, h.2.2.1, h.2.2.2.1, h.2.2.2.2.1, congrArg (fun q : CT_hi => q.2.2) h.2.2.2.2.2.2.1, h.2.2.2.2.2.2.2.1, h.2.2.2.2.2.2.2.2.1, h.2.2.2.2.2.2.2.2.2.1, h.2.2.2.2.2.2.2.2.2.2.1, h.2.2.2.2.2.2.2.2.2.2.2.1, h.2.2.2.2.2.2.2.2.2.2.2.2.1, h.2.2.2.2.2.2.2.2.2.2.2.2.2⟩
theorem Fr_X9_addBox.c_X9_remember {σ σ' : CSt} (h : Fr_X9_remember σ σ') : Fr_X9_addBox σ σ' := ⟨congrArg (fun q : CT_cv => q.2.1) h.1, congrArg (fun q : CT_cv => q.2.2.1) h.1, congrArg (fun q : CT_cv => q.2.2.2.2.1) h.1, congrArg (fun q : CT_cv => q.2.2.2.2.2) h.1, h.2.1, h.2.2.1, h.2.2.2.1, h.2.2.2.2.1, h.2.2.2.2.2.1, h.2.2.2.2.2.2.1, h.2.2.2.2.2.2.2.1, h.2.2.2.2.2.2.2.2⟩
theorem fr_X9_addBox {F : Nat} {σ : CSt} {x1 : Int32} {x2 : Int32} {x3 : Int32} {x4 : Int32} {r : Int32} {R : CSt}  (h : fc_X9_addBox F σ x1 x2 x3 x4 = some (r, R)) : Fr_X9_addBox σ R := by
  unfold fc_X9_addBox at h
  obtain ⟨r5, hc1, h⟩ := bd_some h
  rcases br_any h with h | h
  · obtain ⟨-, rfl⟩ := Prod.mk.inj (Option.some.inj h)
    exact Fr_X9_addBox.rf
  · obtain ⟨r25, hc2, h⟩ := bd_some h
    rcases br_any h with h | h
    · rcases br_any h with h | h
      · obtain ⟨σ52, hc3, h⟩ := bd_some h
        replace h := lt_e h
        replace h := lt_e h
        obtain ⟨σ88, hc4, h⟩ := bd_some h
        obtain ⟨-, rfl⟩ := Prod.mk.inj (Option.some.inj h)
        exact (((Fr_X9_addBox.rf.tr (Fr_X9_addBox.c_X9_remember (fr_X9_remember hc3))).tr (Fr_X9_addBox.s_cb _ _)).tr (Fr_X9_addBox.c_X1_putBox (fr_X1_putBox hc4)))
      · obtain ⟨-, rfl⟩ := Prod.mk.inj (Option.some.inj h)
        exact Fr_X9_addBox.rf
    · obtain ⟨-, rfl⟩ := Prod.mk.inj (Option.some.inj h)
      exact Fr_X9_addBox.rf
def Fr_X9_moveBox (σ σ' : CSt) : Prop := cs_cb σ' = cs_cb σ ∧ cs_cc σ' = cs_cc σ ∧ cs_cp σ' = cs_cp σ ∧ cs_cq σ' = cs_cq σ ∧ cs_cr σ' = cs_cr σ ∧ cs_run σ' = cs_run σ ∧ σ'.2.2.2.1 = σ.2.2.2.1 ∧ σ'.2.2.2.2.1 = σ.2.2.2.2.1 ∧ σ'.2.2.2.2.2.1 = σ.2.2.2.2.2.1 ∧ σ'.2.2.2.2.2.2.1 = σ.2.2.2.2.2.2.1 ∧ σ'.2.2.2.2.2.2.2.1 = σ.2.2.2.2.2.2.2.1 ∧ σ'.2.2.2.2.2.2.2.2.1 = σ.2.2.2.2.2.2.2.2.1 ∧ σ'.2.2.2.2.2.2.2.2.2 = σ.2.2.2.2.2.2.2.2.2
theorem Fr_X9_moveBox.rf {σ : CSt} : Fr_X9_moveBox σ σ := ⟨rfl, rfl, rfl, rfl, rfl, rfl, rfl, rfl, rfl, rfl, rfl, rfl, rfl⟩
theorem Fr_X9_moveBox.tr {a b c : CSt} (h : Fr_X9_moveBox a b) (h' : Fr_X9_moveBox b c) : Fr_X9_moveBox a c := ⟨h'.1.trans h.1, h'.2.1.trans h.2.1, h'.2.2.1.trans h.2.2.1, h'.2.2.2.1.trans h.2.2.2.1, h'.2.2.2.2.1.trans h.2.2.2.2.1, h'.2.2.2.2.2.1.trans h.2.2.2.2.2.1, h'.2.2.2.2.2.2.1.trans h.2.2.2.2.2.2.1, h'.2.2.2.2.2.2.2.1.trans h.2.2.2.2.2.2.2.1, h'.2.2.2.2.2.2.2.2.1.trans h.2.2.2.2.2.2.2.2.1, h'.2.2.2.2.2.2.2.2.2.1.trans h.2.2.2.2.2.2.2.2.2.1, h'.2.2.2.2.2.2.2.2.2.2.1.trans h.2.2.2.2.2.2.2.2.2.2.1, h'.2.2.2.2.2.2.2.2.2.2.2.1.trans h.2.2.2.2.2.2.2.2.2.2.2.1, h'.2.2.2.2.2.2.2.2.2.2.2.2.trans h.2.2.2.2.2.2.2.2.2.2.2.2⟩
theorem Fr_X9_moveBox.c_X1_putBox {σ σ' : CSt} (h : Fr_X1_putBox σ σ') : Fr_X9_moveBox σ σ' := ⟨h.1, h.2.1, h.2.2.1, h.2.2.2.1, h.2.2.2.2.1, congrArg (fun q : CT_hi => q.2.2) h.2.2.2.2.2.2.1, h.2.2.2.2.2.2.2.1, h.2.2.2.2.2.2.2.2.1, h.2.2.2.2.2.2.2.2.2.1, h.2.2.2.2.2.2.2.2.2.2.1, h.2.2.2.2.2.2.2.2.2.2.2.1, h.2.2.2.2.2.2.2.2.2.2.2.2.1, h.2.2.2.2.2.2.2.2.2.2.2.2.2⟩
theorem Fr_X9_moveBox.c_X9_remember {σ σ' : CSt} (h : Fr_X9_remember σ σ') : Fr_X9_moveBox σ σ' := ⟨congrArg (fun q : CT_cv => q.1) h.1, congrArg (fun q : CT_cv => q.2.1) h.1, congrArg (fun q : CT_cv => q.2.2.1) h.1, congrArg (fun q : CT_cv => q.2.2.2.2.1) h.1, congrArg (fun q : CT_cv => q.2.2.2.2.2) h.1, h.2.1, h.2.2.1, h.2.2.2.1, h.2.2.2.2.1, h.2.2.2.2.2.1, h.2.2.2.2.2.2.1, h.2.2.2.2.2.2.2.1, h.2.2.2.2.2.2.2.2⟩
theorem fr_X9_moveBox_L37 {F : Nat} {σ : CSt} {r : Int32} {R : CSt}  (h : fc_X9_moveBox_L37 F σ = some (r, R)) : Fr_X9_moveBox σ R := by
  unfold fc_X9_moveBox_L37 at h
  obtain ⟨-, rfl⟩ := Prod.mk.inj (Option.some.inj h)
  exact Fr_X9_moveBox.rf
theorem fr_X9_moveBox {F : Nat} {σ : CSt} {x1 : Int32} {x2 : Int32} {x3 : Int32} {r : Int32} {R : CSt}  (h : fc_X9_moveBox F σ x1 x2 x3 = some (r, R)) : Fr_X9_moveBox σ R := by
  unfold fc_X9_moveBox at h
  obtain ⟨r5, hc1, h⟩ := bd_some h
  rcases br_any h with h | h
  · obtain ⟨-, rfl⟩ := Prod.mk.inj (Option.some.inj h)
    exact Fr_X9_moveBox.rf
  · obtain ⟨r20, hc2, h⟩ := bd_some h
    rcases br_any h with h | h
    · exact Fr_X9_moveBox.rf.tr (fr_X9_moveBox_L37  h)
    · obtain ⟨r31, hc3, h⟩ := bd_some h
      rcases br_any h with h | h
      · exact Fr_X9_moveBox.rf.tr (fr_X9_moveBox_L37  h)
      · obtain ⟨r47, hc4, h⟩ := bd_some h
        replace h := lt_e h
        obtain ⟨r60, hc5, h⟩ := bd_some h
        replace h := lt_e h
        obtain ⟨r73, hc6, h⟩ := bd_some h
        replace h := lt_e h
        obtain ⟨r86, hc7, h⟩ := bd_some h
        replace h := lt_e h
        obtain ⟨r101, hc8, h⟩ := bd_some h
        rcases br_any h with h | h
        · obtain ⟨-, rfl⟩ := Prod.mk.inj (Option.some.inj h)
          exact Fr_X9_moveBox.rf
        · obtain ⟨r124, hc9, h⟩ := bd_some h
          rcases br_any h with h | h
          · obtain ⟨σ135, hc10, h⟩ := bd_some h
            obtain ⟨σ151, hc11, h⟩ := bd_some h
            obtain ⟨r158, hc12, h⟩ := bd_some h
            obtain ⟨r165, hc13, h⟩ := bd_some h
            obtain ⟨-, rfl⟩ := Prod.mk.inj (Option.some.inj h)
            exact ((Fr_X9_moveBox.rf.tr (Fr_X9_moveBox.c_X9_remember (fr_X9_remember hc10))).tr (Fr_X9_moveBox.c_X1_putBox (fr_X1_putBox hc11)))
          · obtain ⟨-, rfl⟩ := Prod.mk.inj (Option.some.inj h)
            exact Fr_X9_moveBox.rf
def Fr_X9_link (σ σ' : CSt) : Prop := cs_cb σ' = cs_cb σ ∧ cs_cp σ' = cs_cp σ ∧ cs_ce σ' = cs_ce σ ∧ cs_run σ' = cs_run σ ∧ σ'.2.2.2.1 = σ.2.2.2.1 ∧ σ'.2.2.2.2.1 = σ.2.2.2.2.1 ∧ σ'.2.2.2.2.2.1 = σ.2.2.2.2.2.1 ∧ σ'.2.2.2.2.2.2.1 = σ.2.2.2.2.2.2.1 ∧ σ'.2.2.2.2.2.2.2.1 = σ.2.2.2.2.2.2.2.1 ∧ σ'.2.2.2.2.2.2.2.2.1 = σ.2.2.2.2.2.2.2.2.1 ∧ σ'.2.2.2.2.2.2.2.2.2 = σ.2.2.2.2.2.2.2.2.2
theorem Fr_X9_link.rf {σ : CSt} : Fr_X9_link σ σ := ⟨rfl, rfl, rfl, rfl, rfl, rfl, rfl, rfl, rfl, rfl, rfl⟩
theorem Fr_X9_link.tr {a b c : CSt} (h : Fr_X9_link a b) (h' : Fr_X9_link b c) : Fr_X9_link a c := ⟨h'.1.trans h.1, h'.2.1.trans h.2.1, h'.2.2.1.trans h.2.2.1, h'.2.2.2.1.trans h.2.2.2.1, h'.2.2.2.2.1.trans h.2.2.2.2.1, h'.2.2.2.2.2.1.trans h.2.2.2.2.2.1, h'.2.2.2.2.2.2.1.trans h.2.2.2.2.2.2.1, h'.2.2.2.2.2.2.2.1.trans h.2.2.2.2.2.2.2.1, h'.2.2.2.2.2.2.2.2.1.trans h.2.2.2.2.2.2.2.2.1, h'.2.2.2.2.2.2.2.2.2.1.trans h.2.2.2.2.2.2.2.2.2.1, h'.2.2.2.2.2.2.2.2.2.2.trans h.2.2.2.2.2.2.2.2.2.2⟩
theorem Fr_X9_link.s_cc (σ : CSt) (v : Int32) : Fr_X9_link σ (cs_cc_s σ v) := ⟨rfl, rfl, rfl, rfl, rfl, rfl, rfl, rfl, rfl, rfl, rfl⟩
theorem Fr_X9_link.s_cr (σ : CSt) (v : (Nat → Option RV)) : Fr_X9_link σ (cs_cr_s σ v) := ⟨rfl, rfl, rfl, rfl, rfl, rfl, rfl, rfl, rfl, rfl, rfl⟩
theorem Fr_X9_link.c_X1_putPort {σ σ' : CSt} (h : Fr_X1_putPort σ σ') : Fr_X9_link σ σ' := ⟨h.1, h.2.2.1, h.2.2.2.1, congrArg (fun q : CT_hi => q.2.2) h.2.2.2.2.2.2.1, h.2.2.2.2.2.2.2.1, h.2.2.2.2.2.2.2.2.1, h.2.2.2.2.2.2.2.2.2.1, h.2.2.2.2.2.2.2.2.2.2.1, h.2.2.2.2.2.2.2.2.2.2.2.1, h.2.2.2.2.2.2.2.2.2.2.2.2.1, h.2.2.2.2.2.2.2.2.2.2.2.2.2⟩
theorem Fr_X9_link.c_X9_remember {σ σ' : CSt} (h : Fr_X9_remember σ σ') : Fr_X9_link σ σ' := ⟨congrArg (fun q : CT_cv => q.1) h.1, congrArg (fun q : CT_cv => q.2.2.1) h.1, congrArg (fun q : CT_cv => q.2.2.2.1) h.1, h.2.1, h.2.2.1, h.2.2.2.1, h.2.2.2.2.1, h.2.2.2.2.2.1, h.2.2.2.2.2.2.1, h.2.2.2.2.2.2.2.1, h.2.2.2.2.2.2.2.2⟩
theorem fr_X9_link_L82 {F : Nat} {σ : CSt} {x1 : Int32} {x2 : Int32} {x3 : Int32} {x4 : Int32} {x5 : Int32} {x6 : Int32} {r : Int32} {R : CSt}  (h : fc_X9_link_L82 F σ x1 x2 x3 x4 x5 x6 = some (r, R)) : Fr_X9_link σ R := by
  unfold fc_X9_link_L82 at h
  rcases br_any h with h | h
  · obtain ⟨σ99, hc1, h⟩ := bd_some h
    replace h := lt_e h
    replace h := lt_e h
    obtain ⟨-, h⟩ := gd_some h
    replace h := lt_e h
    obtain ⟨σ145, hc2, h⟩ := bd_some h
    obtain ⟨σ161, hc3, h⟩ := bd_some h
    obtain ⟨-, rfl⟩ := Prod.mk.inj (Option.some.inj h)
    exact (((((Fr_X9_link.rf.tr (Fr_X9_link.c_X9_remember (fr_X9_remember hc1))).tr (Fr_X9_link.s_cc _ _)).tr (Fr_X9_link.s_cr _ _)).tr (Fr_X9_link.c_X1_putPort (fr_X1_putPort hc2))).tr (Fr_X9_link.c_X1_putPort (fr_X1_putPort hc3)))
  · obtain ⟨-, rfl⟩ := Prod.mk.inj (Option.some.inj h)
    exact Fr_X9_link.rf
theorem fr_X9_link_L56 {F : Nat} {σ : CSt} {r : Int32} {R : CSt}  (h : fc_X9_link_L56 F σ = some (r, R)) : Fr_X9_link σ R := by
  unfold fc_X9_link_L56 at h
  obtain ⟨-, rfl⟩ := Prod.mk.inj (Option.some.inj h)
  exact Fr_X9_link.rf
theorem fr_X9_link_L23 {F : Nat} {σ : CSt} {r : Int32} {R : CSt}  (h : fc_X9_link_L23 F σ = some (r, R)) : Fr_X9_link σ R := by
  unfold fc_X9_link_L23 at h
  obtain ⟨-, rfl⟩ := Prod.mk.inj (Option.some.inj h)
  exact Fr_X9_link.rf
theorem fr_X9_link {F : Nat} {σ : CSt} {x1 : Int32} {x2 : Int32} {x3 : Int32} {x4 : Int32} {x5 : Int32} {x6 : Int32} {r : Int32} {R : CSt}  (h : fc_X9_link F σ x1 x2 x3 x4 x5 x6 = some (r, R)) : Fr_X9_link σ R := by
  unfold fc_X9_link at h
  obtain ⟨r5, hc1, h⟩ := bd_some h
  rcases br_any h with h | h
  · exact Fr_X9_link.rf.tr (fr_X9_link_L23  h)
  · obtain ⟨r17, hc2, h⟩ := bd_some h
    rcases br_any h with h | h
    · exact Fr_X9_link.rf.tr (fr_X9_link_L23  h)
    · obtain ⟨r34, hc3, h⟩ := bd_some h
      rcases br_any h with h | h
      · exact Fr_X9_link.rf.tr (fr_X9_link_L56  h)
      · obtain ⟨r50, hc4, h⟩ := bd_some h
        rcases br_any h with h | h
        · exact Fr_X9_link.rf.tr (fr_X9_link_L56  h)
        · rcases br_any h with h | h
          · rcases br_any h with h | h
            · rcases br_any h with h | h
              · obtain ⟨-, rfl⟩ := Prod.mk.inj (Option.some.inj h)
                exact Fr_X9_link.rf
              · exact Fr_X9_link.rf.tr (fr_X9_link_L82  h)
            · exact Fr_X9_link.rf.tr (fr_X9_link_L82  h)
          · exact Fr_X9_link.rf.tr (fr_X9_link_L82  h)
def Fr_X1_removeConnector (σ σ' : CSt) : Prop := cs_cb σ' = cs_cb σ ∧ cs_cp σ' = cs_cp σ ∧ cs_ce σ' = cs_ce σ ∧ σ'.2.1 = σ.2.1 ∧ σ'.2.2.1 = σ.2.2.1 ∧ σ'.2.2.2.1 = σ.2.2.2.1 ∧ σ'.2.2.2.2.1 = σ.2.2.2.2.1 ∧ σ'.2.2.2.2.2.1 = σ.2.2.2.2.2.1 ∧ σ'.2.2.2.2.2.2.1 = σ.2.2.2.2.2.2.1 ∧ σ'.2.2.2.2.2.2.2.1 = σ.2.2.2.2.2.2.2.1 ∧ σ'.2.2.2.2.2.2.2.2.1 = σ.2.2.2.2.2.2.2.2.1 ∧ σ'.2.2.2.2.2.2.2.2.2 = σ.2.2.2.2.2.2.2.2.2
theorem Fr_X1_removeConnector.rf {σ : CSt} : Fr_X1_removeConnector σ σ := ⟨rfl, rfl, rfl, rfl, rfl, rfl, rfl, rfl, rfl, rfl, rfl, rfl⟩
theorem Fr_X1_removeConnector.tr {a b c : CSt} (h : Fr_X1_removeConnector a b) (h' : Fr_X1_removeConnector b c) : Fr_X1_removeConnector a c := ⟨h'.1.trans h.1, h'.2.1.trans h.2.1, h'.2.2.1.trans h.2.2.1, h'.2.2.2.1.trans h.2.2.2.1, h'.2.2.2.2.1.trans h.2.2.2.2.1, h'.2.2.2.2.2.1.trans h.2.2.2.2.2.1, h'.2.2.2.2.2.2.1.trans h.2.2.2.2.2.2.1, h'.2.2.2.2.2.2.2.1.trans h.2.2.2.2.2.2.2.1, h'.2.2.2.2.2.2.2.2.1.trans h.2.2.2.2.2.2.2.2.1, h'.2.2.2.2.2.2.2.2.2.1.trans h.2.2.2.2.2.2.2.2.2.1, h'.2.2.2.2.2.2.2.2.2.2.1.trans h.2.2.2.2.2.2.2.2.2.2.1, h'.2.2.2.2.2.2.2.2.2.2.2.trans h.2.2.2.2.2.2.2.2.2.2.2⟩
theorem Fr_X1_removeConnector.s_cc (σ : CSt) (v : Int32) : Fr_X1_removeConnector σ (cs_cc_s σ v) := ⟨rfl, rfl, rfl, rfl, rfl, rfl, rfl, rfl, rfl, rfl, rfl, rfl⟩
theorem Fr_X1_removeConnector.s_cq (σ : CSt) (v : (Nat → Int32)) : Fr_X1_removeConnector σ (cs_cq_s σ v) := ⟨rfl, rfl, rfl, rfl, rfl, rfl, rfl, rfl, rfl, rfl, rfl, rfl⟩
theorem Fr_X1_removeConnector.s_cr (σ : CSt) (v : (Nat → Option RV)) : Fr_X1_removeConnector σ (cs_cr_s σ v) := ⟨rfl, rfl, rfl, rfl, rfl, rfl, rfl, rfl, rfl, rfl, rfl, rfl⟩
theorem fr_X1_removeConnector_L12_c {F : Nat} {k12 : CSt → Int32 → Option (CSt)} {σ : CSt} {x2 : Int32} {R : CSt} (hk12 : ∀ {y0 : CSt} {y1 : Int32}, k12 y0 y1 = some R → Fr_X1_removeConnector y0 R) (h : fc_X1_removeConnector_L12_c F k12 σ x2 = some R) : Fr_X1_removeConnector σ R := by
  unfold fc_X1_removeConnector_L12_c at h
  rcases br_any h with h | h
  · obtain ⟨-, h⟩ := gd_some h
    replace h := lt_e h
    obtain rfl := Option.some.inj h
    exact (Fr_X1_removeConnector.rf.tr (Fr_X1_removeConnector.s_cr _ _))
  · obtain ⟨-, h⟩ := gd_some h
    replace h := lt_e h
    obtain ⟨-, h⟩ := gd_some h
    rcases mo_any h with h | ⟨v55, h⟩
    · obtain ⟨-, h⟩ := gd_some h
      replace h := lt_e h
      replace h := lt_e h
      exact ((Fr_X1_removeConnector.rf.tr (Fr_X1_removeConnector.s_cq _ _)).tr (Fr_X1_removeConnector.s_cr _ _)).tr (hk12 h)
    · obtain ⟨-, h⟩ := gd_some h
      replace h := lt_e h
      replace h := lt_e h
      exact ((Fr_X1_removeConnector.rf.tr (Fr_X1_removeConnector.s_cq _ _)).tr (Fr_X1_removeConnector.s_cr _ _)).tr (hk12 h)
theorem fr_X1_removeConnector_L12 {F : Nat} {n : Nat} {σ : CSt} {x2 : Int32} {R : CSt}  (h : fc_X1_removeConnector_L12 F n σ x2 = some R) : Fr_X1_removeConnector σ R := by
  induction n generalizing σ x2 with
  | zero => cases (show (none : Option _) = _ from h)
  | succ n ih => exact fr_X1_removeConnector_L12_c  (fun h9 => ih h9) (show fc_X1_removeConnector_L12_c F (fc_X1_removeConnector_L12 F n) σ x2 = some R from h)
theorem fr_X1_removeConnector {F : Nat} {σ : CSt} {x1 : Int32} {R : CSt}  (h : fc_X1_removeConnector F σ x1 = some R) : Fr_X1_removeConnector σ R := by
  unfold fc_X1_removeConnector at h
  replace h := lt_e h
  exact (Fr_X1_removeConnector.rf.tr (Fr_X1_removeConnector.s_cc _ _)).tr (fr_X1_removeConnector_L12  h)
def Fr_X9_drop (σ σ' : CSt) : Prop := cs_cb σ' = cs_cb σ ∧ cs_cp σ' = cs_cp σ ∧ cs_ce σ' = cs_ce σ ∧ cs_run σ' = cs_run σ ∧ σ'.2.2.2.1 = σ.2.2.2.1 ∧ σ'.2.2.2.2.1 = σ.2.2.2.2.1 ∧ σ'.2.2.2.2.2.1 = σ.2.2.2.2.2.1 ∧ σ'.2.2.2.2.2.2.1 = σ.2.2.2.2.2.2.1 ∧ σ'.2.2.2.2.2.2.2.1 = σ.2.2.2.2.2.2.2.1 ∧ σ'.2.2.2.2.2.2.2.2.1 = σ.2.2.2.2.2.2.2.2.1 ∧ σ'.2.2.2.2.2.2.2.2.2 = σ.2.2.2.2.2.2.2.2.2
theorem Fr_X9_drop.rf {σ : CSt} : Fr_X9_drop σ σ := ⟨rfl, rfl, rfl, rfl, rfl, rfl, rfl, rfl, rfl, rfl, rfl⟩
theorem Fr_X9_drop.tr {a b c : CSt} (h : Fr_X9_drop a b) (h' : Fr_X9_drop b c) : Fr_X9_drop a c := ⟨h'.1.trans h.1, h'.2.1.trans h.2.1, h'.2.2.1.trans h.2.2.1, h'.2.2.2.1.trans h.2.2.2.1, h'.2.2.2.2.1.trans h.2.2.2.2.1, h'.2.2.2.2.2.1.trans h.2.2.2.2.2.1, h'.2.2.2.2.2.2.1.trans h.2.2.2.2.2.2.1, h'.2.2.2.2.2.2.2.1.trans h.2.2.2.2.2.2.2.1, h'.2.2.2.2.2.2.2.2.1.trans h.2.2.2.2.2.2.2.2.1, h'.2.2.2.2.2.2.2.2.2.1.trans h.2.2.2.2.2.2.2.2.2.1, h'.2.2.2.2.2.2.2.2.2.2.trans h.2.2.2.2.2.2.2.2.2.2⟩
theorem Fr_X9_drop.c_X1_removeConnector {σ σ' : CSt} (h : Fr_X1_removeConnector σ σ') : Fr_X9_drop σ σ' := ⟨h.1, h.2.1, h.2.2.1, congrArg (fun q : CT_hi => q.2.2) h.2.2.2.2.1, h.2.2.2.2.2.1, h.2.2.2.2.2.2.1, h.2.2.2.2.2.2.2.1, h.2.2.2.2.2.2.2.2.1, h.2.2.2.2.2.2.2.2.2.1, h.2.2.2.2.2.2.2.2.2.2.1, h.2.2.2.2.2.2.2.2.2.2.2⟩
theorem Fr_X9_drop.c_X9_remember {σ σ' : CSt} (h : Fr_X9_remember σ σ') : Fr_X9_drop σ σ' := ⟨congrArg (fun q : CT_cv => q.1) h.1, congrArg (fun q : CT_cv => q.2.2.1) h.1, congrArg (fun q : CT_cv => q.2.2.2.1) h.1, h.2.1, h.2.2.1, h.2.2.2.1, h.2.2.2.2.1, h.2.2.2.2.2.1, h.2.2.2.2.2.2.1, h.2.2.2.2.2.2.2.1, h.2.2.2.2.2.2.2.2⟩
theorem fr_X9_drop {F : Nat} {σ : CSt} {x1 : Int32} {r : Int32} {R : CSt}  (h : fc_X9_drop F σ x1 = some (r, R)) : Fr_X9_drop σ R := by
  unfold fc_X9_drop at h
  obtain ⟨r5, hc1, h⟩ := bd_some h
  rcases br_any h with h | h
  · obtain ⟨-, rfl⟩ := Prod.mk.inj (Option.some.inj h)
    exact Fr_X9_drop.rf
  · obtain ⟨σ16, hc2, h⟩ := bd_some h
    obtain ⟨σ24, hc3, h⟩ := bd_some h
    obtain ⟨-, rfl⟩ := Prod.mk.inj (Option.some.inj h)
    exact ((Fr_X9_drop.rf.tr (Fr_X9_drop.c_X9_remember (fr_X9_remember hc2))).tr (Fr_X9_drop.c_X1_removeConnector (fr_X1_removeConnector hc3)))
def Fr_X9_setPenalty (σ σ' : CSt) : Prop := cs_cb σ' = cs_cb σ ∧ cs_cc σ' = cs_cc σ ∧ cs_ce σ' = cs_ce σ ∧ cs_cq σ' = cs_cq σ ∧ cs_cr σ' = cs_cr σ ∧ cs_run σ' = cs_run σ ∧ σ'.2.2.2.1 = σ.2.2.2.1 ∧ σ'.2.2.2.2.1 = σ.2.2.2.2.1 ∧ σ'.2.2.2.2.2.1 = σ.2.2.2.2.2.1 ∧ σ'.2.2.2.2.2.2.1 = σ.2.2.2.2.2.2.1 ∧ σ'.2.2.2.2.2.2.2.1 = σ.2.2.2.2.2.2.2.1 ∧ σ'.2.2.2.2.2.2.2.2.1 = σ.2.2.2.2.2.2.2.2.1 ∧ σ'.2.2.2.2.2.2.2.2.2 = σ.2.2.2.2.2.2.2.2.2
theorem Fr_X9_setPenalty.rf {σ : CSt} : Fr_X9_setPenalty σ σ := ⟨rfl, rfl, rfl, rfl, rfl, rfl, rfl, rfl, rfl, rfl, rfl, rfl, rfl⟩
theorem Fr_X9_setPenalty.tr {a b c : CSt} (h : Fr_X9_setPenalty a b) (h' : Fr_X9_setPenalty b c) : Fr_X9_setPenalty a c := ⟨h'.1.trans h.1, h'.2.1.trans h.2.1, h'.2.2.1.trans h.2.2.1, h'.2.2.2.1.trans h.2.2.2.1, h'.2.2.2.2.1.trans h.2.2.2.2.1, h'.2.2.2.2.2.1.trans h.2.2.2.2.2.1, h'.2.2.2.2.2.2.1.trans h.2.2.2.2.2.2.1, h'.2.2.2.2.2.2.2.1.trans h.2.2.2.2.2.2.2.1, h'.2.2.2.2.2.2.2.2.1.trans h.2.2.2.2.2.2.2.2.1, h'.2.2.2.2.2.2.2.2.2.1.trans h.2.2.2.2.2.2.2.2.2.1, h'.2.2.2.2.2.2.2.2.2.2.1.trans h.2.2.2.2.2.2.2.2.2.2.1, h'.2.2.2.2.2.2.2.2.2.2.2.1.trans h.2.2.2.2.2.2.2.2.2.2.2.1, h'.2.2.2.2.2.2.2.2.2.2.2.2.trans h.2.2.2.2.2.2.2.2.2.2.2.2⟩
theorem Fr_X9_setPenalty.s_cp (σ : CSt) (v : Int32) : Fr_X9_setPenalty σ (cs_cp_s σ v) := ⟨rfl, rfl, rfl, rfl, rfl, rfl, rfl, rfl, rfl, rfl, rfl, rfl, rfl⟩
theorem Fr_X9_setPenalty.c_X9_remember {σ σ' : CSt} (h : Fr_X9_remember σ σ') : Fr_X9_setPenalty σ σ' := ⟨congrArg (fun q : CT_cv => q.1) h.1, congrArg (fun q : CT_cv => q.2.1) h.1, congrArg (fun q : CT_cv => q.2.2.2.1) h.1, congrArg (fun q : CT_cv => q.2.2.2.2.1) h.1, congrArg (fun q : CT_cv => q.2.2.2.2.2) h.1, h.2.1, h.2.2.1, h.2.2.2.1, h.2.2.2.2.1, h.2.2.2.2.2.1, h.2.2.2.2.2.2.1, h.2.2.2.2.2.2.2.1, h.2.2.2.2.2.2.2.2⟩
theorem fr_X9_setPenalty {F : Nat} {σ : CSt} {x1 : Int32} {r : Int32} {R : CSt}  (h : fc_X9_setPenalty F σ x1 = some (r, R)) : Fr_X9_setPenalty σ R := by
  unfold fc_X9_setPenalty at h
  obtain ⟨r4, hc1, h⟩ := bd_some h
  rcases br_any h with h | h
  · obtain ⟨-, rfl⟩ := Prod.mk.inj (Option.some.inj h)
    exact Fr_X9_setPenalty.rf
  · obtain ⟨σ15, hc2, h⟩ := bd_some h
    replace h := lt_e h
    replace h := lt_e h
    obtain ⟨-, rfl⟩ := Prod.mk.inj (Option.some.inj h)
    exact ((Fr_X9_setPenalty.rf.tr (Fr_X9_setPenalty.c_X9_remember (fr_X9_remember hc2))).tr (Fr_X9_setPenalty.s_cp _ _))
def Fr_J7_fill_53178_24 (σ σ' : CSt) : Prop := σ'.1 = σ.1 ∧ σ'.2.1 = σ.2.1 ∧ σ'.2.2.1 = σ.2.2.1 ∧ cs_fpen σ' = cs_fpen σ ∧ cs_fstart σ' = cs_fstart σ ∧ cs_fss σ' = cs_fss σ ∧ cs_fgoal σ' = cs_fgoal σ ∧ cs_fgs σ' = cs_fgs σ ∧ cs_fcx σ' = cs_fcx σ ∧ cs_fcy σ' = cs_fcy σ ∧ cs_fcn σ' = cs_fcn σ ∧ σ'.2.2.2.2.1 = σ.2.2.2.2.1 ∧ σ'.2.2.2.2.2.1 = σ.2.2.2.2.2.1 ∧ σ'.2.2.2.2.2.2.1 = σ.2.2.2.2.2.2.1 ∧ σ'.2.2.2.2.2.2.2.1 = σ.2.2.2.2.2.2.2.1 ∧ σ'.2.2.2.2.2.2.2.2.1 = σ.2.2.2.2.2.2.2.2.1 ∧ σ'.2.2.2.2.2.2.2.2.2 = σ.2.2.2.2.2.2.2.2.2
theorem Fr_J7_fill_53178_24.rf {σ : CSt} : Fr_J7_fill_53178_24 σ σ := ⟨rfl, rfl, rfl, rfl, rfl, rfl, rfl, rfl, rfl, rfl, rfl, rfl, rfl, rfl, rfl, rfl, rfl⟩
theorem Fr_J7_fill_53178_24.tr {a b c : CSt} (h : Fr_J7_fill_53178_24 a b) (h' : Fr_J7_fill_53178_24 b c) : Fr_J7_fill_53178_24 a c := ⟨h'.1.trans h.1, h'.2.1.trans h.2.1, h'.2.2.1.trans h.2.2.1, h'.2.2.2.1.trans h.2.2.2.1, h'.2.2.2.2.1.trans h.2.2.2.2.1, h'.2.2.2.2.2.1.trans h.2.2.2.2.2.1, h'.2.2.2.2.2.2.1.trans h.2.2.2.2.2.2.1, h'.2.2.2.2.2.2.2.1.trans h.2.2.2.2.2.2.2.1, h'.2.2.2.2.2.2.2.2.1.trans h.2.2.2.2.2.2.2.2.1, h'.2.2.2.2.2.2.2.2.2.1.trans h.2.2.2.2.2.2.2.2.2.1, h'.2.2.2.2.2.2.2.2.2.2.1.trans h.2.2.2.2.2.2.2.2.2.2.1, h'.2.2.2.2.2.2.2.2.2.2.2.1.trans h.2.2.2.2.2.2.2.2.2.2.2.1, h'.2.2.2.2.2.2.2.2.2.2.2.2.1.trans h.2.2.2.2.2.2.2.2.2.2.2.2.1, h'.2.2.2.2.2.2.2.2.2.2.2.2.2.1.trans h.2.2.2.2.2.2.2.2.2.2.2.2.2.1, h'.2.2.2.2.2.2.2.2.2.2.2.2.2.2.1.trans h.2.2.2.2.2.2.2.2.2.2.2.2.2.2.1, h'.2.2.2.2.2.2.2.2.2.2.2.2.2.2.2.1.trans h.2.2.2.2.2.2.2.2.2.2.2.2.2.2.2.1, h'.2.2.2.2.2.2.2.2.2.2.2.2.2.2.2.2.trans h.2.2.2.2.2.2.2.2.2.2.2.2.2.2.2.2⟩
theorem Fr_J7_fill_53178_24.u_frests (σ : CSt) (i x : Int32) : Fr_J7_fill_53178_24 σ (sc_frests σ i x) := ⟨rfl, rfl, rfl, rfl, rfl, rfl, rfl, rfl, rfl, rfl, rfl, rfl, rfl, rfl, rfl, rfl, rfl⟩
theorem fr_J7_fill_53178_24_L5_c {F : Nat} {k5 : CSt → Int32 → Int32 → Int32 → Option (CSt)} {σ : CSt} {x1 : Int32} {x2 : Int32} {x3 : Int32} {R : CSt} (hk5 : ∀ {y0 : CSt} {y1 : Int32} {y2 : Int32} {y3 : Int32}, k5 y0 y1 y2 y3 = some R → Fr_J7_fill_53178_24 y0 R) (h : fc_J7_fill_53178_24_L5_c F k5 σ x1 x2 x3 = some R) : Fr_J7_fill_53178_24 σ R := by
  unfold fc_J7_fill_53178_24_L5_c at h
  rcases br_any h with h | h
  · obtain rfl := Option.some.inj h
    exact Fr_J7_fill_53178_24.rf
  · obtain ⟨-, h⟩ := gd_some h
    replace h := lt_e h
    replace h := lt_e h
    exact (Fr_J7_fill_53178_24.rf.tr (Fr_J7_fill_53178_24.u_frests _ _ _)).tr (hk5 h)
theorem fr_J7_fill_53178_24_L5 {F : Nat} {n : Nat} {σ : CSt} {x1 : Int32} {x2 : Int32} {x3 : Int32} {R : CSt}  (h : fc_J7_fill_53178_24_L5 F n σ x1 x2 x3 = some R) : Fr_J7_fill_53178_24 σ R := by
  induction n generalizing σ x1 x2 x3 with
  | zero => cases (show (none : Option _) = _ from h)
  | succ n ih => exact fr_J7_fill_53178_24_L5_c  (fun h9 => ih h9) (show fc_J7_fill_53178_24_L5_c F (fc_J7_fill_53178_24_L5 F n) σ x1 x2 x3 = some R from h)
theorem fr_J7_fill_53178_24 {F : Nat} {σ : CSt} {x1 : Int32} {R : CSt}  (h : fc_J7_fill_53178_24 F σ x1 = some R) : Fr_J7_fill_53178_24 σ R := by
  unfold fc_J7_fill_53178_24 at h
  exact Fr_J7_fill_53178_24.rf.tr (fr_J7_fill_53178_24_L5  h)
def Fr_J7_fill_53178_33 (σ σ' : CSt) : Prop := σ'.1 = σ.1 ∧ σ'.2.1 = σ.2.1 ∧ σ'.2.2.1 = σ.2.2.1 ∧ σ'.2.2.2.1 = σ.2.2.2.1 ∧ σ'.2.2.2.2.1 = σ.2.2.2.2.1 ∧ cs_wre σ' = cs_wre σ ∧ cs_wnx σ' = cs_wnx σ ∧ cs_wpv σ' = cs_wpv σ ∧ σ'.2.2.2.2.2.2.1 = σ.2.2.2.2.2.2.1 ∧ σ'.2.2.2.2.2.2.2.1 = σ.2.2.2.2.2.2.2.1 ∧ σ'.2.2.2.2.2.2.2.2.1 = σ.2.2.2.2.2.2.2.2.1 ∧ σ'.2.2.2.2.2.2.2.2.2 = σ.2.2.2.2.2.2.2.2.2
theorem Fr_J7_fill_53178_33.rf {σ : CSt} : Fr_J7_fill_53178_33 σ σ := ⟨rfl, rfl, rfl, rfl, rfl, rfl, rfl, rfl, rfl, rfl, rfl, rfl⟩
theorem Fr_J7_fill_53178_33.tr {a b c : CSt} (h : Fr_J7_fill_53178_33 a b) (h' : Fr_J7_fill_53178_33 b c) : Fr_J7_fill_53178_33 a c := ⟨h'.1.trans h.1, h'.2.1.trans h.2.1, h'.2.2.1.trans h.2.2.1, h'.2.2.2.1.trans h.2.2.2.1, h'.2.2.2.2.1.trans h.2.2.2.2.1, h'.2.2.2.2.2.1.trans h.2.2.2.2.2.1, h'.2.2.2.2.2.2.1.trans h.2.2.2.2.2.2.1, h'.2.2.2.2.2.2.2.1.trans h.2.2.2.2.2.2.2.1, h'.2.2.2.2.2.2.2.2.1.trans h.2.2.2.2.2.2.2.2.1, h'.2.2.2.2.2.2.2.2.2.1.trans h.2.2.2.2.2.2.2.2.2.1, h'.2.2.2.2.2.2.2.2.2.2.1.trans h.2.2.2.2.2.2.2.2.2.2.1, h'.2.2.2.2.2.2.2.2.2.2.2.trans h.2.2.2.2.2.2.2.2.2.2.2⟩
theorem Fr_J7_fill_53178_33.u_whd (σ : CSt) (i x : Int32) : Fr_J7_fill_53178_33 σ (sc_whd σ i x) := ⟨rfl, rfl, rfl, rfl, rfl, rfl, rfl, rfl, rfl, rfl, rfl, rfl⟩
theorem fr_J7_fill_53178_33_L5_c {F : Nat} {k5 : CSt → Int32 → Int32 → Int32 → Option (CSt)} {σ : CSt} {x1 : Int32} {x2 : Int32} {x3 : Int32} {R : CSt} (hk5 : ∀ {y0 : CSt} {y1 : Int32} {y2 : Int32} {y3 : Int32}, k5 y0 y1 y2 y3 = some R → Fr_J7_fill_53178_33 y0 R) (h : fc_J7_fill_53178_33_L5_c F k5 σ x1 x2 x3 = some R) : Fr_J7_fill_53178_33 σ R := by
  unfold fc_J7_fill_53178_33_L5_c at h
  rcases br_any h with h | h
  · obtain rfl := Option.some.inj h
    exact Fr_J7_fill_53178_33.rf
  · obtain ⟨-, h⟩ := gd_some h
    replace h := lt_e h
    replace h := lt_e h
    exact (Fr_J7_fill_53178_33.rf.tr (Fr_J7_fill_53178_33.u_whd _ _ _)).tr (hk5 h)
theorem fr_J7_fill_53178_33_L5 {F : Nat} {n : Nat} {σ : CSt} {x1 : Int32} {x2 : Int32} {x3 : Int32} {R : CSt}  (h : fc_J7_fill_53178_33_L5 F n σ x1 x2 x3 = some R) : Fr_J7_fill_53178_33 σ R := by
  induction n generalizing σ x1 x2 x3 with
  | zero => cases (show (none : Option _) = _ from h)
  | succ n ih => exact fr_J7_fill_53178_33_L5_c  (fun h9 => ih h9) (show fc_J7_fill_53178_33_L5_c F (fc_J7_fill_53178_33_L5 F n) σ x1 x2 x3 = some R from h)
theorem fr_J7_fill_53178_33 {F : Nat} {σ : CSt} {x1 : Int32} {R : CSt}  (h : fc_J7_fill_53178_33 F σ x1 = some R) : Fr_J7_fill_53178_33 σ R := by
  unfold fc_J7_fill_53178_33 at h
  exact Fr_J7_fill_53178_33.rf.tr (fr_J7_fill_53178_33_L5  h)
def Fr_X7_clear (σ σ' : CSt) : Prop := σ'.1 = σ.1 ∧ σ'.2.1 = σ.2.1 ∧ σ'.2.2.1 = σ.2.2.1 ∧ σ'.2.2.2.1 = σ.2.2.2.1 ∧ σ'.2.2.2.2.1 = σ.2.2.2.2.1 ∧ cs_wnx σ' = cs_wnx σ ∧ cs_wpv σ' = cs_wpv σ ∧ σ'.2.2.2.2.2.2.1 = σ.2.2.2.2.2.2.1 ∧ σ'.2.2.2.2.2.2.2.1 = σ.2.2.2.2.2.2.2.1 ∧ σ'.2.2.2.2.2.2.2.2.1 = σ.2.2.2.2.2.2.2.2.1 ∧ σ'.2.2.2.2.2.2.2.2.2 = σ.2.2.2.2.2.2.2.2.2
theorem Fr_X7_clear.rf {σ : CSt} : Fr_X7_clear σ σ := ⟨rfl, rfl, rfl, rfl, rfl, rfl, rfl, rfl, rfl, rfl, rfl⟩
theorem Fr_X7_clear.tr {a b c : CSt} (h : Fr_X7_clear a b) (h' : Fr_X7_clear b c) : Fr_X7_clear a c := ⟨h'.1.trans h.1, h'.2.1.trans h.2.1, h'.2.2.1.trans h.2.2.1, h'.2.2.2.1.trans h.2.2.2.1, h'.2.2.2.2.1.trans h.2.2.2.2.1, h'.2.2.2.2.2.1.trans h.2.2.2.2.2.1, h'.2.2.2.2.2.2.1.trans h.2.2.2.2.2.2.1, h'.2.2.2.2.2.2.2.1.trans h.2.2.2.2.2.2.2.1, h'.2.2.2.2.2.2.2.2.1.trans h.2.2.2.2.2.2.2.2.1, h'.2.2.2.2.2.2.2.2.2.1.trans h.2.2.2.2.2.2.2.2.2.1, h'.2.2.2.2.2.2.2.2.2.2.trans h.2.2.2.2.2.2.2.2.2.2⟩
theorem Fr_X7_clear.s_wre (σ : CSt) (v : Int32) : Fr_X7_clear σ (cs_wre_s σ v) := ⟨rfl, rfl, rfl, rfl, rfl, rfl, rfl, rfl, rfl, rfl, rfl⟩
theorem Fr_X7_clear.c_J7_fill_53178_33 {σ σ' : CSt} (h : Fr_J7_fill_53178_33 σ σ') : Fr_X7_clear σ σ' := ⟨h.1, h.2.1, h.2.2.1, h.2.2.2.1, h.2.2.2.2.1, h.2.2.2.2.2.2.1, h.2.2.2.2.2.2.2.1, h.2.2.2.2.2.2.2.2.1, h.2.2.2.2.2.2.2.2.2.1, h.2.2.2.2.2.2.2.2.2.2.1, h.2.2.2.2.2.2.2.2.2.2.2⟩
theorem fr_X7_clear {F : Nat} {σ : CSt} {R : CSt}  (h : fc_X7_clear F σ = some R) : Fr_X7_clear σ R := by
  unfold fc_X7_clear at h
  replace h := lt_e h
  obtain ⟨σ10, hc1, h⟩ := bd_some h
  obtain rfl := Option.some.inj h
  exact ((Fr_X7_clear.rf.tr (Fr_X7_clear.s_wre _ _)).tr (Fr_X7_clear.c_J7_fill_53178_33 (fr_J7_fill_53178_33 hc1)))
def Fr_X8_prepare (σ σ' : CSt) : Prop := σ'.1 = σ.1 ∧ σ'.2.1 = σ.2.1 ∧ σ'.2.2.1 = σ.2.2.1 ∧ cs_fcx σ' = cs_fcx σ ∧ cs_fcy σ' = cs_fcy σ ∧ cs_fcn σ' = cs_fcn σ ∧ cs_wnx σ' = cs_wnx σ ∧ cs_wpv σ' = cs_wpv σ ∧ σ'.2.2.2.2.2.2.1 = σ.2.2.2.2.2.2.1 ∧ σ'.2.2.2.2.2.2.2.1 = σ.2.2.2.2.2.2.2.1 ∧ σ'.2.2.2.2.2.2.2.2.1 = σ.2.2.2.2.2.2.2.2.1 ∧ σ'.2.2.2.2.2.2.2.2.2 = σ.2.2.2.2.2.2.2.2.2
theorem Fr_X8_prepare.rf {σ : CSt} : Fr_X8_prepare σ σ := ⟨rfl, rfl, rfl, rfl, rfl, rfl, rfl, rfl, rfl, rfl, rfl, rfl⟩
theorem Fr_X8_prepare.tr {a b c : CSt} (h : Fr_X8_prepare a b) (h' : Fr_X8_prepare b c) : Fr_X8_prepare a c := ⟨h'.1.trans h.1, h'.2.1.trans h.2.1, h'.2.2.1.trans h.2.2.1, h'.2.2.2.1.trans h.2.2.2.1, h'.2.2.2.2.1.trans h.2.2.2.2.1, h'.2.2.2.2.2.1.trans h.2.2.2.2.2.1, h'.2.2.2.2.2.2.1.trans h.2.2.2.2.2.2.1, h'.2.2.2.2.2.2.2.1.trans h.2.2.2.2.2.2.2.1, h'.2.2.2.2.2.2.2.2.1.trans h.2.2.2.2.2.2.2.2.1, h'.2.2.2.2.2.2.2.2.2.1.trans h.2.2.2.2.2.2.2.2.2.1, h'.2.2.2.2.2.2.2.2.2.2.1.trans h.2.2.2.2.2.2.2.2.2.2.1, h'.2.2.2.2.2.2.2.2.2.2.2.trans h.2.2.2.2.2.2.2.2.2.2.2⟩
theorem Fr_X8_prepare.s_fgoal (σ : CSt) (v : Int32) : Fr_X8_prepare σ (cs_fgoal_s σ v) := ⟨rfl, rfl, rfl, rfl, rfl, rfl, rfl, rfl, rfl, rfl, rfl, rfl⟩
theorem Fr_X8_prepare.s_fgs (σ : CSt) (v : Int32) : Fr_X8_prepare σ (cs_fgs_s σ v) := ⟨rfl, rfl, rfl, rfl, rfl, rfl, rfl, rfl, rfl, rfl, rfl, rfl⟩
theorem Fr_X8_prepare.s_fpen (σ : CSt) (v : Int32) : Fr_X8_prepare σ (cs_fpen_s σ v) := ⟨rfl, rfl, rfl, rfl, rfl, rfl, rfl, rfl, rfl, rfl, rfl, rfl⟩
theorem Fr_X8_prepare.s_fss (σ : CSt) (v : Int32) : Fr_X8_prepare σ (cs_fss_s σ v) := ⟨rfl, rfl, rfl, rfl, rfl, rfl, rfl, rfl, rfl, rfl, rfl, rfl⟩
theorem Fr_X8_prepare.s_fstart (σ : CSt) (v : Int32) : Fr_X8_prepare σ (cs_fstart_s σ v) := ⟨rfl, rfl, rfl, rfl, rfl, rfl, rfl, rfl, rfl, rfl, rfl, rfl⟩
theorem Fr_X8_prepare.c_J7_fill_53178_24 {σ σ' : CSt} (h : Fr_J7_fill_53178_24 σ σ') : Fr_X8_prepare σ σ' := ⟨h.1, h.2.1, h.2.2.1, h.2.2.2.2.2.2.2.2.1, h.2.2.2.2.2.2.2.2.2.1, h.2.2.2.2.2.2.2.2.2.2.1, congrArg (fun q : CT_wa => q.2.2.1) h.2.2.2.2.2.2.2.2.2.2.2.2.1, congrArg (fun q : CT_wa => q.2.2.2) h.2.2.2.2.2.2.2.2.2.2.2.2.1, h.2.2.2.2.2.2.2.2.2.2.2.2.2.1, h.2.2.2.2.2.2.2.2.2.2.2.2.2.2.1, h.2.2.2.2.2.2.2.2.2.2.2.2.2.2.2.1, h.2.2.2.2.2.2.2.2.2.2.2.2.2.2.2.2⟩
theorem Fr_X8_prepare.c_X4_addLinesAround {σ σ' : CSt} (h : Fr_X4_addLinesAround σ σ') : Fr_X8_prepare σ σ' := ⟨h.1, h.2.1, h.2.2.1, congrArg (fun q : CT_fi => q.2.2.2.2.2.2.1) h.2.2.2.1, congrArg (fun q : CT_fi => q.2.2.2.2.2.2.2.1) h.2.2.2.1, congrArg (fun q : CT_fi => q.2.2.2.2.2.2.2.2) h.2.2.2.1, congrArg (fun q : CT_wa => q.2.2.1) h.2.2.2.2.2.2.1, congrArg (fun q : CT_wa => q.2.2.2) h.2.2.2.2.2.2.1, h.2.2.2.2.2.2.2.1, h.2.2.2.2.2.2.2.2.1, h.2.2.2.2.2.2.2.2.2.1, h.2.2.2.2.2.2.2.2.2.2⟩
theorem Fr_X8_prepare.c_X4_addLinesThrough {σ σ' : CSt} (h : Fr_X4_addLinesThrough σ σ') : Fr_X8_prepare σ σ' := ⟨h.1, h.2.1, h.2.2.1, congrArg (fun q : CT_fi => q.2.2.2.2.2.2.1) h.2.2.2.1, congrArg (fun q : CT_fi => q.2.2.2.2.2.2.2.1) h.2.2.2.1, congrArg (fun q : CT_fi => q.2.2.2.2.2.2.2.2) h.2.2.2.1, congrArg (fun q : CT_wa => q.2.2.1) h.2.2.2.2.2.2.1, congrArg (fun q : CT_wa => q.2.2.2) h.2.2.2.2.2.2.1, h.2.2.2.2.2.2.2.1, h.2.2.2.2.2.2.2.2.1, h.2.2.2.2.2.2.2.2.2.1, h.2.2.2.2.2.2.2.2.2.2⟩
theorem Fr_X8_prepare.c_X4_clear {σ σ' : CSt} (h : Fr_X4_clear σ σ') : Fr_X8_prepare σ σ' := ⟨h.1, h.2.1, h.2.2.1, congrArg (fun q : CT_fi => q.2.2.2.2.2.2.1) h.2.2.2.1, congrArg (fun q : CT_fi => q.2.2.2.2.2.2.2.1) h.2.2.2.1, congrArg (fun q : CT_fi => q.2.2.2.2.2.2.2.2) h.2.2.2.1, congrArg (fun q : CT_wa => q.2.2.1) h.2.2.2.2.2.2.2.2.1, congrArg (fun q : CT_wa => q.2.2.2) h.2.2.2.2.2.2.2.2.1, h.2.2.2.2.2.2.2.2.2.1, h.2.2.2.2.2.2.2.2.2.2.1, h.2.2.2.2.2.2.2.2.2.2.2.1, h.2.2.2.2.2.2.2.2.2.2.2.2⟩
theorem Fr_X8_prepare.c_X4_joinNodes {σ σ' : CSt} (h : Fr_X4_joinNodes σ σ') : Fr_X8_prepare σ σ' := ⟨h.1, h.2.1, h.2.2.1, congrArg (fun q : CT_fi => q.2.2.2.2.2.2.1) h.2.2.2.1, congrArg (fun q : CT_fi => q.2.2.2.2.2.2.2.1) h.2.2.2.1, congrArg (fun q : CT_fi => q.2.2.2.2.2.2.2.2) h.2.2.2.1, congrArg (fun q : CT_wa => q.2.2.1) h.2.2.2.2.2.2.2.2.1, congrArg (fun q : CT_wa => q.2.2.2) h.2.2.2.2.2.2.2.2.1, h.2.2.2.2.2.2.2.2.2.1, h.2.2.2.2.2.2.2.2.2.2.1, h.2.2.2.2.2.2.2.2.2.2.2.1, h.2.2.2.2.2.2.2.2.2.2.2.2⟩
theorem Fr_X8_prepare.c_X7_clear {σ σ' : CSt} (h : Fr_X7_clear σ σ') : Fr_X8_prepare σ σ' := ⟨h.1, h.2.1, h.2.2.1, congrArg (fun q : CT_fi => q.2.2.2.2.2.2.1) h.2.2.2.1, congrArg (fun q : CT_fi => q.2.2.2.2.2.2.2.1) h.2.2.2.1, congrArg (fun q : CT_fi => q.2.2.2.2.2.2.2.2) h.2.2.2.1, h.2.2.2.2.2.1, h.2.2.2.2.2.2.1, h.2.2.2.2.2.2.2.1, h.2.2.2.2.2.2.2.2.1, h.2.2.2.2.2.2.2.2.2.1, h.2.2.2.2.2.2.2.2.2.2⟩
theorem fr_X8_prepare {F : Nat} {σ : CSt} {x2 : Int32} {R : CSt}  (h : fc_X8_prepare F σ x2 = some R) : Fr_X8_prepare σ R := by
  unfold fc_X8_prepare at h
  replace h := lt_e h
  obtain ⟨r12, hc1, h⟩ := bd_some h
  replace h := lt_e h
  obtain ⟨r22, hc2, h⟩ := bd_some h
  replace h := lt_e h
  obtain ⟨r31, hc3, h⟩ := bd_some h
  obtain ⟨r38, hc4, h⟩ := bd_some h
  replace h := lt_e h
  obtain ⟨r46, hc5, h⟩ := bd_some h
  obtain ⟨r53, hc6, h⟩ := bd_some h
  replace h := lt_e h
  obtain ⟨r62, hc7, h⟩ := bd_some h
  obtain ⟨r69, hc8, h⟩ := bd_some h
  replace h := lt_e h
  obtain ⟨r78, hc9, h⟩ := bd_some h
  obtain ⟨r85, hc10, h⟩ := bd_some h
  replace h := lt_e h
  obtain ⟨σ95, hc11, h⟩ := bd_some h
  obtain ⟨σ103, hc12, h⟩ := bd_some h
  obtain ⟨σ113, hc13, h⟩ := bd_some h
  obtain ⟨σ124, hc14, h⟩ := bd_some h
  obtain ⟨σ132, hc15, h⟩ := bd_some h
  obtain ⟨r143, hc16, h⟩ := bd_some h
  replace h := lt_e h
  obtain ⟨r158, hc17, h⟩ := bd_some h
  replace h := lt_e h
  obtain ⟨σ170, hc18, h⟩ := bd_some h
  obtain ⟨σ177, hc19, h⟩ := bd_some h
  obtain rfl := Option.some.inj h
  exact ((((((((((((Fr_X8_prepare.rf.tr (Fr_X8_prepare.s_fpen _ _)).tr (Fr_X8_prepare.s_fss _ _)).tr (Fr_X8_prepare.s_fgs _ _)).tr (Fr_X8_prepare.c_X4_clear (fr_X4_clear hc11))).tr (Fr_X8_prepare.c_X4_addLinesAround (fr_X4_addLinesAround hc12))).tr (Fr_X8_prepare.c_X4_addLinesThrough (fr_X4_addLinesThrough hc13))).tr (Fr_X8_prepare.c_X4_addLinesThrough (fr_X4_addLinesThrough hc14))).tr (Fr_X8_prepare.c_X4_joinNodes (fr_X4_joinNodes hc15))).tr (Fr_X8_prepare.s_fstart _ _)).tr (Fr_X8_prepare.s_fgoal _ _)).tr (Fr_X8_prepare.c_J7_fill_53178_24 (fr_J7_fill_53178_24 hc18))).tr (Fr_X8_prepare.c_X7_clear (fr_X7_clear hc19)))
def Fr_X8_findCost (σ σ' : CSt) : Prop := σ'.1 = σ.1 ∧ σ'.2.1 = σ.2.1 ∧ σ'.2.2.1 = σ.2.2.1 ∧ cs_fcx σ' = cs_fcx σ ∧ cs_fcy σ' = cs_fcy σ ∧ cs_fcn σ' = cs_fcn σ ∧ σ'.2.2.2.2.2.2.1 = σ.2.2.2.2.2.2.1 ∧ σ'.2.2.2.2.2.2.2.1 = σ.2.2.2.2.2.2.2.1 ∧ σ'.2.2.2.2.2.2.2.2.1 = σ.2.2.2.2.2.2.2.2.1 ∧ σ'.2.2.2.2.2.2.2.2.2 = σ.2.2.2.2.2.2.2.2.2
theorem Fr_X8_findCost.rf {σ : CSt} : Fr_X8_findCost σ σ := ⟨rfl, rfl, rfl, rfl, rfl, rfl, rfl, rfl, rfl, rfl⟩
theorem Fr_X8_findCost.tr {a b c : CSt} (h : Fr_X8_findCost a b) (h' : Fr_X8_findCost b c) : Fr_X8_findCost a c := ⟨h'.1.trans h.1, h'.2.1.trans h.2.1, h'.2.2.1.trans h.2.2.1, h'.2.2.2.1.trans h.2.2.2.1, h'.2.2.2.2.1.trans h.2.2.2.2.1, h'.2.2.2.2.2.1.trans h.2.2.2.2.2.1, h'.2.2.2.2.2.2.1.trans h.2.2.2.2.2.2.1, h'.2.2.2.2.2.2.2.1.trans h.2.2.2.2.2.2.2.1, h'.2.2.2.2.2.2.2.2.1.trans h.2.2.2.2.2.2.2.2.1, h'.2.2.2.2.2.2.2.2.2.trans h.2.2.2.2.2.2.2.2.2⟩
theorem Fr_X8_findCost.c_X7_takeCheapest {σ σ' : CSt} (h : Fr_X7_takeCheapest σ σ') : Fr_X8_findCost σ σ' := ⟨h.1, h.2.1, h.2.2.1, congrArg (fun q : CT_fi => q.2.2.2.2.2.2.1) h.2.2.2.1, congrArg (fun q : CT_fi => q.2.2.2.2.2.2.2.1) h.2.2.2.1, congrArg (fun q : CT_fi => q.2.2.2.2.2.2.2.2) h.2.2.2.1, h.2.2.2.2.2.1, h.2.2.2.2.2.2.1, h.2.2.2.2.2.2.2.1, h.2.2.2.2.2.2.2.2⟩
theorem Fr_X8_findCost.c_X8_goBackFrom {σ σ' : CSt} (h : Fr_X8_goBackFrom σ σ') : Fr_X8_findCost σ σ' := ⟨h.1, h.2.1, h.2.2.1, h.2.2.2.2.2.2.2.2.1, h.2.2.2.2.2.2.2.2.2.1, h.2.2.2.2.2.2.2.2.2.2.1, h.2.2.2.2.2.2.2.2.2.2.2.2.2.1, h.2.2.2.2.2.2.2.2.2.2.2.2.2.2.1, h.2.2.2.2.2.2.2.2.2.2.2.2.2.2.2.1, h.2.2.2.2.2.2.2.2.2.2.2.2.2.2.2.2⟩
theorem Fr_X8_findCost.c_X8_offer {σ σ' : CSt} (h : Fr_X8_offer σ σ') : Fr_X8_findCost σ σ' := ⟨h.1, h.2.1, h.2.2.1, h.2.2.2.2.2.2.2.2.1, h.2.2.2.2.2.2.2.2.2.1, h.2.2.2.2.2.2.2.2.2.2.1, h.2.2.2.2.2.2.2.2.2.2.2.2.2.1, h.2.2.2.2.2.2.2.2.2.2.2.2.2.2.1, h.2.2.2.2.2.2.2.2.2.2.2.2.2.2.2.1, h.2.2.2.2.2.2.2.2.2.2.2.2.2.2.2.2⟩
theorem Fr_X8_findCost.c_X8_prepare {σ σ' : CSt} (h : Fr_X8_prepare σ σ') : Fr_X8_findCost σ σ' := ⟨h.1, h.2.1, h.2.2.1, h.2.2.2.1, h.2.2.2.2.1, h.2.2.2.2.2.1, h.2.2.2.2.2.2.2.2.1, h.2.2.2.2.2.2.2.2.2.1, h.2.2.2.2.2.2.2.2.2.2.1, h.2.2.2.2.2.2.2.2.2.2.2⟩
theorem fr_X8_findCost_L124 {F : Nat} {σ : CSt} {s0 : Int32} {r : Int32} {R : CSt}  (h : fc_X8_findCost_L124 F σ s0 = some (r, R)) : Fr_X8_findCost σ R := by
  unfold fc_X8_findCost_L124 at h
  obtain ⟨-, rfl⟩ := Prod.mk.inj (Option.some.inj h)
  exact Fr_X8_findCost.rf
theorem fr_X8_findCost_L99 {F : Nat} {σ : CSt} {x3 : Int32} {r : Int32} {R : CSt}  (h : fc_X8_findCost_L99 F σ x3 = some (r, R)) : Fr_X8_findCost σ R := by
  unfold fc_X8_findCost_L99 at h
  obtain ⟨-, h⟩ := gd_some h
  rcases br_any h with h | h
  · obtain ⟨-, h⟩ := gd_some h
    exact Fr_X8_findCost.rf.tr (fr_X8_findCost_L124  h)
  · exact Fr_X8_findCost.rf.tr (fr_X8_findCost_L124  h)
theorem fr_X8_findCost_L55_c {F : Nat} {k55 : CSt → Int32 → Int32 → Option (Int32 × CSt)} {σ : CSt} {x3 : Int32} {x4 : Int32} {r : Int32} {R : CSt} (hk55 : ∀ {y0 : CSt} {y1 : Int32} {y2 : Int32}, k55 y0 y1 y2 = some (r, R) → Fr_X8_findCost y0 R) (h : fc_X8_findCost_L55_c F k55 σ x3 x4 = some (r, R)) : Fr_X8_findCost σ R := by
  unfold fc_X8_findCost_L55_c at h
  rcases br_any h with h | h
  · exact Fr_X8_findCost.rf.tr (fr_X8_findCost_L99  h)
  · obtain ⟨r67, σ67, hc1, h⟩ := bd2_some h
    rcases br_any h with h | h
    · exact (Fr_X8_findCost.rf.tr (Fr_X8_findCost.c_X7_takeCheapest (fr_X7_takeCheapest hc1))).tr (fr_X8_findCost_L99  h)
    · rcases br_any h with h | h
      · exact (Fr_X8_findCost.rf.tr (Fr_X8_findCost.c_X7_takeCheapest (fr_X7_takeCheapest hc1))).tr (fr_X8_findCost_L99  h)
      · obtain ⟨σ90, hc2, h⟩ := bd_some h
        replace h := lt_e h
        exact ((Fr_X8_findCost.rf.tr (Fr_X8_findCost.c_X7_takeCheapest (fr_X7_takeCheapest hc1))).tr (Fr_X8_findCost.c_X8_goBackFrom (fr_X8_goBackFrom hc2))).tr (hk55 h)
theorem fr_X8_findCost_L55 {F : Nat} {n : Nat} {σ : CSt} {x3 : Int32} {x4 : Int32} {r : Int32} {R : CSt}  (h : fc_X8_findCost_L55 F n σ x3 x4 = some (r, R)) : Fr_X8_findCost σ R := by
  induction n generalizing σ x3 x4 with
  | zero => cases (show (none : Option _) = _ from h)
  | succ n ih => exact fr_X8_findCost_L55_c  (fun h9 => ih h9) (show fc_X8_findCost_L55_c F (fc_X8_findCost_L55 F n) σ x3 x4 = some (r, R) from h)
theorem fr_X8_findCost_L21_c {F : Nat} {k21 : CSt → Int32 → Int32 → Option (Int32 × CSt)} {σ : CSt} {x3 : Int32} {x4 : Int32} {r : Int32} {R : CSt} (hk21 : ∀ {y0 : CSt} {y1 : Int32} {y2 : Int32}, k21 y0 y1 y2 = some (r, R) → Fr_X8_findCost y0 R) (h : fc_X8_findCost_L21_c F k21 σ x3 x4 = some (r, R)) : Fr_X8_findCost σ R := by
  unfold fc_X8_findCost_L21_c at h
  rcases br_any h with h | h
  · exact Fr_X8_findCost.rf.tr (fr_X8_findCost_L55  h)
  · obtain ⟨r34, hc1, h⟩ := bd_some h
    obtain ⟨r40, hc2, h⟩ := bd_some h
    obtain ⟨σ43, hc3, h⟩ := bd_some h
    replace h := lt_e h
    exact (Fr_X8_findCost.rf.tr (Fr_X8_findCost.c_X8_offer (fr_X8_offer hc3))).tr (hk21 h)
theorem fr_X8_findCost_L21 {F : Nat} {n : Nat} {σ : CSt} {x3 : Int32} {x4 : Int32} {r : Int32} {R : CSt}  (h : fc_X8_findCost_L21 F n σ x3 x4 = some (r, R)) : Fr_X8_findCost σ R := by
  induction n generalizing σ x3 x4 with
  | zero => cases (show (none : Option _) = _ from h)
  | succ n ih => exact fr_X8_findCost_L21_c  (fun h9 => ih h9) (show fc_X8_findCost_L21_c F (fc_X8_findCost_L21 F n) σ x3 x4 = some (r, R) from h)
theorem fr_X8_findCost {F : Nat} {σ : CSt} {x2 : Int32} {r : Int32} {R : CSt}  (h : fc_X8_findCost F σ x2 = some (r, R)) : Fr_X8_findCost σ R := by
  unfold fc_X8_findCost at h
  obtain ⟨σ3, hc1, h⟩ := bd_some h
  obtain ⟨r14, hc2, h⟩ := bd_some h
  exact (Fr_X8_findCost.rf.tr (Fr_X8_findCost.c_X8_prepare (fr_X8_prepare hc1))).tr (fr_X8_findCost_L21  h)
def Fr_X9_best (σ σ' : CSt) : Prop := σ'.1 = σ.1 ∧ σ'.2.1 = σ.2.1 ∧ σ'.2.2.1 = σ.2.2.1 ∧ cs_fcx σ' = cs_fcx σ ∧ cs_fcy σ' = cs_fcy σ ∧ cs_fcn σ' = cs_fcn σ ∧ σ'.2.2.2.2.2.2.1 = σ.2.2.2.2.2.2.1 ∧ σ'.2.2.2.2.2.2.2.1 = σ.2.2.2.2.2.2.2.1 ∧ σ'.2.2.2.2.2.2.2.2.1 = σ.2.2.2.2.2.2.2.2.1 ∧ σ'.2.2.2.2.2.2.2.2.2 = σ.2.2.2.2.2.2.2.2.2
theorem Fr_X9_best.rf {σ : CSt} : Fr_X9_best σ σ := ⟨rfl, rfl, rfl, rfl, rfl, rfl, rfl, rfl, rfl, rfl⟩
theorem Fr_X9_best.tr {a b c : CSt} (h : Fr_X9_best a b) (h' : Fr_X9_best b c) : Fr_X9_best a c := ⟨h'.1.trans h.1, h'.2.1.trans h.2.1, h'.2.2.1.trans h.2.2.1, h'.2.2.2.1.trans h.2.2.2.1, h'.2.2.2.2.1.trans h.2.2.2.2.1, h'.2.2.2.2.2.1.trans h.2.2.2.2.2.1, h'.2.2.2.2.2.2.1.trans h.2.2.2.2.2.2.1, h'.2.2.2.2.2.2.2.1.trans h.2.2.2.2.2.2.2.1, h'.2.2.2.2.2.2.2.2.1.trans h.2.2.2.2.2.2.2.2.1, h'.2.2.2.2.2.2.2.2.2.trans h.2.2.2.2.2.2.2.2.2⟩
theorem Fr_X9_best.c_X8_findCost {σ σ' : CSt} (h : Fr_X8_findCost σ σ') : Fr_X9_best σ σ' := ⟨h.1, h.2.1, h.2.2.1, h.2.2.2.1, h.2.2.2.2.1, h.2.2.2.2.2.1, h.2.2.2.2.2.2.1, h.2.2.2.2.2.2.2.1, h.2.2.2.2.2.2.2.2.1, h.2.2.2.2.2.2.2.2.2⟩
theorem fr_X9_best {F : Nat} {σ : CSt} {x1 : Int32} {r : Int32} {R : CSt}  (h : fc_X9_best F σ x1 = some (r, R)) : Fr_X9_best σ R := by
  unfold fc_X9_best at h
  obtain ⟨r5, hc1, h⟩ := bd_some h
  rcases br_any h with h | h
  · obtain ⟨-, rfl⟩ := Prod.mk.inj (Option.some.inj h)
    exact Fr_X9_best.rf
  · obtain ⟨r24, σ24, hc2, h⟩ := bd2_some h
    obtain ⟨-, rfl⟩ := Prod.mk.inj (Option.some.inj h)
    exact (Fr_X9_best.rf.tr (Fr_X9_best.c_X8_findCost (fr_X8_findCost hc2)))
def Fr_X2_readWord (σ σ' : CSt) : Prop := σ'.1 = σ.1 ∧ σ'.2.1 = σ.2.1 ∧ σ'.2.2.1 = σ.2.2.1 ∧ σ'.2.2.2.1 = σ.2.2.2.1 ∧ σ'.2.2.2.2.1 = σ.2.2.2.2.1 ∧ σ'.2.2.2.2.2.1 = σ.2.2.2.2.2.1 ∧ σ'.2.2.2.2.2.2.1 = σ.2.2.2.2.2.2.1 ∧ cs_tl σ' = cs_tl σ ∧ cs_tb σ' = cs_tb σ ∧ cs_tw σ' = cs_tw σ ∧ cs_tn σ' = cs_tn σ ∧ cs_te σ' = cs_te σ ∧ σ'.2.2.2.2.2.2.2.2.1 = σ.2.2.2.2.2.2.2.2.1 ∧ σ'.2.2.2.2.2.2.2.2.2 = σ.2.2.2.2.2.2.2.2.2
theorem Fr_X2_readWord.rf {σ : CSt} : Fr_X2_readWord σ σ := ⟨rfl, rfl, rfl, rfl, rfl, rfl, rfl, rfl, rfl, rfl, rfl, rfl, rfl, rfl⟩
theorem Fr_X2_readWord.tr {a b c : CSt} (h : Fr_X2_readWord a b) (h' : Fr_X2_readWord b c) : Fr_X2_readWord a c := ⟨h'.1.trans h.1, h'.2.1.trans h.2.1, h'.2.2.1.trans h.2.2.1, h'.2.2.2.1.trans h.2.2.2.1, h'.2.2.2.2.1.trans h.2.2.2.2.1, h'.2.2.2.2.2.1.trans h.2.2.2.2.2.1, h'.2.2.2.2.2.2.1.trans h.2.2.2.2.2.2.1, h'.2.2.2.2.2.2.2.1.trans h.2.2.2.2.2.2.2.1, h'.2.2.2.2.2.2.2.2.1.trans h.2.2.2.2.2.2.2.2.1, h'.2.2.2.2.2.2.2.2.2.1.trans h.2.2.2.2.2.2.2.2.2.1, h'.2.2.2.2.2.2.2.2.2.2.1.trans h.2.2.2.2.2.2.2.2.2.2.1, h'.2.2.2.2.2.2.2.2.2.2.2.1.trans h.2.2.2.2.2.2.2.2.2.2.2.1, h'.2.2.2.2.2.2.2.2.2.2.2.2.1.trans h.2.2.2.2.2.2.2.2.2.2.2.2.1, h'.2.2.2.2.2.2.2.2.2.2.2.2.2.trans h.2.2.2.2.2.2.2.2.2.2.2.2.2⟩
theorem Fr_X2_readWord.s_tc (σ : CSt) (v : Int32) : Fr_X2_readWord σ (cs_tc_s σ v) := ⟨rfl, rfl, rfl, rfl, rfl, rfl, rfl, rfl, rfl, rfl, rfl, rfl, rfl, rfl⟩
theorem Fr_X2_readWord.s_tf (σ : CSt) (v : Int32) : Fr_X2_readWord σ (cs_tf_s σ v) := ⟨rfl, rfl, rfl, rfl, rfl, rfl, rfl, rfl, rfl, rfl, rfl, rfl, rfl, rfl⟩
theorem Fr_X2_readWord.c_X2_skipBlanks {σ σ' : CSt} (h : Fr_X2_skipBlanks σ σ') : Fr_X2_readWord σ σ' := ⟨h.1, h.2.1, h.2.2.1, h.2.2.2.1, h.2.2.2.2.1, h.2.2.2.2.2.1, h.2.2.2.2.2.2.1, h.2.2.2.2.2.2.2.1, h.2.2.2.2.2.2.2.2.1, h.2.2.2.2.2.2.2.2.2.1, h.2.2.2.2.2.2.2.2.2.2.1, h.2.2.2.2.2.2.2.2.2.2.2.1, h.2.2.2.2.2.2.2.2.2.2.2.2.2.1, h.2.2.2.2.2.2.2.2.2.2.2.2.2.2⟩
theorem fr_X2_readWord_L77 {F : Nat} {σ : CSt} {x2 : Int32} {r : Int32} {R : CSt}  (h : fc_X2_readWord_L77 F σ x2 = some (r, R)) : Fr_X2_readWord σ R := by
  unfold fc_X2_readWord_L77 at h
  obtain ⟨-, rfl⟩ := Prod.mk.inj (Option.some.inj h)
  exact Fr_X2_readWord.rf
theorem fr_X2_readWord_L61 {F : Nat} {σ : CSt} {x1 : Int32} {r : Int32} {R : CSt}  (h : fc_X2_readWord_L61 F σ x1 = some (r, R)) : Fr_X2_readWord σ R := by
  unfold fc_X2_readWord_L61 at h
  obtain ⟨r63, hc1, h⟩ := bd_some h
  rcases br_any h with h | h
  · replace h := lt_e h
    exact (Fr_X2_readWord.rf.tr (Fr_X2_readWord.s_tf _ _)).tr (fr_X2_readWord_L77  h)
  · exact Fr_X2_readWord.rf.tr (fr_X2_readWord_L77  h)
theorem fr_X2_readWord_L9_c {F : Nat} {k9 : CSt → Int32 → Option (Int32 × CSt)} {σ : CSt} {x1 : Int32} {r : Int32} {R : CSt} (hk9 : ∀ {y0 : CSt} {y1 : Int32}, k9 y0 y1 = some (r, R) → Fr_X2_readWord y0 R) (h : fc_X2_readWord_L9_c F k9 σ x1 = some (r, R)) : Fr_X2_readWord σ R := by
  unfold fc_X2_readWord_L9_c at h
  rcases br_any h with h | h
  · exact Fr_X2_readWord.rf.tr (fr_X2_readWord_L61  h)
  · obtain ⟨-, h⟩ := gd_some h
    rcases br_any h with h | h
    · exact Fr_X2_readWord.rf.tr (fr_X2_readWord_L61  h)
    · obtain ⟨-, h⟩ := gd_some h
      rcases br_any h with h | h
      · exact Fr_X2_readWord.rf.tr (fr_X2_readWord_L61  h)
      · replace h := lt_e h
        exact (Fr_X2_readWord.rf.tr (Fr_X2_readWord.s_tc _ _)).tr (hk9 h)
theorem fr_X2_readWord_L9 {F : Nat} {n : Nat} {σ : CSt} {x1 : Int32} {r : Int32} {R : CSt}  (h : fc_X2_readWord_L9 F n σ x1 = some (r, R)) : Fr_X2_readWord σ R := by
  induction n generalizing σ x1 with
  | zero => cases (show (none : Option _) = _ from h)
  | succ n ih => exact fr_X2_readWord_L9_c  (fun h9 => ih h9) (show fc_X2_readWord_L9_c F (fc_X2_readWord_L9 F n) σ x1 = some (r, R) from h)
theorem fr_X2_readWord {F : Nat} {σ : CSt} {r : Int32} {R : CSt}  (h : fc_X2_readWord F σ = some (r, R)) : Fr_X2_readWord σ R := by
  unfold fc_X2_readWord at h
  obtain ⟨σ1, hc1, h⟩ := bd_some h
  replace h := lt_e h
  exact (Fr_X2_readWord.rf.tr (Fr_X2_readWord.c_X2_skipBlanks (fr_X2_skipBlanks hc1))).tr (fr_X2_readWord_L9  h)
def Fr_X2_readCommand (σ σ' : CSt) : Prop := σ'.1 = σ.1 ∧ σ'.2.1 = σ.2.1 ∧ σ'.2.2.1 = σ.2.2.1 ∧ σ'.2.2.2.1 = σ.2.2.2.1 ∧ σ'.2.2.2.2.1 = σ.2.2.2.2.1 ∧ σ'.2.2.2.2.2.1 = σ.2.2.2.2.2.1 ∧ σ'.2.2.2.2.2.2.1 = σ.2.2.2.2.2.2.1 ∧ cs_tl σ' = cs_tl σ ∧ cs_tb σ' = cs_tb σ ∧ σ'.2.2.2.2.2.2.2.2.1 = σ.2.2.2.2.2.2.2.2.1 ∧ σ'.2.2.2.2.2.2.2.2.2 = σ.2.2.2.2.2.2.2.2.2
theorem Fr_X2_readCommand.rf {σ : CSt} : Fr_X2_readCommand σ σ := ⟨rfl, rfl, rfl, rfl, rfl, rfl, rfl, rfl, rfl, rfl, rfl⟩
theorem Fr_X2_readCommand.tr {a b c : CSt} (h : Fr_X2_readCommand a b) (h' : Fr_X2_readCommand b c) : Fr_X2_readCommand a c := ⟨h'.1.trans h.1, h'.2.1.trans h.2.1, h'.2.2.1.trans h.2.2.1, h'.2.2.2.1.trans h.2.2.2.1, h'.2.2.2.2.1.trans h.2.2.2.2.1, h'.2.2.2.2.2.1.trans h.2.2.2.2.2.1, h'.2.2.2.2.2.2.1.trans h.2.2.2.2.2.2.1, h'.2.2.2.2.2.2.2.1.trans h.2.2.2.2.2.2.2.1, h'.2.2.2.2.2.2.2.2.1.trans h.2.2.2.2.2.2.2.2.1, h'.2.2.2.2.2.2.2.2.2.1.trans h.2.2.2.2.2.2.2.2.2.1, h'.2.2.2.2.2.2.2.2.2.2.trans h.2.2.2.2.2.2.2.2.2.2⟩
theorem Fr_X2_readCommand.s_tw (σ : CSt) (v : Int32) : Fr_X2_readCommand σ (cs_tw_s σ v) := ⟨rfl, rfl, rfl, rfl, rfl, rfl, rfl, rfl, rfl, rfl, rfl⟩
theorem Fr_X2_readCommand.u_tn (σ : CSt) (i x : Int32) : Fr_X2_readCommand σ (sc_tn σ i x) := ⟨rfl, rfl, rfl, rfl, rfl, rfl, rfl, rfl, rfl, rfl, rfl⟩
theorem Fr_X2_readCommand.c_X2_readNumber {σ σ' : CSt} (h : Fr_X2_readNumber σ σ') : Fr_X2_readCommand σ σ' := ⟨h.1, h.2.1, h.2.2.1, h.2.2.2.1, h.2.2.2.2.1, h.2.2.2.2.2.1, h.2.2.2.2.2.2.1, h.2.2.2.2.2.2.2.1, h.2.2.2.2.2.2.2.2.1, h.2.2.2.2.2.2.2.2.2.2.2.2.1, h.2.2.2.2.2.2.2.2.2.2.2.2.2⟩
theorem Fr_X2_readCommand.c_X2_readSeparator {σ σ' : CSt} (h : Fr_X2_readSeparator σ σ') : Fr_X2_readCommand σ σ' := ⟨h.1, h.2.1, h.2.2.1, h.2.2.2.1, h.2.2.2.2.1, h.2.2.2.2.2.1, h.2.2.2.2.2.2.1, h.2.2.2.2.2.2.2.1, h.2.2.2.2.2.2.2.2.1, h.2.2.2.2.2.2.2.2.2.2.2.1, h.2.2.2.2.2.2.2.2.2.2.2.2⟩
theorem Fr_X2_readCommand.c_X2_readWord {σ σ' : CSt} (h : Fr_X2_readWord σ σ') : Fr_X2_readCommand σ σ' := ⟨h.1, h.2.1, h.2.2.1, h.2.2.2.1, h.2.2.2.2.1, h.2.2.2.2.2.1, h.2.2.2.2.2.2.1, h.2.2.2.2.2.2.2.1, h.2.2.2.2.2.2.2.2.1, h.2.2.2.2.2.2.2.2.2.2.2.2.1, h.2.2.2.2.2.2.2.2.2.2.2.2.2⟩
theorem fr_X2_readCommand_L29_c {F : Nat} {k29 : CSt → Int32 → Option (Int32 × CSt)} {σ : CSt} {x1 : Int32} {r : Int32} {R : CSt} (hk29 : ∀ {y0 : CSt} {y1 : Int32}, k29 y0 y1 = some (r, R) → Fr_X2_readCommand y0 R) (h : fc_X2_readCommand_L29_c F k29 σ x1 = some (r, R)) : Fr_X2_readCommand σ R := by
  unfold fc_X2_readCommand_L29_c at h
  obtain ⟨-, h⟩ := gd_some h
  rcases br_any h with h | h
  · obtain ⟨r70, σ70, hc1, h⟩ := bd2_some h
    obtain ⟨-, h⟩ := gd_some h
    obtain ⟨-, rfl⟩ := Prod.mk.inj (Option.some.inj h)
    exact (Fr_X2_readCommand.rf.tr (Fr_X2_readCommand.c_X2_readSeparator (fr_X2_readSeparator hc1)))
  · obtain ⟨r47, σ47, hc2, h⟩ := bd2_some h
    obtain ⟨-, h⟩ := gd_some h
    replace h := lt_e h
    obtain ⟨-, h⟩ := gd_some h
    rcases br_any h with h | h
    · obtain ⟨-, rfl⟩ := Prod.mk.inj (Option.some.inj h)
      exact ((Fr_X2_readCommand.rf.tr (Fr_X2_readCommand.c_X2_readNumber (fr_X2_readNumber hc2))).tr (Fr_X2_readCommand.u_tn _ _ _))
    · replace h := lt_e h
      exact ((Fr_X2_readCommand.rf.tr (Fr_X2_readCommand.c_X2_readNumber (fr_X2_readNumber hc2))).tr (Fr_X2_readCommand.u_tn _ _ _)).tr (hk29 h)
theorem fr_X2_readCommand_L29 {F : Nat} {n : Nat} {σ : CSt} {x1 : Int32} {r : Int32} {R : CSt}  (h : fc_X2_readCommand_L29 F n σ x1 = some (r, R)) : Fr_X2_readCommand σ R := by
  induction n generalizing σ x1 with
  | zero => cases (show (none : Option _) = _ from h)
  | succ n ih => exact fr_X2_readCommand_L29_c  (fun h9 => ih h9) (show fc_X2_readCommand_L29_c F (fc_X2_readCommand_L29 F n) σ x1 = some (r, R) from h)
theorem fr_X2_readCommand {F : Nat} {σ : CSt} {r : Int32} {R : CSt}  (h : fc_X2_readCommand F σ = some (r, R)) : Fr_X2_readCommand σ R := by
  unfold fc_X2_readCommand at h
  rcases br_any h with h | h
  · obtain ⟨r11, σ11, hc1, h⟩ := bd2_some h
    replace h := lt_e h
    rcases br_any h with h | h
    · obtain ⟨-, rfl⟩ := Prod.mk.inj (Option.some.inj h)
      exact ((Fr_X2_readCommand.rf.tr (Fr_X2_readCommand.c_X2_readWord (fr_X2_readWord hc1))).tr (Fr_X2_readCommand.s_tw _ _))
    · exact ((Fr_X2_readCommand.rf.tr (Fr_X2_readCommand.c_X2_readWord (fr_X2_readWord hc1))).tr (Fr_X2_readCommand.s_tw _ _)).tr (fr_X2_readCommand_L29  h)
  · obtain ⟨-, rfl⟩ := Prod.mk.inj (Option.some.inj h)
    exact Fr_X2_readCommand.rf
def Fr_X2_findFault (σ σ' : CSt) : Prop := σ'.1 = σ.1 ∧ σ'.2.1 = σ.2.1 ∧ σ'.2.2.1 = σ.2.2.1 ∧ σ'.2.2.2.1 = σ.2.2.2.1 ∧ σ'.2.2.2.2.1 = σ.2.2.2.2.1 ∧ σ'.2.2.2.2.2.1 = σ.2.2.2.2.2.1 ∧ σ'.2.2.2.2.2.2.1 = σ.2.2.2.2.2.2.1 ∧ cs_tl σ' = cs_tl σ ∧ cs_tb σ' = cs_tb σ ∧ σ'.2.2.2.2.2.2.2.2.1 = σ.2.2.2.2.2.2.2.2.1 ∧ σ'.2.2.2.2.2.2.2.2.2 = σ.2.2.2.2.2.2.2.2.2
theorem Fr_X2_findFault.rf {σ : CSt} : Fr_X2_findFault σ σ := ⟨rfl, rfl, rfl, rfl, rfl, rfl, rfl, rfl, rfl, rfl, rfl⟩
theorem Fr_X2_findFault.tr {a b c : CSt} (h : Fr_X2_findFault a b) (h' : Fr_X2_findFault b c) : Fr_X2_findFault a c := ⟨h'.1.trans h.1, h'.2.1.trans h.2.1, h'.2.2.1.trans h.2.2.1, h'.2.2.2.1.trans h.2.2.2.1, h'.2.2.2.2.1.trans h.2.2.2.2.1, h'.2.2.2.2.2.1.trans h.2.2.2.2.2.1, h'.2.2.2.2.2.2.1.trans h.2.2.2.2.2.2.1, h'.2.2.2.2.2.2.2.1.trans h.2.2.2.2.2.2.2.1, h'.2.2.2.2.2.2.2.2.1.trans h.2.2.2.2.2.2.2.2.1, h'.2.2.2.2.2.2.2.2.2.1.trans h.2.2.2.2.2.2.2.2.2.1, h'.2.2.2.2.2.2.2.2.2.2.trans h.2.2.2.2.2.2.2.2.2.2⟩
theorem Fr_X2_findFault.c_X2_readCommand {σ σ' : CSt} (h : Fr_X2_readCommand σ σ') : Fr_X2_findFault σ σ' := ⟨h.1, h.2.1, h.2.2.1, h.2.2.2.1, h.2.2.2.2.1, h.2.2.2.2.2.1, h.2.2.2.2.2.2.1, h.2.2.2.2.2.2.2.1, h.2.2.2.2.2.2.2.2.1, h.2.2.2.2.2.2.2.2.2.1, h.2.2.2.2.2.2.2.2.2.2⟩
theorem Fr_X2_findFault.c_X2_rewind {σ σ' : CSt} (h : Fr_X2_rewind σ σ') : Fr_X2_findFault σ σ' := ⟨h.1, h.2.1, h.2.2.1, h.2.2.2.1, h.2.2.2.2.1, h.2.2.2.2.2.1, h.2.2.2.2.2.2.1, h.2.2.2.2.2.2.2.1, h.2.2.2.2.2.2.2.2.1, h.2.2.2.2.2.2.2.2.2.2.2.1, h.2.2.2.2.2.2.2.2.2.2.2.2⟩
theorem fr_X2_findFault_L29 {F : Nat} {σ : CSt} {r : Int32} {R : CSt}  (h : fc_X2_findFault_L29 F σ = some (r, R)) : Fr_X2_findFault σ R := by
  unfold fc_X2_findFault_L29 at h
  obtain ⟨-, rfl⟩ := Prod.mk.inj (Option.some.inj h)
  exact Fr_X2_findFault.rf
theorem fr_X2_findFault_L8_c {F : Nat} {k8 : CSt → Int32 → Int32 → Option (Int32 × CSt)} {σ : CSt} {x1 : Int32} {x2 : Int32} {r : Int32} {R : CSt} (hk8 : ∀ {y0 : CSt} {y1 : Int32} {y2 : Int32}, k8 y0 y1 y2 = some (r, R) → Fr_X2_findFault y0 R) (h : fc_X2_findFault_L8_c F k8 σ x1 x2 = some (r, R)) : Fr_X2_findFault σ R := by
  unfold fc_X2_findFault_L8_c at h
  rcases br_any h with h | h
  · exact Fr_X2_findFault.rf.tr (fr_X2_findFault_L29  h)
  · rcases br_any h with h | h
    · exact Fr_X2_findFault.rf.tr (fr_X2_findFault_L29  h)
    · obtain ⟨r19, σ19, hc1, h⟩ := bd2_some h
      replace h := lt_e h
      exact (Fr_X2_findFault.rf.tr (Fr_X2_findFault.c_X2_readCommand (fr_X2_readCommand hc1))).tr (hk8 h)
theorem fr_X2_findFault_L8 {F : Nat} {n : Nat} {σ : CSt} {x1 : Int32} {x2 : Int32} {r : Int32} {R : CSt}  (h : fc_X2_findFault_L8 F n σ x1 x2 = some (r, R)) : Fr_X2_findFault σ R := by
  induction n generalizing σ x1 x2 with
  | zero => cases (show (none : Option _) = _ from h)
  | succ n ih => exact fr_X2_findFault_L8_c  (fun h9 => ih h9) (show fc_X2_findFault_L8_c F (fc_X2_findFault_L8 F n) σ x1 x2 = some (r, R) from h)
theorem fr_X2_findFault {F : Nat} {σ : CSt} {r : Int32} {R : CSt}  (h : fc_X2_findFault F σ = some (r, R)) : Fr_X2_findFault σ R := by
  unfold fc_X2_findFault at h
  obtain ⟨σ1, hc1, h⟩ := bd_some h
  exact (Fr_X2_findFault.rf.tr (Fr_X2_findFault.c_X2_rewind (fr_X2_rewind hc1))).tr (fr_X2_findFault_L8  h)
def Fr_X9_textFault (σ σ' : CSt) : Prop := σ'.1 = σ.1 ∧ σ'.2.1 = σ.2.1 ∧ σ'.2.2.1 = σ.2.2.1 ∧ σ'.2.2.2.1 = σ.2.2.2.1 ∧ σ'.2.2.2.2.1 = σ.2.2.2.2.1 ∧ σ'.2.2.2.2.2.1 = σ.2.2.2.2.2.1 ∧ σ'.2.2.2.2.2.2.1 = σ.2.2.2.2.2.2.1 ∧ cs_tl σ' = cs_tl σ ∧ cs_tb σ' = cs_tb σ ∧ σ'.2.2.2.2.2.2.2.2.1 = σ.2.2.2.2.2.2.2.2.1 ∧ σ'.2.2.2.2.2.2.2.2.2 = σ.2.2.2.2.2.2.2.2.2
theorem Fr_X9_textFault.rf {σ : CSt} : Fr_X9_textFault σ σ := ⟨rfl, rfl, rfl, rfl, rfl, rfl, rfl, rfl, rfl, rfl, rfl⟩
theorem Fr_X9_textFault.tr {a b c : CSt} (h : Fr_X9_textFault a b) (h' : Fr_X9_textFault b c) : Fr_X9_textFault a c := ⟨h'.1.trans h.1, h'.2.1.trans h.2.1, h'.2.2.1.trans h.2.2.1, h'.2.2.2.1.trans h.2.2.2.1, h'.2.2.2.2.1.trans h.2.2.2.2.1, h'.2.2.2.2.2.1.trans h.2.2.2.2.2.1, h'.2.2.2.2.2.2.1.trans h.2.2.2.2.2.2.1, h'.2.2.2.2.2.2.2.1.trans h.2.2.2.2.2.2.2.1, h'.2.2.2.2.2.2.2.2.1.trans h.2.2.2.2.2.2.2.2.1, h'.2.2.2.2.2.2.2.2.2.1.trans h.2.2.2.2.2.2.2.2.2.1, h'.2.2.2.2.2.2.2.2.2.2.trans h.2.2.2.2.2.2.2.2.2.2⟩
theorem Fr_X9_textFault.c_X2_findFault {σ σ' : CSt} (h : Fr_X2_findFault σ σ') : Fr_X9_textFault σ σ' := ⟨h.1, h.2.1, h.2.2.1, h.2.2.2.1, h.2.2.2.2.1, h.2.2.2.2.2.1, h.2.2.2.2.2.2.1, h.2.2.2.2.2.2.2.1, h.2.2.2.2.2.2.2.2.1, h.2.2.2.2.2.2.2.2.2.1, h.2.2.2.2.2.2.2.2.2.2⟩
theorem fr_X9_textFault {F : Nat} {σ : CSt} {r : Int32} {R : CSt}  (h : fc_X9_textFault F σ = some (r, R)) : Fr_X9_textFault σ R := by
  unfold fc_X9_textFault at h
  obtain ⟨r4, σ4, hc1, h⟩ := bd2_some h
  obtain ⟨-, rfl⟩ := Prod.mk.inj (Option.some.inj h)
  exact (Fr_X9_textFault.rf.tr (Fr_X9_textFault.c_X2_findFault (fr_X2_findFault hc1)))
def Fr_X5_restore (σ σ' : CSt) : Prop := σ'.2.1 = σ.2.1 ∧ cs_ho σ' = cs_ho σ ∧ cs_run σ' = cs_run σ ∧ σ'.2.2.2.1 = σ.2.2.2.1 ∧ σ'.2.2.2.2.1 = σ.2.2.2.2.1 ∧ σ'.2.2.2.2.2.1 = σ.2.2.2.2.2.1 ∧ σ'.2.2.2.2.2.2.1 = σ.2.2.2.2.2.2.1 ∧ σ'.2.2.2.2.2.2.2.1 = σ.2.2.2.2.2.2.2.1 ∧ σ'.2.2.2.2.2.2.2.2.1 = σ.2.2.2.2.2.2.2.2.1 ∧ σ'.2.2.2.2.2.2.2.2.2 = σ.2.2.2.2.2.2.2.2.2
theorem Fr_X5_restore.rf {σ : CSt} : Fr_X5_restore σ σ := ⟨rfl, rfl, rfl, rfl, rfl, rfl, rfl, rfl, rfl, rfl⟩
theorem Fr_X5_restore.tr {a b c : CSt} (h : Fr_X5_restore a b) (h' : Fr_X5_restore b c) : Fr_X5_restore a c := ⟨h'.1.trans h.1, h'.2.1.trans h.2.1, h'.2.2.1.trans h.2.2.1, h'.2.2.2.1.trans h.2.2.2.1, h'.2.2.2.2.1.trans h.2.2.2.2.1, h'.2.2.2.2.2.1.trans h.2.2.2.2.2.1, h'.2.2.2.2.2.2.1.trans h.2.2.2.2.2.2.1, h'.2.2.2.2.2.2.2.1.trans h.2.2.2.2.2.2.2.1, h'.2.2.2.2.2.2.2.2.1.trans h.2.2.2.2.2.2.2.2.1, h'.2.2.2.2.2.2.2.2.2.trans h.2.2.2.2.2.2.2.2.2⟩
theorem Fr_X5_restore.s_hs (σ : CSt) (v : Int32) : Fr_X5_restore σ (cs_hs_s σ v) := ⟨rfl, rfl, rfl, rfl, rfl, rfl, rfl, rfl, rfl, rfl⟩
theorem Fr_X5_restore.c_X1_copyFrom_M {σ σ' : CSt} (h : Fr_X1_copyFrom_M σ σ') : Fr_X5_restore σ σ' := ⟨h.1, congrArg (fun q : CT_hi => q.2.1) h.2.1, congrArg (fun q : CT_hi => q.2.2) h.2.1, h.2.2.1, h.2.2.2.1, h.2.2.2.2.1, h.2.2.2.2.2.1, h.2.2.2.2.2.2.1, h.2.2.2.2.2.2.2.1, h.2.2.2.2.2.2.2.2⟩
theorem fr_X5_restore {F : Nat} {σ : CSt} {R : CSt}  (h : fc_X5_restore F σ = some R) : Fr_X5_restore σ R := by
  unfold fc_X5_restore at h
  replace h := lt_e h
  obtain ⟨-, h⟩ := gd_some h
  obtain ⟨σ27, hc1, h⟩ := bd_some h
  obtain rfl := Option.some.inj h
  exact ((Fr_X5_restore.rf.tr (Fr_X5_restore.s_hs _ _)).tr (Fr_X5_restore.c_X1_copyFrom_M (fr_X1_copyFrom_M hc1)))
def Fr_X9_undo (σ σ' : CSt) : Prop := σ'.2.1 = σ.2.1 ∧ cs_ho σ' = cs_ho σ ∧ cs_run σ' = cs_run σ ∧ σ'.2.2.2.1 = σ.2.2.2.1 ∧ σ'.2.2.2.2.1 = σ.2.2.2.2.1 ∧ σ'.2.2.2.2.2.1 = σ.2.2.2.2.2.1 ∧ σ'.2.2.2.2.2.2.1 = σ.2.2.2.2.2.2.1 ∧ σ'.2.2.2.2.2.2.2.1 = σ.2.2.2.2.2.2.2.1 ∧ σ'.2.2.2.2.2.2.2.2.1 = σ.2.2.2.2.2.2.2.2.1 ∧ σ'.2.2.2.2.2.2.2.2.2 = σ.2.2.2.2.2.2.2.2.2
theorem Fr_X9_undo.rf {σ : CSt} : Fr_X9_undo σ σ := ⟨rfl, rfl, rfl, rfl, rfl, rfl, rfl, rfl, rfl, rfl⟩
theorem Fr_X9_undo.tr {a b c : CSt} (h : Fr_X9_undo a b) (h' : Fr_X9_undo b c) : Fr_X9_undo a c := ⟨h'.1.trans h.1, h'.2.1.trans h.2.1, h'.2.2.1.trans h.2.2.1, h'.2.2.2.1.trans h.2.2.2.1, h'.2.2.2.2.1.trans h.2.2.2.2.1, h'.2.2.2.2.2.1.trans h.2.2.2.2.2.1, h'.2.2.2.2.2.2.1.trans h.2.2.2.2.2.2.1, h'.2.2.2.2.2.2.2.1.trans h.2.2.2.2.2.2.2.1, h'.2.2.2.2.2.2.2.2.1.trans h.2.2.2.2.2.2.2.2.1, h'.2.2.2.2.2.2.2.2.2.trans h.2.2.2.2.2.2.2.2.2⟩
theorem Fr_X9_undo.c_X5_restore {σ σ' : CSt} (h : Fr_X5_restore σ σ') : Fr_X9_undo σ σ' := ⟨h.1, h.2.1, h.2.2.1, h.2.2.2.1, h.2.2.2.2.1, h.2.2.2.2.2.1, h.2.2.2.2.2.2.1, h.2.2.2.2.2.2.2.1, h.2.2.2.2.2.2.2.2.1, h.2.2.2.2.2.2.2.2.2⟩
theorem fr_X9_undo {F : Nat} {σ : CSt} {r : Int32} {R : CSt}  (h : fc_X9_undo F σ = some (r, R)) : Fr_X9_undo σ R := by
  unfold fc_X9_undo at h
  rcases br_any h with h | h
  · obtain ⟨-, rfl⟩ := Prod.mk.inj (Option.some.inj h)
    exact Fr_X9_undo.rf
  · obtain ⟨σ22, hc1, h⟩ := bd_some h
    obtain ⟨-, rfl⟩ := Prod.mk.inj (Option.some.inj h)
    exact (Fr_X9_undo.rf.tr (Fr_X9_undo.c_X5_restore (fr_X5_restore hc1)))
