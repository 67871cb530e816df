/-! the class's grid -/
def bxL (B : Nat → Int) (j0 j1 : Nat) : Nat → LT
  | 0 => (0, fun _ => 0)
  | k + 1 => insL (insL (bxL B j0 j1 k) (B (4 * k + j0) - 1)) (B (4 * k + j1) + 1)
def BdJ (B : Nat → Int) (j0 j1 k : Nat) : Prop := 2 ≤ B (4 * k + j0) ∧ B (4 * k + j0) < B (4 * k + j1) ∧ B (4 * k + j1) ≤ 97
theorem bxL_ok {B : Nat → Int} {j0 j1 : Nat} : ∀ k, (∀ i, i < k → BdJ B j0 j1 i) → SrtL (bxL B j0 j1 k) ∧ BdL (bxL B j0 j1 k) ∧ (bxL B j0 j1 k).1 ≤ 2 * k ∧ ∀ i, i < k → InL (bxL B j0 j1 k) (B (4 * i + j0) - 1) ∧ InL (bxL B j0 j1 k) (B (4 * i + j1) + 1)
  | 0, _ => ⟨fun _ _ _ h => absurd h (Nat.not_lt_zero _), fun _ h => absurd h (Nat.not_lt_zero _), Nat.le_refl _, fun _ h => absurd h (Nat.not_lt_zero _)⟩
  | k + 1, h => by
    obtain ⟨h1, h2, h3, h4⟩ := bxL_ok k (fun i hi => h i (by omega))
    obtain ⟨q1, q2, q3⟩ := h k (by omega)
    refine ⟨ins_srt (ins_srt h1), ins_bd (ins_bd h2 (by omega)) (by omega), ?_, fun i hi => ?_⟩
    · have a1 := ins_le (L := bxL B j0 j1 k) (z := B (4 * k + j0) - 1)
      have a2 := ins_le (L := insL (bxL B j0 j1 k) (B (4 * k + j0) - 1)) (z := B (4 * k + j1) + 1)
      show (insL (insL (bxL B j0 j1 k) (B (4 * k + j0) - 1)) (B (4 * k + j1) + 1)).1 ≤ 2 * (k + 1)
      omega
    · by_cases hk : i = k
      · subst hk
        exact ⟨(ins_mem _).mpr (Or.inr ((ins_mem _).mpr (Or.inl rfl))), (ins_mem _).mpr (Or.inl rfl)⟩
      · obtain ⟨a1, a2⟩ := h4 i (by omega)
        exact ⟨(ins_mem _).mpr (Or.inr ((ins_mem _).mpr (Or.inr a1))), (ins_mem _).mpr (Or.inr ((ins_mem _).mpr (Or.inr a2)))⟩
def lnL (B : Nat → Int) (nb j0 j1 : Nat) (p q : Int) : LT := insL (insL (bxL B j0 j1 nb) p) q
theorem lnL_ok {B : Nat → Int} {nb j0 j1 : Nat} {p q : Int} (h : ∀ i, i < nb → BdJ B j0 j1 i) (hp : 0 ≤ p ∧ p ≤ 99) (hq : 0 ≤ q ∧ q ≤ 99) : SrtL (lnL B nb j0 j1 p q) ∧ BdL (lnL B nb j0 j1 p q) ∧ (lnL B nb j0 j1 p q).1 ≤ 2 * nb + 2 ∧ (∀ i, i < nb → InL (lnL B nb j0 j1 p q) (B (4 * i + j0) - 1) ∧ InL (lnL B nb j0 j1 p q) (B (4 * i + j1) + 1)) ∧ InL (lnL B nb j0 j1 p q) p ∧ InL (lnL B nb j0 j1 p q) q := by
  obtain ⟨h1, h2, h3, h4⟩ := bxL_ok nb h
  have a1 := ins_le (L := bxL B j0 j1 nb) (z := p)
  have a2 := ins_le (L := insL (bxL B j0 j1 nb) p) (z := q)
  refine ⟨ins_srt (ins_srt h1), ins_bd (ins_bd h2 hp) hq, by unfold lnL; omega, fun i hi => ?_, (ins_mem _).mpr (Or.inr ((ins_mem _).mpr (Or.inl rfl))), (ins_mem _).mpr (Or.inl rfl)⟩
  obtain ⟨a1, a2⟩ := h4 i hi
  exact ⟨(ins_mem _).mpr (Or.inr ((ins_mem _).mpr (Or.inr a1))), (ins_mem _).mpr (Or.inr ((ins_mem _).mpr (Or.inr a2)))⟩
theorem BxB.x {B : Nat → Int} {k : Nat} (h : BxB B k) : BdJ B 0 2 k := h.1
theorem BxB.y {B : Nat → Int} {k : Nat} (h : BxB B k) : BdJ B 1 3 k := h.2
def gSt (σ : CSt) (fx fy : Nat → Int32) (a b : Int32) : CSt := cs_gr_s (cs_gc_s (cs_gy_s (cs_gx_s σ fx) fy) a) b
/-- rows that hold lines -/
def RwL (f : Nat → Int32) (L : LT) : Prop := ∀ j, j < L.1 → f j = I (L.2 j)
section G2
variable {F : Nat} {σ : CSt}
theorem gS_gc {fx fy : Nat → Int32} {a b : Int32} : cs_gc (gSt σ fx fy a b) = a := rfl
theorem gS_gr {fx fy : Nat → Int32} {a b : Int32} : cs_gr (gSt σ fx fy a b) = b := rfl
theorem gS_cb {fx fy : Nat → Int32} {a b : Int32} : cs_cb (gSt σ fx fy a b) = cs_cb σ := rfl
theorem gS_x {fx fy f : Nat → Int32} {a b v : Int32} : cs_gc_s (cs_gx_s (gSt σ fx fy a b) f) v = gSt σ f fy v b := rfl
theorem gS_y {fx fy f : Nat → Int32} {a b v : Int32} : cs_gr_s (cs_gy_s (gSt σ fx fy a b) f) v = gSt σ fx f a v := rfl
theorem g_x {fx fy f' : Nat → Int32} {a b v z : Int32} {β : Type} (h : fc_X4_insert_28 F (gSt σ fx fy a b) a z = some (v, cs_gx_s (gSt σ fx fy a b) f')) (kk : CSt → Option β) : bd2 (fc_X4_insert_28 F (gSt σ fx fy a b) (cs_gc (gSt σ fx fy a b)) z) (fun r s => lt (cs_gc_s s r) kk) = kk (gSt σ f' fy v b) := by
  rw [gS_gc, h]
  rfl
theorem g_y {fx fy f' : Nat → Int32} {a b v z : Int32} {β : Type} (h : fc_X4_insert_29 F (gSt σ fx fy a b) b z = some (v, cs_gy_s (gSt σ fx fy a b) f')) (kk : CSt → Option β) : bd2 (fc_X4_insert_29 F (gSt σ fx fy a b) (cs_gr (gSt σ fx fy a b)) z) (fun r s => lt (cs_gr_s s r) kk) = kk (gSt σ fx f' a v) := by
  rw [gS_gr, h]
  rfl
theorem sc_around (hF : 100 ≤ F) {nb : Nat} (h0 : cs_cb σ = I nb) (hnb : nb ≤ 8) (hB : ∀ k, k < nb → BxB (bxI (cs_ce σ)) k) (fx fy : Nat → Int32) : ∃ fx' fy', fc_X4_addLinesAround F (gSt σ fx fy 0 0) = some (gSt σ fx' fy' (I (bxL (bxI (cs_ce σ)) 0 2 nb).1) (I (bxL (bxI (cs_ce σ)) 1 3 nb).1)) ∧ RwL fx' (bxL (bxI (cs_ce σ)) 0 2 nb) ∧ RwL fy' (bxL (bxI (cs_ce σ)) 1 3 nb) := by
  generalize hBB : bxI (cs_ce σ) = B at hB ⊢
  refine lp_inv (P := fun d a => d ≤ nb ∧ ∃ fx' fy', a = (gSt σ fx' fy' (I (bxL B 0 2 (nb - d)).1) (I (bxL B 1 3 (nb - d)).1), I ((nb - d : Nat) : Int)) ∧ RwL fx' (bxL B 0 2 (nb - d)) ∧ RwL fy' (bxL B 1 3 (nb - d))) (Q := fun q => ∃ fx' fy', q = some (gSt σ fx' fy' (I (bxL B 0 2 nb).1) (I (bxL B 1 3 nb).1)) ∧ RwL fx' (bxL B 0 2 nb) ∧ RwL fy' (bxL B 1 3 nb)) (fun d a hp => ?_) F nb _ (by omega) ⟨Nat.le_refl _, fx, fy, by rw [Nat.sub_self]; rfl, by rw [Nat.sub_self]; exact fun j hj => absurd hj (Nat.not_lt_zero _), by rw [Nat.sub_self]; exact fun j hj => absurd hj (Nat.not_lt_zero _)⟩
  obtain ⟨hd, fx', fy', rfl, hx, hy⟩ := hp
  cases d with
  | zero =>
    refine Or.inl fun rec => ⟨fx', fy', ?_, hx, hy⟩
    have e2 : I nb ≤ I ((nb - 0 : Nat) : Int) := by rw [I_le] <;> omega
    simp only [fc_X4_addLinesAround_L2_c, gS_cb, h0, e2, if_true]
    rfl
  | succ d =>
    have hk1 : nb - d = nb - (d + 1) + 1 := by omega
    have hkn : nb - (d + 1) < nb := by omega
    generalize nb - (d + 1) = k at hx hy hk1 hkn ⊢
    obtain ⟨x1, x2, x3, -⟩ := bxL_ok (B := B) (j0 := 0) (j1 := 2) k (fun i hi => (hB i (by omega)).x)
    obtain ⟨y1, y2, y3, -⟩ := bxL_ok (B := B) (j0 := 1) (j1 := 3) k (fun i hi => (hB i (by omega)).y)
    obtain ⟨⟨q2, q3, q4⟩, q5, q6, q7⟩ := hB k hkn
    have l1 := ins_le (L := bxL B 0 2 k) (z := B (4 * k) - 1)
    have l2 := ins_le (L := bxL B 1 3 k) (z := B (4 * k + 1) - 1)
    have ed : ∀ (f1 f2 : Nat → Int32) (a b : Int32) (j : Nat), j < 4 → fc_X1_edge F (gSt σ f1 f2 a b) (I k) (I j) = some (I (B (4 * k + j))) := fun f1 f2 a b j hj => by
      rw [sc_edge k j (by omega) hj, ← hBB]
      exact congrArg some (bxI_I _ _)
    have ed0 : ∀ (f1 f2 : Nat → Int32) (a b : Int32), fc_X1_edge F (gSt σ f1 f2 a b) (I k) 0 = some (I (B (4 * k))) := fun f1 f2 a b => ed f1 f2 a b 0 (by omega)
    have ed1 : ∀ (f1 f2 : Nat → Int32) (a b : Int32), fc_X1_edge F (gSt σ f1 f2 a b) (I k) 1 = some (I (B (4 * k + 1))) := fun f1 f2 a b => ed f1 f2 a b 1 (by omega)
    have ed2 : ∀ (f1 f2 : Nat → Int32) (a b : Int32), fc_X1_edge F (gSt σ f1 f2 a b) (I k) 2 = some (I (B (4 * k + 2))) := fun f1 f2 a b => ed f1 f2 a b 2 (by omega)
    have ed3 : ∀ (f1 f2 : Nat → Int32) (a b : Int32), fc_X1_edge F (gSt σ f1 f2 a b) (I k) 3 = some (I (B (4 * k + 3))) := fun f1 f2 a b => ed f1 f2 a b 3 (by omega)
    have w1 : I (B (4 * k)) - 1 = I (B (4 * k) - 1) := by rw [I_1, I_sub]
    have w2 : I (B (4 * k + 2)) + 1 = I (B (4 * k + 2) + 1) := by rw [I_1, I_add]
    have w3 : I (B (4 * k + 1)) - 1 = I (B (4 * k + 1) - 1) := by rw [I_1, I_sub]
    have w4 : I (B (4 * k + 3)) + 1 = I (B (4 * k + 3) + 1) := by rw [I_1, I_add]
    have e2 : ¬ I nb ≤ I k := by rw [I_le] <;> omega
    obtain ⟨f1, h1, k1⟩ := sc_ins28 (σ := gSt σ fx' fy' (I (bxL B 0 2 k).1) (I (bxL B 1 3 k).1)) hF x1 (by omega) x2 (z := B (4 * k) - 1) (by omega) hx
    obtain ⟨f2, h2, k2⟩ := sc_ins28 (σ := gSt σ f1 fy' (I (insL (bxL B 0 2 k) (B (4 * k) - 1)).1) (I (bxL B 1 3 k).1)) hF (ins_srt x1) (by omega) (ins_bd x2 (by omega)) (z := B (4 * k + 2) + 1) (by omega) k1
    obtain ⟨f3, h3, k3⟩ := sc_ins29 (σ := gSt σ f2 fy' (I (bxL B 0 2 (k + 1)).1) (I (bxL B 1 3 k).1)) hF y1 (by omega) y2 (z := B (4 * k + 1) - 1) (by omega) hy
    obtain ⟨f4, h4, k4⟩ := sc_ins29 (σ := gSt σ f2 f3 (I (bxL B 0 2 (k + 1)).1) (I (insL (bxL B 1 3 k) (B (4 * k + 1) - 1)).1)) hF (ins_srt y1) (by omega) (ins_bd y2 (by omega)) (z := B (4 * k + 3) + 1) (by omega) k3
    refine Or.inr ⟨d, (gSt σ f2 f4 (I (bxL B 0 2 (k + 1)).1) (I (bxL B 1 3 (k + 1)).1), I ((k + 1 : Nat) : Int)), by omega, ⟨by omega, f2, f4, by rw [hk1], by rw [hk1]; exact k2, by rw [hk1]; exact k4⟩, fun rec => ?_⟩
    have g2 : (insL (insL (bxL B 0 2 k) (B (4 * k) - 1)) (B (4 * k + 2) + 1)) = bxL B 0 2 (k + 1) := rfl
    have g4 : (insL (insL (bxL B 1 3 k) (B (4 * k + 1) - 1)) (B (4 * k + 3) + 1)) = bxL B 1 3 (k + 1) := rfl
    rw [g2] at h2
    rw [g4] at h4
    show fc_X4_addLinesAround_L2_c F (fun σ x2 => rec (σ, x2)) (gSt σ fx' fy' (I (bxL B 0 2 k).1) (I (bxL B 1 3 k).1)) (I k) = _
    unfold fc_X4_addLinesAround_L2_c
    rw [gS_cb, h0, if_neg e2, ed0, bd_s, w1, g_x h1, ed2, bd_s, w2, g_x h2, ed1, bd_s, w3, g_y h3, ed3, bd_s, w4, g_y h4, lt_r, I_S]
theorem sc_through (hF : 100 ≤ F) {Lx Ly : LT} {fx fy : Nat → Int32} (x1 : SrtL Lx) (x2 : Lx.1 ≤ 17) (x3 : BdL Lx) (hx : RwL fx Lx) (y1 : SrtL Ly) (y2 : Ly.1 ≤ 17) (y3 : BdL Ly) (hy : RwL fy Ly) {x y : Int} (bx : 0 ≤ x ∧ x ≤ 99) (by_ : 0 ≤ y ∧ y ≤ 99) : ∃ fx' fy', fc_X4_addLinesThrough F (gSt σ fx fy (I Lx.1) (I Ly.1)) (I x) (I y) = some (gSt σ fx' fy' (I (insL Lx x).1) (I (insL Ly y).1)) ∧ RwL fx' (insL Lx x) ∧ RwL fy' (insL Ly y) := by
  obtain ⟨f1, h1, k1⟩ := sc_ins28 (σ := gSt σ fx fy (I Lx.1) (I Ly.1)) hF x1 x2 x3 bx hx
  obtain ⟨f2, h2, k2⟩ := sc_ins29 (σ := gSt σ f1 fy (I (insL Lx x).1) (I Ly.1)) hF y1 y2 y3 by_ hy
  refine ⟨f1, f2, ?_, k1, k2⟩
  unfold fc_X4_addLinesThrough
  rw [g_x h1, g_y h2]
/-- the rows of open steps, up to a place -/
def jnF (p : Nat → Bool) (old : Nat → Int32) (nx r c : Nat) : Nat → Int32 := fun n => if n % 18 < nx ∧ (n / 18 < r ∨ (n / 18 = r ∧ n % 18 < c)) then b2 (p n) else old n
theorem jnF_S {p : Nat → Bool} {old : Nat → Int32} {nx r c : Nat} (hc : c < nx) (hn : nx ≤ 18) {v : Int32} (hv : v = b2 (p (18 * r + c))) : upd (jnF p old nx r c) (18 * r + c) v = jnF p old nx r (c + 1) := by
  subst hv
  funext n
  unfold upd jnF
  by_cases h : n = 18 * r + c
  · subst h
    rw [if_pos rfl, if_pos (by omega)]
  · rw [if_neg h]
    by_cases h2 : n % 18 < nx ∧ (n / 18 < r ∨ (n / 18 = r ∧ n % 18 < c))
    · rw [if_pos h2, if_pos (by omega)]
    · rw [if_neg h2, if_neg (by omega)]
theorem jnF_E {p : Nat → Bool} {old : Nat → Int32} {nx r : Nat} : jnF p old nx r nx = jnF p old nx (r + 1) 0 := by
  funext n
  unfold jnF
  by_cases h2 : n % 18 < nx ∧ (n / 18 < r ∨ (n / 18 = r ∧ n % 18 < nx))
  · rw [if_pos h2, if_pos (by omega)]
  · rw [if_neg h2, if_neg (by omega)]
theorem jnF_0 {p : Nat → Bool} {old : Nat → Int32} {nx : Nat} : jnF p old nx 0 0 = old := by
  funext n
  unfold jnF
  rw [if_neg (by omega)]
def jSt (σ : CSt) (fr fd : Nat → Int32) : CSt := cs_goD_s (cs_goR_s σ fr) fd
theorem jS_R {fr fd v : Nat → Int32} : cs_goR_s (jSt σ fr fd) v = jSt σ v fd := rfl
theorem jS_D {fr fd v : Nat → Int32} : cs_goD_s (jSt σ fr fd) v = jSt σ fr v := rfl
theorem jS_r {fr fd : Nat → Int32} : cs_goR (jSt σ fr fd) = fr := rfl
theorem jS_d {fr fd : Nat → Int32} : cs_goD (jSt σ fr fd) = fd := rfl
theorem jS_gc {fr fd : Nat → Int32} : cs_gc (jSt σ fr fd) = cs_gc σ := rfl
theorem jS_gr {fr fd : Nat → Int32} : cs_gr (jSt σ fr fd) = cs_gr σ := rfl
theorem jS_gx {fr fd : Nat → Int32} : cs_gx (jSt σ fr fd) = cs_gx σ := rfl
theorem jS_gy {fr fd : Nat → Int32} : cs_gy (jSt σ fr fd) = cs_gy σ := rfl
/-- the lines of the class's grid -/
def LnC (σ : CSt) (A : GD) : Prop := cs_cb σ = I (d_nb A) ∧ d_nb A ≤ 8 ∧ (∀ k, k < d_nb A → BxB (d_B A) k) ∧ d_B A = bxI (cs_ce σ) ∧ cs_gc σ = I (d_nx A) ∧ cs_gr σ = I (d_ny A) ∧ d_nx A ≤ 18 ∧ d_ny A ≤ 18 ∧ (∀ j, j < d_nx A → cs_gx σ j = I (d_X A j) ∧ 0 ≤ d_X A j ∧ d_X A j ≤ 99) ∧ ∀ j, j < d_ny A → cs_gy σ j = I (d_Y A j) ∧ 0 ≤ d_Y A j ∧ d_Y A j ≤ 99
theorem b2_ne (b : Bool) : (b2 b = 0 ∨ b2 b = 1) := by cases b <;> decide
theorem sc_join (hF : 100 ≤ F) {A : GD} (h : LnC σ A) : fc_X4_joinNodes F σ = some (jSt σ (jnF (rtB A) (cs_goR σ) (d_nx A) (d_ny A) 0) (jnF (dnB A) (cs_goD σ) (d_nx A) (d_ny A) 0)) := by
  obtain ⟨h0, hnb, hB, hBB, hgc, hgr, hnx, hny, hX, hY⟩ := h
  refine lp_r (fun r => (jSt σ (jnF (rtB A) (cs_goR σ) (d_nx A) r 0) (jnF (dnB A) (cs_goD σ) (d_nx A) r 0), I r)) _ (d_ny A) (by rw [jnF_0, jnF_0]; rfl) (by omega) (fun r rec hr => ?_) (fun rec => ?_)
  · have e1 : ¬ I (d_ny A) ≤ I r := by rw [I_le] <;> omega
    simp only [fc_X4_joinNodes_L2_c, jS_gr, hgr, e1, if_false]
    refine lp_r (fun c => (jSt σ (jnF (rtB A) (cs_goR σ) (d_nx A) r c) (jnF (dnB A) (cs_goD σ) (d_nx A) r c), I r, I c)) _ (d_nx A) rfl (by omega) (fun c rec2 hc => ?_) (fun rec2 => ?_)
    · have e2 : ¬ I (d_nx A) ≤ I c := by rw [I_le] <;> omega
      have e3 : I r * 18 + I c = I ((18 * r + c : Nat) : Int) := by
        rw [show (18 : Int32) = I 18 from rfl, I_mul, I_add]
        exact congrArg I (by omega)
      obtain ⟨x1, x2, x3⟩ := hX c hc
      obtain ⟨y1, y2, y3⟩ := hY r hr
      have n1 : ((c : Nat) : Int).toNat = c := by omega
      have n2 : ((r : Nat) : Int).toNat = r := by omega
      have n3 : ((18 * r + c : Nat) : Int).toNat = 18 * r + c := by omega
      have n4 : ((c + 1 : Nat) : Int).toNat = c + 1 := by omega
      have n5 : ((r + 1 : Nat) : Int).toNat = r + 1 := by omega
      have fb : ∀ (fr fd : Nat → Int32) (a b : Int), 0 ≤ a → a ≤ 99 → 0 ≤ b → b ≤ 99 → fc_X1_firstBoxOn F (jSt σ fr fd) (I (d_X A c)) (I (d_Y A r)) (I a) (I b) = some (fbR (-1) (d_nb A) (blk (d_B A) (d_X A c) (d_Y A r) a b)) := fun fr fd a b a1 a2 b1 b2_ => by
        have := sc_first (F := F) (σ := jSt σ fr fd) (nb := d_nb A) hF h0 hnb (by rw [show cs_ce (jSt σ fr fd) = cs_ce σ from rfl, ← hBB]; exact hB) (x0 := d_X A c) (y0 := d_Y A r) (x1 := a) (y1 := b) (by omega) (by omega) (by omega) (by omega)
        rw [this, show cs_ce (jSt σ fr fd) = cs_ce σ from rfl, ← hBB]
      have f131 : ∀ (fr fd : Nat → Int32) (v : Int32), (v = 0 ∨ v = 1) → fc_X4_joinNodes_L131 F (fun σ x2 => rec (σ, x2)) (fun σ x2 x3 => rec2 (σ, x2, x3)) (jSt σ fr fd) (I r) (I c) v (I ((18 * r + c : Nat) : Int)) = rec2 (jSt σ fr (upd fd (18 * r + c) v), I r, I ((c + 1 : Nat) : Int)) := fun fr fd v hv => by
        simp (disch := omega) only [fc_X4_joinNodes_L131, I_ix, gd_T, gd_t hv, lt_r, sc_goD, I_cl, n3, jS_D, jS_d, I_S]
      have hdn : dnB A (18 * r + c) = (decide (r + 1 < d_ny A) && !anyN (blk (d_B A) (d_X A c) (d_Y A r) (d_X A c) (d_Y A (r + 1))) (d_nb A)) := by
        unfold dnB fre
        rw [show (18 * r + c) % 18 = c by omega, show (18 * r + c) / 18 = r by omega, decide_eq_true hc]
        rfl
      have hrt : rtB A (18 * r + c) = (decide (c + 1 < d_nx A) && !anyN (blk (d_B A) (d_X A c) (d_Y A r) (d_X A (c + 1)) (d_Y A r)) (d_nb A)) := by
        unfold rtB fre
        rw [show (18 * r + c) % 18 = c by omega, show (18 * r + c) / 18 = r by omega, decide_eq_true hr, Bool.and_true]
      have f87 : ∀ (fr fd : Nat → Int32) (v : Int32), (v = 0 ∨ v = 1) → fc_X4_joinNodes_L87 F (fun σ x2 => rec (σ, x2)) (fun σ x2 x3 => rec2 (σ, x2, x3)) (jSt σ fr fd) (I r) (I c) (I (d_X A c)) (I (d_Y A r)) (I ((18 * r + c : Nat) : Int)) v (I ((18 * r + c : Nat) : Int)) = rec2 (jSt σ (upd fr (18 * r + c) v) (upd fd (18 * r + c) (b2 (dnB A (18 * r + c)))), I r, I ((c + 1 : Nat) : Int)) := fun fr fd v hv => by
        by_cases c1 : r + 1 < d_ny A
        · have e4 : ¬ I (d_ny A) ≤ I ((r + 1 : Nat) : Int) := by rw [I_le] <;> omega
          obtain ⟨z1, z2, z3⟩ := hY (r + 1) c1
          simp (disch := omega) only [fc_X4_joinNodes_L87, I_ix, gd_T, gd_t hv, lt_r, sc_goR, I_cl, n3, jS_R, jS_r, jS_gr, hgr, I_S, e4, if_false, n5, jS_gy, z1, fb, bd_s, fbR_no hnb (Or.inl rfl), fc_X4_joinNodes_L130]
          rw [hdn, decide_eq_true c1, Bool.true_and]
          cases hq : anyN (blk (d_B A) (d_X A c) (d_Y A r) (d_X A c) (d_Y A (r + 1))) (d_nb A) with
          | false => simp only [if_true]; exact f131 _ _ _ (Or.inr rfl)
          | true => simp only [Bool.true_eq_false, if_false]; exact f131 _ _ _ (Or.inl rfl)
        · have e4 : I (d_ny A) ≤ I ((r + 1 : Nat) : Int) := by rw [I_le] <;> omega
          simp (disch := omega) only [fc_X4_joinNodes_L87, I_ix, gd_T, gd_t hv, lt_r, sc_goR, I_cl, n3, jS_R, jS_r, jS_gr, hgr, I_S, e4, if_true, fc_X4_joinNodes_L130]
          rw [hdn, decide_eq_false c1, Bool.false_and]
          exact f131 _ _ _ (Or.inl rfl)
      have fin : ∀ v, v = b2 (rtB A (18 * r + c)) → rec2 (jSt σ (upd (jnF (rtB A) (cs_goR σ) (d_nx A) r c) (18 * r + c) v) (upd (jnF (dnB A) (cs_goD σ) (d_nx A) r c) (18 * r + c) (b2 (dnB A (18 * r + c)))), I r, I ((c + 1 : Nat) : Int)) = rec2 (jSt σ (jnF (rtB A) (cs_goR σ) (d_nx A) r (c + 1)) (jnF (dnB A) (cs_goD σ) (d_nx A) r (c + 1)), I r, I ((c + 1 : Nat) : Int)) := fun v hv => by
        rw [jnF_S hc hnx hv, jnF_S hc hnx rfl]
      by_cases c2 : c + 1 < d_nx A
      · have e4 : ¬ I (d_nx A) ≤ I ((c + 1 : Nat) : Int) := by rw [I_le] <;> omega
        obtain ⟨z1, z2, z3⟩ := hX (c + 1) c2
        simp (disch := omega) only [fc_X4_joinNodes_L12_c, jS_gc, hgc, e2, if_false, I_ix, gd_T, I_cl, n1, n2, n4, jS_gx, jS_gy, x1, y1, lt_r, e3, I_S, e4, z1, fb, bd_s, fbR_no hnb (Or.inl rfl), fc_X4_joinNodes_L86]
        rw [decide_eq_true c2, Bool.true_and] at hrt
        cases hq : anyN (blk (d_B A) (d_X A c) (d_Y A r) (d_X A (c + 1)) (d_Y A r)) (d_nb A) with
        | false =>
          simp only [if_true]
          rw [f87 _ _ _ (Or.inr rfl)]
          exact fin _ (by rw [hrt, hq]; rfl)
        | true =>
          simp only [Bool.true_eq_false, if_false]
          rw [f87 _ _ _ (Or.inl rfl)]
          exact fin _ (by rw [hrt, hq]; rfl)
      · have e4 : I (d_nx A) ≤ I ((c + 1 : Nat) : Int) := by rw [I_le] <;> omega
        simp (disch := omega) only [fc_X4_joinNodes_L12_c, jS_gc, hgc, e2, if_false, I_ix, gd_T, I_cl, n1, n2, jS_gx, jS_gy, x1, y1, lt_r, e3, I_S, e4, if_true, fc_X4_joinNodes_L86]
        rw [f87 _ _ _ (Or.inl rfl)]
        exact fin _ (by rw [hrt, decide_eq_false c2]; rfl)
    · have e2 : I (d_nx A) ≤ I (d_nx A) := by rw [I_le] <;> omega
      simp only [fc_X4_joinNodes_L12_c, jS_gc, hgc, e2, if_true, lt_r, I_S, jnF_E]
  · have e1 : I (d_ny A) ≤ I (d_ny A) := by rw [I_le] <;> omega
    simp only [fc_X4_joinNodes_L2_c, jS_gr, hgr, e1, if_true]
end G2
