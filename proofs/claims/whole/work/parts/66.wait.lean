/-! the class's waiting lists -/
def oI : Option Nat → Int32
  | none => -1
  | some s => I s
theorem I_and255 (c : Nat) : I c &&& 255 = I ((c % 256 : Nat) : Int) := by
  rw [← I_nat, ← I_nat]
  apply Int32.toBitVec_inj.mp
  apply BitVec.eq_of_toNat_eq
  show (BitVec.ofNat 32 c &&& BitVec.ofNat 32 255).toNat = (BitVec.ofNat 32 (c % 256)).toNat
  rw [BitVec.toNat_and, BitVec.toNat_ofNat, BitVec.toNat_ofNat, BitVec.toNat_ofNat]
  have h := Nat.and_two_pow_sub_one_eq_mod (c % 2 ^ 32) 8
  rw [show (255 % 2 ^ 32 : Nat) = 2 ^ 8 - 1 from rfl, h]
  omega
theorem oI_neg {o : Option Nat} (h : ∀ s, o = some s → s < 1296) : (oI o < 0) = (o = none) := by
  cases o with
  | none => exact eq_true (by decide) |>.trans (eq_true rfl).symm
  | some s =>
    have := h s rfl
    have e : ¬ I s < 0 := by rw [I_0, I_lt] <;> omega
    simp [oI, e]
def PLs (W : Nat → Prop) (hA nA pA : Nat → Option Nat) (m rk : Nat → Nat) (T : Nat) : Prop :=
  (∀ l s, hA l = some s → W s ∧ m s = l ∧ pA s = none) ∧ (∀ s, W s → s < 1296 ∧ rk s < T) ∧ (∀ s t, W s → nA s = some t → W t ∧ m t = m s ∧ pA t = some s ∧ rk t < rk s) ∧ (∀ s, W s → pA s = none → hA (m s) = some s) ∧ ∀ s t, W s → pA s = some t → W t ∧ m t = m s ∧ nA t = some s ∧ rk s < rk t
section W2
variable {W : Nat → Prop} {hA nA pA : Nat → Option Nat} {m rk : Nat → Nat} {T : Nat}
/-- a list that holds one has a head -/
theorem PLs.head (h : PLs W hA nA pA m rk T) : ∀ d s, W s → T ≤ rk s + d → hA (m s) ≠ none
  | 0, s, hs, hd => by
    have := (h.2.1 s hs).2
    omega
  | d + 1, s, hs, hd => by
    cases hp : pA s with
    | none =>
      rw [h.2.2.2.1 s hs hp]
      simp
    | some t =>
      obtain ⟨a1, a2, a3, a4⟩ := h.2.2.2.2 s t hs hp
      rw [← a2]
      exact PLs.head h d t a1 (by omega)
def pPut (pA : Nat → Option Nat) (s : Nat) : Option Nat → Nat → Option Nat
  | none => va_up pA s none
  | some u => va_up (va_up pA s none) u (some s)
theorem PLs.put (h : PLs W hA nA pA m rk T) {s l : Nat} (hs : ¬ W s) (hs2 : s < 1296) : PLs (fun x => x = s ∨ W x) (va_up hA l (some s)) (va_up nA s (hA l)) (pPut pA s (hA l)) (va_up m s l) (va_up rk s T) (T + 1) := by
  obtain ⟨h1, h2, h3, h4, h5⟩ := h
  have hne : ∀ u, W u → u ≠ s := fun u hu e => hs (e ▸ hu)
  have hm : ∀ u, W u → va_up m s l u = m u := fun u hu => va_up_ne _ _ (hne u hu)
  have hms : va_up m s l s = l := va_up_self _ _ _
  have hrk : ∀ u, W u → va_up rk s T u = rk u := fun u hu => va_up_ne _ _ (hne u hu)
  have hrs : va_up rk s T s = T := va_up_self _ _ _
  have hn : ∀ u, W u → va_up nA s (hA l) u = nA u := fun u hu => va_up_ne _ _ (hne u hu)
  have hns : va_up nA s (hA l) s = hA l := va_up_self _ _ _
  have hp : ∀ u, W u → hA l ≠ some u → pPut pA s (hA l) u = pA u := fun u hu q => by
    cases hl : hA l with
    | none => exact va_up_ne _ _ (hne u hu)
    | some v =>
      have : u ≠ v := fun e => q (by rw [hl, e])
      exact (va_up_ne _ _ this).trans (va_up_ne _ _ (hne u hu))
  have hpo : ∀ u, hA l = some u → pPut pA s (hA l) u = some s := fun u hl => by
    rw [hl]
    exact va_up_self _ _ _
  have hps : pPut pA s (hA l) s = none := by
    cases hl : hA l with
    | none => exact va_up_self _ _ _
    | some v =>
      have hv := hne v (h1 l v hl).1
      exact (va_up_ne _ _ (Ne.symm hv)).trans (va_up_self _ _ _)
  refine ⟨fun l' u hu => ?_, fun u hu => ?_, fun u t hu ht => ?_, fun u hu hpu => ?_, fun u t hu ht => ?_⟩
  · by_cases c : l' = l
    · subst c
      rw [va_up_self] at hu
      cases hu
      exact ⟨Or.inl rfl, hms, hps⟩
    · rw [va_up_ne _ _ c] at hu
      obtain ⟨a1, a2, a3⟩ := h1 l' u hu
      refine ⟨Or.inr a1, by rw [hm u a1]; exact a2, ?_⟩
      rw [hp u a1 (fun q => c (by rw [← a2, (h1 l u q).2.1]))]
      exact a3
  · rcases hu with rfl | hu
    · exact ⟨hs2, by rw [hrs]; omega⟩
    · have := h2 u hu
      exact ⟨this.1, by rw [hrk u hu]; omega⟩
  · rcases hu with rfl | hu
    · rw [hns] at ht
      obtain ⟨a1, a2, a3⟩ := h1 l t ht
      refine ⟨Or.inr a1, by rw [hm t a1, hms]; exact a2, hpo t ht, ?_⟩
      rw [hrk t a1, hrs]
      exact (h2 t a1).2
    · rw [hn u hu] at ht
      obtain ⟨a1, a2, a3, a4⟩ := h3 u t hu ht
      refine ⟨Or.inr a1, by rw [hm t a1, hm u hu]; exact a2, ?_, by rw [hrk t a1, hrk u hu]; exact a4⟩
      rw [hp t a1 (fun q => by have := (h1 l t q).2.2; rw [a3] at this; cases this)]
      exact a3
  · rcases hu with rfl | hu
    · rw [hms]
      exact va_up_self _ _ _
    · by_cases c : hA l = some u
      · rw [hpo u c] at hpu
        cases hpu
      · rw [hp u hu c] at hpu
        have := h4 u hu hpu
        rw [hm u hu, va_up_ne _ _ (fun q => c (by rw [← q]; exact this))]
        exact this
  · rcases hu with rfl | hu
    · rw [hps] at ht
      cases ht
    · by_cases c : hA l = some u
      · rw [hpo u c] at ht
        cases ht
        obtain ⟨a1, a2, a3⟩ := h1 l u c
        exact ⟨Or.inl rfl, by rw [hms, hm u hu]; exact a2.symm, by rw [hns]; exact c, by rw [hrs, hrk u hu]; exact (h2 u hu).2⟩
      · rw [hp u hu c] at ht
        obtain ⟨a1, a2, a3, a4⟩ := h5 u t hu ht
        exact ⟨Or.inr a1, by rw [hm t a1, hm u hu]; exact a2, by rw [hn t a1]; exact a3, by rw [hrk t a1, hrk u hu]; exact a4⟩
def hRm (hA : Nat → Option Nat) (l : Nat) (b : Option Nat) : Option Nat → Nat → Option Nat
  | none => va_up hA l b
  | some _ => hA
def nRm (nA : Nat → Option Nat) (b : Option Nat) : Option Nat → Nat → Option Nat
  | none => nA
  | some a => va_up nA a b
theorem PLs.rem (h : PLs W hA nA pA m rk T) {s : Nat} (hs : W s) : PLs (fun x => W x ∧ x ≠ s) (hRm hA (m s) (nA s) (pA s)) (nRm nA (nA s) (pA s)) (nRm pA (pA s) (nA s)) m rk T := by
  obtain ⟨h1, h2, h3, h4, h5⟩ := h
  have nn : ∀ u, pA s ≠ some u → nRm nA (nA s) (pA s) u = nA u := fun u q => by
    cases hq : pA s with
    | none => rfl
    | some a => exact va_up_ne _ _ (fun e => q (by rw [hq, e]))
  have nm : ∀ u, pA s = some u → nRm nA (nA s) (pA s) u = nA s := fun u q => by
    rw [q]
    exact va_up_self _ _ _
  have pn : ∀ u, nA s ≠ some u → nRm pA (pA s) (nA s) u = pA u := fun u q => by
    cases hq : nA s with
    | none => rfl
    | some a => exact va_up_ne _ _ (fun e => q (by rw [hq, e]))
  have pm : ∀ u, nA s = some u → nRm pA (pA s) (nA s) u = pA s := fun u q => by
    rw [q]
    exact va_up_self _ _ _
  have hbs : ∀ b, nA s = some b → b ≠ s := fun b hb e => by
    have := (h3 s b hs hb).2.2.2
    rw [e] at this
    omega
  have has : ∀ a, pA s = some a → a ≠ s := fun a ha e => by
    have := (h5 s a hs ha).2.2.2
    rw [e] at this
    omega
  have hh : ∀ l, (l ≠ m s ∨ pA s ≠ none) → hRm hA (m s) (nA s) (pA s) l = hA l := fun l q => by
    cases hq : pA s with
    | none =>
      rcases q with q | q
      · exact va_up_ne _ _ q
      · exact absurd hq q
    | some a => rfl
  have hm0 : pA s = none → hRm hA (m s) (nA s) (pA s) (m s) = nA s := fun q => by
    rw [q]
    exact va_up_self _ _ _
  refine ⟨fun l u hu => ?_, fun u hu => h2 u hu.1, fun u t hu ht => ?_, fun u hu hpu => ?_, fun u t hu ht => ?_⟩
  · by_cases c : l = m s ∧ pA s = none
    · obtain ⟨rfl, c2⟩ := c
      rw [hm0 c2] at hu
      obtain ⟨a1, a2, a3, a4⟩ := h3 s u hs hu
      exact ⟨⟨a1, hbs u hu⟩, a2, by rw [pm u hu]; exact c2⟩
    · rw [hh l (by by_cases c3 : l = m s; exact Or.inr fun q => c ⟨c3, q⟩; exact Or.inl c3)] at hu
      obtain ⟨a1, a2, a3⟩ := h1 l u hu
      refine ⟨⟨a1, fun e => c ?_⟩, a2, ?_⟩
      · subst e
        exact ⟨a2.symm, a3⟩
      · rw [pn u (fun q => by have := (h3 s u hs q).2.2.1; rw [a3] at this; cases this)]
        exact a3
  · obtain ⟨hu, hus⟩ := hu
    by_cases c : pA s = some u
    · rw [nm u c] at ht
      obtain ⟨a1, a2, a3, a4⟩ := h3 s t hs ht
      obtain ⟨b1, b2, b3, b4⟩ := h5 s u hs c
      exact ⟨⟨a1, hbs t ht⟩, by omega, by rw [pm t ht]; exact c, by omega⟩
    · rw [nn u c] at ht
      obtain ⟨a1, a2, a3, a4⟩ := h3 u t hu ht
      have hts : t ≠ s := fun e => c (by rw [← e]; exact a3)
      refine ⟨⟨a1, hts⟩, a2, ?_, a4⟩
      rw [pn t (fun q => hus (by have := (h3 s t hs q).2.2.1; rw [a3] at this; exact Option.some.inj this))]
      exact a3
  · obtain ⟨hu, hus⟩ := hu
    by_cases c : nA s = some u
    · rw [pm u c] at hpu
      rw [(h3 s u hs c).2.1, hm0 hpu]
      exact c
    · rw [pn u c] at hpu
      have a := h4 u hu hpu
      rw [hh _ (by
        by_cases c3 : m u = m s
        · refine Or.inr fun q => hus ?_
          have b := h4 s hs q
          rw [c3, b] at a
          exact (Option.some.inj a).symm
        · exact Or.inl c3)]
      exact a
  · obtain ⟨hu, hus⟩ := hu
    by_cases c : nA s = some u
    · rw [pm u c] at ht
      obtain ⟨a1, a2, a3, a4⟩ := h3 s u hs c
      obtain ⟨b1, b2, b3, b4⟩ := h5 s t hs ht
      exact ⟨⟨b1, has t ht⟩, by omega, by rw [nm t ht]; exact c, by omega⟩
    · rw [pn u c] at ht
      obtain ⟨a1, a2, a3, a4⟩ := h5 u t hu ht
      have hts : t ≠ s := fun e => c (by rw [← e]; exact a3)
      refine ⟨⟨a1, hts⟩, a2, ?_, a4⟩
      rw [nn t (fun q => hus (by have := (h5 s t hs q).2.2.1; rw [a3] at this; exact Option.some.inj this))]
      exact a3
end W2
def wSt (σ : CSt) (rs hd nx pv : Nat → Int32) (re : Int32) : CSt := cs_wpv_s (cs_wnx_s (cs_whd_s (cs_wre_s (cs_frests_s σ rs) re) hd) nx) pv
section W3
variable {F : Nat} {σ : CSt} {rs hd nx pv f : Nat → Int32} {re v : Int32}
theorem wS_1 : cs_frests (wSt σ rs hd nx pv re) = rs := rfl
theorem wS_2 : cs_whd (wSt σ rs hd nx pv re) = hd := rfl
theorem wS_3 : cs_wnx (wSt σ rs hd nx pv re) = nx := rfl
theorem wS_4 : cs_wpv (wSt σ rs hd nx pv re) = pv := rfl
theorem wS_5 : cs_wre (wSt σ rs hd nx pv re) = re := rfl
theorem wS_6 : cs_frests_s (wSt σ rs hd nx pv re) f = wSt σ f hd nx pv re := rfl
theorem wS_7 : cs_whd_s (wSt σ rs hd nx pv re) f = wSt σ rs f nx pv re := rfl
theorem wS_8 : cs_wnx_s (wSt σ rs hd nx pv re) f = wSt σ rs hd f pv re := rfl
theorem wS_9 : cs_wpv_s (wSt σ rs hd nx pv re) f = wSt σ rs hd nx f re := rfl
theorem wS_10 : cs_wre_s (wSt σ rs hd nx pv re) v = wSt σ rs hd nx pv v := rfl
/-- the rows hold the lists -/
def WtR (hd nx pv : Nat → Int32) (W : Nat → Prop) (hA nA pA : Nat → Option Nat) : Prop := (∀ l, l < 256 → hd l = oI (hA l)) ∧ ∀ s, W s → nx s = oI (nA s) ∧ pv s = oI (pA s)
variable {W : Nat → Prop} {hA nA pA : Nat → Option Nat} {m rk : Nat → Nat} {T : Nat}
theorem sc_put (hP : PLs W hA nA pA m rk T) (hR : WtR hd nx pv W hA nA pA) {s c : Nat} (hs : ¬ W s) (hs2 : s < 1296) (hc : c < 1000000) : ∃ hd' nx' pv', fc_X7_put F (wSt σ rs hd nx pv re) (I s) (I c) = some (wSt σ rs hd' nx' pv' re) ∧ WtR hd' nx' pv' (fun x => x = s ∨ W x) (va_up hA (c % 256) (some s)) (va_up nA s (hA (c % 256))) (pPut pA s (hA (c % 256))) := by
  obtain ⟨r1, r2⟩ := hR
  have e1 : ((c % 256 : Nat) : Int).toNat = c % 256 := by omega
  have e2 : ((s : Nat) : Int).toNat = s := by omega
  have e3 := r1 (c % 256) (by omega)
  have e4 : (oI (hA (c % 256)) < 0) = (hA (c % 256) = none) := oI_neg fun u hu => (hP.2.1 u (hP.1 _ u hu).1).1
  cases hl : hA (c % 256) with
  | none =>
    rw [hl] at e3 e4
    have e5 : oI none < 0 := by rw [e4]
    refine ⟨upd hd (c % 256) (I s), upd nx s (-1), upd pv s (-1), ?_, fun l hl2 => ?_, fun u hu => ?_⟩
    · simp (disch := omega) only [fc_X7_put, fc_X7_put_L42, I_and255, lt_r, I_ix, gd_T, I_cl, e1, e2, wS_2, e3, sc_wnx, sc_wpv, sc_whd, wS_3, wS_4, wS_8, wS_9, wS_7, e5, if_true]
      rfl
    · show (if l = c % 256 then I s else hd l) = oI (if l = c % 256 then some s else hA l)
      by_cases q : l = c % 256
      · rw [if_pos q, if_pos q]; rfl
      · rw [if_neg q, if_neg q]; exact r1 l hl2
    · show (if u = s then (-1 : Int32) else nx u) = oI (if u = s then none else nA u) ∧ (if u = s then (-1 : Int32) else pv u) = oI (if u = s then none else pA u)
      by_cases q : u = s
      · rw [if_pos q, if_pos q, if_pos q, if_pos q]; exact ⟨rfl, rfl⟩
      · rw [if_neg q, if_neg q, if_neg q, if_neg q]
        exact r2 u (hu.resolve_left q)
  | some w =>
    have hw := hP.1 _ w hl
    have hw2 := (hP.2.1 w hw.1).1
    have hws : w ≠ s := fun e => hs (e ▸ hw.1)
    rw [hl] at e3 e4
    have e5 : ¬ I w < 0 := by rw [I_0, I_lt] <;> omega
    have e6 : ((w : Nat) : Int).toNat = w := by omega
    refine ⟨upd hd (c % 256) (I s), upd nx s (I w), upd (upd pv s (-1)) w (I s), ?_, fun l hl2 => ?_, fun u hu => ?_⟩
    · simp (disch := omega) only [fc_X7_put, fc_X7_put_L42, I_and255, lt_r, I_ix, gd_T, I_cl, e1, e2, wS_2, e3, sc_wnx, sc_wpv, sc_whd, wS_3, wS_4, wS_8, wS_9, wS_7, oI, e5, if_false, e6]
    · show (if l = c % 256 then I s else hd l) = oI (if l = c % 256 then some s else hA l)
      by_cases q : l = c % 256
      · rw [if_pos q, if_pos q]; rfl
      · rw [if_neg q, if_neg q]; exact r1 l hl2
    · show (if u = s then I w else nx u) = oI (if u = s then some w else nA u) ∧ (if u = w then I s else if u = s then (-1 : Int32) else pv u) = oI (if u = w then some s else if u = s then none else pA u)
      by_cases q : u = s
      · rw [if_pos q, if_pos q, if_neg (by omega), if_pos q, if_neg (by omega), if_pos q]; exact ⟨rfl, rfl⟩
      · rw [if_neg q, if_neg q, if_neg q, if_neg q]
        have := r2 u (hu.resolve_left q)
        refine ⟨this.1, ?_⟩
        by_cases q2 : u = w
        · rw [if_pos q2, if_pos q2]; rfl
        · rw [if_neg q2, if_neg q2]; exact this.2
theorem sc_rem (hP : PLs W hA nA pA m rk T) (hR : WtR hd nx pv W hA nA pA) {s c : Nat} (hs : W s) (hc : c % 256 = m s) (hc2 : c < 1000000) : ∃ hd' nx' pv', fc_X7_remove F (wSt σ rs hd nx pv re) (I s) (I c) = some (wSt σ rs hd' nx' pv' re) ∧ WtR hd' nx' pv' (fun x => W x ∧ x ≠ s) (hRm hA (m s) (nA s) (pA s)) (nRm nA (nA s) (pA s)) (nRm pA (pA s) (nA s)) := by
  obtain ⟨r1, r2⟩ := hR
  have hs2 := (hP.2.1 s hs).1
  have e2 : ((s : Nat) : Int).toNat = s := by omega
  obtain ⟨e3, e4⟩ := r2 s hs
  have e1 : ((c % 256 : Nat) : Int).toNat = m s := by omega
  have key : ∀ pv0, (∃ hd' nx', fc_X7_remove_L27 F (wSt σ rs hd nx pv0 re) (I c) (oI (nA s)) (oI (pA s)) = some (wSt σ rs hd' nx' pv0 re) ∧ (∀ l, l < 256 → hd' l = oI (hRm hA (m s) (nA s) (pA s) l)) ∧ ∀ u, (W u ∧ u ≠ s) → nx' u = oI (nRm nA (nA s) (pA s) u)) := fun pv0 => by
    cases hp : pA s with
    | none =>
      have e5 : oI none < 0 := by decide
      refine ⟨upd hd (m s) (oI (nA s)), nx, ?_, fun l hl2 => ?_, fun u hu => (r2 u hu.1).1⟩
      · simp (disch := omega) only [fc_X7_remove_L27, fc_X7_remove_L54, e5, if_true, I_and255, I_ix, gd_T, I_cl, e1, lt_r, sc_whd, wS_2, wS_7]
      · show (if l = m s then oI (nA s) else hd l) = oI (if l = m s then nA s else hA l)
        by_cases q : l = m s
        · rw [if_pos q, if_pos q]
        · rw [if_neg q, if_neg q]; exact r1 l hl2
    | some a =>
      have ha := hP.2.2.2.2 s a hs hp
      have ha2 := (hP.2.1 a ha.1).1
      have e5 : ¬ I a < 0 := by rw [I_0, I_lt] <;> omega
      have e6 : ((a : Nat) : Int).toNat = a := by omega
      refine ⟨hd, upd nx a (oI (nA s)), ?_, fun l hl2 => r1 l hl2, fun u hu => ?_⟩
      · simp (disch := omega) only [fc_X7_remove_L27, fc_X7_remove_L54, oI, e5, if_false, I_ix, gd_T, I_cl, e6, lt_r, sc_wnx, wS_3, wS_8]
      · show (if u = a then oI (nA s) else nx u) = oI (if u = a then nA s else nA u)
        by_cases q : u = a
        · rw [if_pos q, if_pos q]
        · rw [if_neg q, if_neg q]; exact (r2 u hu.1).1
  cases hn : nA s with
  | none =>
    obtain ⟨hd', nx', k1, k2, k3⟩ := key pv
    rw [hn] at k1 k2 k3 e3
    have e5 : oI none < 0 := by decide
    refine ⟨hd', nx', pv, ?_, k2, fun u hu => ⟨k3 u hu, (r2 u hu.1).2⟩⟩
    simp (disch := omega) only [fc_X7_remove, I_ix, gd_T, I_cl, e2, lt_r, wS_3, wS_4, e3, e4, e5, if_true]
    exact k1
  | some b =>
    have hb := hP.2.2.1 s b hs hn
    have hb2 := (hP.2.1 b hb.1).1
    have e5 : ¬ I b < 0 := by rw [I_0, I_lt] <;> omega
    have e6 : ((b : Nat) : Int).toNat = b := by omega
    obtain ⟨hd', nx', k1, k2, k3⟩ := key (upd pv b (oI (pA s)))
    rw [hn] at k1 k2 k3 e3
    refine ⟨hd', nx', upd pv b (oI (pA s)), ?_, k2, fun u hu => ⟨k3 u hu, ?_⟩⟩
    · have e7 : oI (some b) = I b := rfl
      rw [e7] at e3 k1
      simp (disch := omega) only [fc_X7_remove, I_ix, gd_T, I_cl, e2, lt_r, wS_3, wS_4, e3, e4, e5, if_false, sc_wpv, wS_9, e6]
      exact k1
    · show (if u = b then oI (pA s) else pv u) = oI (if u = b then pA s else pA u)
      by_cases q : u = b
      · rw [if_pos q, if_pos q]
      · rw [if_neg q, if_neg q]; exact (r2 u hu.1).2
end W3
