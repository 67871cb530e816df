def fm_command_L90 (F : Nat) (σ : MS) : Option (Int32 × MS) :=
  some ((0 : Int32), σ)
def fm_command_L56_c (F : Nat) (k56 : MS → Int32 → Int32 → Int32 → Int32 → Option (Int32 × MS)) (σ : MS) (x1 : Int32) (x2 : Int32) (x3 : Int32) (x4 : Int32) : Option (Int32 × MS) :=
  if x3 ≤ x4 then (if (ms_fine σ) = 0 then (fm_command_L90 F σ) else (if x1 = 0 then (fm_command_L90 F σ) else (if x2 = (1 : Int32) then (gd (ix (0 : Int32) 6 = true) (gd (ix (1 : Int32) 6 = true) (gd (ix (2 : Int32) 6 = true) (gd (ix (3 : Int32) 6 = true) (bd2 (fm_addBox F σ (ms_number σ (0 : Int32).toNatClampNeg) (ms_number σ (1 : Int32).toNatClampNeg) (ms_number σ (2 : Int32).toNatClampNeg) (ms_number σ (3 : Int32).toNatClampNeg)) (fun r153 σ153 => some (r153, σ153))))))) else if x2 = (2 : Int32) then (gd (ix (0 : Int32) 6 = true) (gd (ix (1 : Int32) 6 = true) (gd (ix (2 : Int32) 6 = true) (gd (ix (3 : Int32) 6 = true) (gd (ix (4 : Int32) 6 = true) (gd (ix (5 : Int32) 6 = true) (bd2 (fm_link F σ (ms_number σ (0 : Int32).toNatClampNeg) (ms_number σ (1 : Int32).toNatClampNeg) (ms_number σ (2 : Int32).toNatClampNeg) (ms_number σ (3 : Int32).toNatClampNeg) (ms_number σ (4 : Int32).toNatClampNeg) (ms_number σ (5 : Int32).toNatClampNeg)) (fun r194 σ194 => some (r194, σ194))))))))) else if x2 = (3 : Int32) then (gd (ix (0 : Int32) 6 = true) (bd2 (fm_route F σ (ms_number σ (0 : Int32).toNatClampNeg)) (fun r205 σ205 => some (r205, σ205)))) else if x2 = (4 : Int32) then (gd (ix (0 : Int32) 6 = true) (bd2 (fm_drop F σ (ms_number σ (0 : Int32).toNatClampNeg)) (fun r216 σ216 => some (r216, σ216)))) else if x2 = (5 : Int32) then (gd (ix (0 : Int32) 6 = true) (bd2 (fm_setPenalty F σ (ms_number σ (0 : Int32).toNatClampNeg)) (fun r227 σ227 => some (r227, σ227)))) else (bd2 (fm_routeAll F σ) (fun r232 σ232 => some (r232, σ232)))))) else (bd2 (fm_readsNumber F σ) (fun r69 σ69 => gd (ix x4 6 = true) (lt (st_number σ69 x4 r69) (fun σ72 => lt (x4 + (1 : Int32)) (fun x4_73 => k56 σ72 x1 x2 x3 x4_73)))))
def fm_command_L56 (F : Nat) (n : Nat) (σ : MS) (x1 : Int32) (x2 : Int32) (x3 : Int32) (x4 : Int32) : Option (Int32 × MS) := lpN (fun (k : MS × Int32 × Int32 × Int32 × Int32 → Option (Int32 × MS)) a => fm_command_L56_c F (fun σ x1 x2 x3 x4 => k (σ, x1, x2, x3, x4)) a.1 a.2.1 a.2.2.1 a.2.2.2.1 a.2.2.2.2) n (σ, x1, x2, x3, x4)
def fm_command_L50 (F : Nat) (σ : MS) (x1 : Int32) (x2 : Int32) (x3 : Int32) (s0 : Int32) : Option (Int32 × MS) :=
  gd (s0 = 0 ∨ s0 = 1) (lt (ms_fine_s σ s0) (fun σ50 => fm_command_L56 F F σ50 x1 x2 x3 (0 : Int32)))
def fm_command_L39 (F : Nat) (σ : MS) (x1 : Int32) (x2 : Int32) (s0 : Int32) : Option (Int32 × MS) :=
  if x2 ≤ 0 then (fm_command_L50 F σ x1 x2 s0 (0 : Int32)) else (fm_command_L50 F σ x1 x2 s0 (1 : Int32))
def fm_command_L34 (F : Nat) (σ : MS) (x1 : Int32) (x2 : Int32) : Option (Int32 × MS) :=
  fm_command_L39 F σ x1 x2 (0 : Int32)
def fm_command (F : Nat) (σ : MS) (x1 : Int32) : Option (Int32 × MS) :=
  bd2 (fm_word F σ) (fun r1 σ1 => if r1 = (1 : Int32) then (fm_command_L39 F σ1 x1 r1 (4 : Int32)) else (if r1 = (2 : Int32) then (fm_command_L39 F σ1 x1 r1 (6 : Int32)) else (if r1 = 0 then (fm_command_L34 F σ1 x1 r1) else (if r1 = (6 : Int32) then (fm_command_L34 F σ1 x1 r1) else (fm_command_L39 F σ1 x1 r1 (1 : Int32))))))
set_option maxHeartbeats 4000000 in
set_option maxRecDepth 100000 in
theorem km_command (l : Launch) (D : va_G) (cA : Nat → ClassId) (ad : Nat → Nat) (σ0 : MS) (F : Nat) (a1 : Int32) (r : Int32) (σr : MS) (hf : fm_command F σ0 a1 = some (r, σr)) : KW l D (tyG cA) yX10_command cX10_command 5 (some .int) (rmk 7 173) (wM cA ad σ0) [.ref (ad 0), .int a1] (some (.int r)) (wM cA ad σr) := by
  refine KW.of (by decide) (Nat.le_of_ble_eq_true rfl) ?_
  intro p e s m below meth c A hAe hA C hr hlk hK hP hD hS ls hl
  have hl : lv_has ls 5 [(0, .ref (ad 0)), (1, .int a1)] := hl
  have hB90 : ∀ (H : Heap) (locs : List Loc) (σ : MS) (ls : Array Slot), va_P D vwCl (wM cA ad σ) H → va_D A (wM cA ad σ) → va_S A s.heap H locs → lv_has ls 5 [(0, .ref (ad 0))] → fm_command_L90 F σ = some (r, σr) → WQ p l e 7 173 s m [.ref (ad 0), .int a1] below meth c (some (.int r)) D (tyG cA) (wM cA ad σ0) (wM cA ad σr) A H locs (F0 m 90 ls []) := by
    intro H locs σ ls hP hD hS hl hf
    unfold fm_command_L90 at hf
    refine lv_iconst (v := (0 : Int32)) C.1 C.2.1 dX10_command_90 (by decide) ?_
    obtain ⟨rfl, rfl⟩ := Prod.mk.inj (Option.some.inj hf)
    exact KW.iret C hr hlk hK hAe hP hD hS rfl dX10_command_91
  have hB56 : ∀ (n56 : Nat) (H : Heap) (locs : List Loc) (σ : MS) (ls : Array Slot) (x1 : Int32) (x2 : Int32) (x3 : Int32) (x4 : Int32), va_P D vwCl (wM cA ad σ) H → va_D A (wM cA ad σ) → va_S A s.heap H locs → lv_has ls 5 [(0, .ref (ad 0)), (1, .int x1), (2, .int x2), (3, .int x3), (4, .int x4)] → fm_command_L56 F n56 σ x1 x2 x3 x4 = some (r, σr) → WQ p l e 7 173 s m [.ref (ad 0), .int a1] below meth c (some (.int r)) D (tyG cA) (wM cA ad σ0) (wM cA ad σr) A H locs (F0 m 56 ls []) := by
    intro n56
    induction n56 with
    | zero =>
      intro H locs σ ls x1 x2 x3 x4 hP hD hS hl hf
      cases (show (none : Option _) = _ from hf)
    | succ n56 ih56 =>
      intro H locs σ ls x1 x2 x3 x4 hP hD hS hl hf
      have hf : fm_command_L56_c F (fm_command_L56 F n56) σ x1 x2 x3 x4 = some (r, σr) := hf
      unfold fm_command_L56_c at hf
      refine lv_iload C.1 C.2.1 dX10_command_56 (lv_at hl 4 rfl) ?_
      refine lv_iload_n C.1 C.2.1 dX10_command_58 rfl (lv_at hl 3 rfl) ?_
      refine lv_icmp_ge (tgt := 79) C.1 C.2.1 dX10_command_59 (by decide) (fun c59 => ?_) (fun c59 => ?_)
      · have hf := br_p c59 hf
        refine lv_aload_n C.1 C.2.1 dX10_command_79 rfl (lv_at hl 0 rfl) ?_
        refine gm_fine C hK hP dX10_command_80 ?_
        refine lv_if_eq (tgt := 90) C.1 C.2.1 dX10_command_83 (by decide) (fun c83 => ?_) (fun c83 => ?_)
        · have hf := br_p c83 hf
          exact hB90 _ _ _ ls hP hD hS (lv_sub hl [0] rfl) hf
        · have hf := br_n c83 hf
          refine lv_iload_n C.1 C.2.1 dX10_command_86 rfl (lv_at hl 1 rfl) ?_
          refine lv_if_ne (tgt := 92) C.1 C.2.1 dX10_command_87 (by decide) (fun c87 => ?_) (fun c87 => ?_)
          · have hf := br_n c87 hf
            refine lv_iload_n C.1 C.2.1 dX10_command_92 rfl (lv_at hl 2 rfl) ?_
            by_cases c93_1 : x2 = (1 : Int32)
            · have hf := br_p c93_1 hf
              refine lv_tableIn (tgt := 128) C.1 C.2.1 dX10_command_93 (by rw [c93_1]; decide) (by rw [c93_1]; decide) (by rw [c93_1]; rfl) (by decide) ?_
              refine lv_aload_n C.1 C.2.1 dX10_command_128 rfl (lv_at hl 0 rfl) ?_
              refine lv_aload_n C.1 C.2.1 dX10_command_129 rfl (lv_at hl 0 rfl) ?_
              refine gm_number C hK hP dX10_command_130 ?_
              refine lv_iconst (v := (0 : Int32)) C.1 C.2.1 dX10_command_133 (by decide) ?_
              obtain ⟨hi134, hf⟩ := gd_some hf
              refine lm_number C hK hP hi134 dX10_command_134 ?_
              refine lv_aload_n C.1 C.2.1 dX10_command_135 rfl (lv_at hl 0 rfl) ?_
              refine gm_number C hK hP dX10_command_136 ?_
              refine lv_iconst (v := (1 : Int32)) C.1 C.2.1 dX10_command_139 (by decide) ?_
              obtain ⟨hi140, hf⟩ := gd_some hf
              refine lm_number C hK hP hi140 dX10_command_140 ?_
              refine lv_aload_n C.1 C.2.1 dX10_command_141 rfl (lv_at hl 0 rfl) ?_
              refine gm_number C hK hP dX10_command_142 ?_
              refine lv_iconst (v := (2 : Int32)) C.1 C.2.1 dX10_command_145 (by decide) ?_
              obtain ⟨hi146, hf⟩ := gd_some hf
              refine lm_number C hK hP hi146 dX10_command_146 ?_
              refine lv_aload_n C.1 C.2.1 dX10_command_147 rfl (lv_at hl 0 rfl) ?_
              refine gm_number C hK hP dX10_command_148 ?_
              refine lv_iconst (v := (3 : Int32)) C.1 C.2.1 dX10_command_151 (by decide) ?_
              obtain ⟨hi152, hf⟩ := gd_some hf
              refine lm_number C hK hP hi152 dX10_command_152 ?_
              obtain ⟨r153, σ153, hc153, hf⟩ := bd2_some hf
              refine callWV (As := [_, _, _, _]) C hK hP hD hA hS wv_X10_271 hl (km_addBox l D cA ad _ F _ _ _ _ r153 σ153 hc153) (rcM hK hP) rfl rfl rfl (Nat.le_of_ble_eq_true rfl) ⟨Nat.le_refl _, Nat.le_refl _⟩ dX10_command_153 (fun H locs hP hD hS => ?_)
              obtain ⟨rfl, rfl⟩ := Prod.mk.inj (Option.some.inj hf)
              exact KW.iret C hr hlk hK hAe hP hD hS rfl dX10_command_156
            have hf := br_n c93_1 hf
            by_cases c93_2 : x2 = (2 : Int32)
            · have hf := br_p c93_2 hf
              refine lv_tableIn (tgt := 157) C.1 C.2.1 dX10_command_93 (by rw [c93_2]; decide) (by rw [c93_2]; decide) (by rw [c93_2]; rfl) (by decide) ?_
              refine lv_aload_n C.1 C.2.1 dX10_command_157 rfl (lv_at hl 0 rfl) ?_
              refine lv_aload_n C.1 C.2.1 dX10_command_158 rfl (lv_at hl 0 rfl) ?_
              refine gm_number C hK hP dX10_command_159 ?_
              refine lv_iconst (v := (0 : Int32)) C.1 C.2.1 dX10_command_162 (by decide) ?_
              obtain ⟨hi163, hf⟩ := gd_some hf
              refine lm_number C hK hP hi163 dX10_command_163 ?_
              refine lv_aload_n C.1 C.2.1 dX10_command_164 rfl (lv_at hl 0 rfl) ?_
              refine gm_number C hK hP dX10_command_165 ?_
              refine lv_iconst (v := (1 : Int32)) C.1 C.2.1 dX10_command_168 (by decide) ?_
              obtain ⟨hi169, hf⟩ := gd_some hf
              refine lm_number C hK hP hi169 dX10_command_169 ?_
              refine lv_aload_n C.1 C.2.1 dX10_command_170 rfl (lv_at hl 0 rfl) ?_
              refine gm_number C hK hP dX10_command_171 ?_
              refine lv_iconst (v := (2 : Int32)) C.1 C.2.1 dX10_command_174 (by decide) ?_
              obtain ⟨hi175, hf⟩ := gd_some hf
              refine lm_number C hK hP hi175 dX10_command_175 ?_
              refine lv_aload_n C.1 C.2.1 dX10_command_176 rfl (lv_at hl 0 rfl) ?_
              refine gm_number C hK hP dX10_command_177 ?_
              refine lv_iconst (v := (3 : Int32)) C.1 C.2.1 dX10_command_180 (by decide) ?_
              obtain ⟨hi181, hf⟩ := gd_some hf
              refine lm_number C hK hP hi181 dX10_command_181 ?_
              refine lv_aload_n C.1 C.2.1 dX10_command_182 rfl (lv_at hl 0 rfl) ?_
              refine gm_number C hK hP dX10_command_183 ?_
              refine lv_iconst (v := (4 : Int32)) C.1 C.2.1 dX10_command_186 (by decide) ?_
              obtain ⟨hi187, hf⟩ := gd_some hf
              refine lm_number C hK hP hi187 dX10_command_187 ?_
              refine lv_aload_n C.1 C.2.1 dX10_command_188 rfl (lv_at hl 0 rfl) ?_
              refine gm_number C hK hP dX10_command_189 ?_
              refine lv_iconst (v := (5 : Int32)) C.1 C.2.1 dX10_command_192 (by decide) ?_
              obtain ⟨hi193, hf⟩ := gd_some hf
              refine lm_number C hK hP hi193 dX10_command_193 ?_
              obtain ⟨r194, σ194, hc194, hf⟩ := bd2_some hf
              refine callWV (As := [_, _, _, _, _, _]) C hK hP hD hA hS wv_X10_274 hl (km_link l D cA ad _ F _ _ _ _ _ _ r194 σ194 hc194) (rcM hK hP) rfl rfl rfl (Nat.le_of_ble_eq_true rfl) ⟨Nat.le_refl _, Nat.le_refl _⟩ dX10_command_194 (fun H locs hP hD hS => ?_)
              obtain ⟨rfl, rfl⟩ := Prod.mk.inj (Option.some.inj hf)
              exact KW.iret C hr hlk hK hAe hP hD hS rfl dX10_command_197
            have hf := br_n c93_2 hf
            by_cases c93_3 : x2 = (3 : Int32)
            · have hf := br_p c93_3 hf
              refine lv_tableIn (tgt := 198) C.1 C.2.1 dX10_command_93 (by rw [c93_3]; decide) (by rw [c93_3]; decide) (by rw [c93_3]; rfl) (by decide) ?_
              refine lv_aload_n C.1 C.2.1 dX10_command_198 rfl (lv_at hl 0 rfl) ?_
              refine lv_aload_n C.1 C.2.1 dX10_command_199 rfl (lv_at hl 0 rfl) ?_
              refine gm_number C hK hP dX10_command_200 ?_
              refine lv_iconst (v := (0 : Int32)) C.1 C.2.1 dX10_command_203 (by decide) ?_
              obtain ⟨hi204, hf⟩ := gd_some hf
              refine lm_number C hK hP hi204 dX10_command_204 ?_
              obtain ⟨r205, σ205, hc205, hf⟩ := bd2_some hf
              refine callWV (As := [_]) C hK hP hD hA hS wv_X10_278 hl (km_route l D cA ad _ F _ r205 σ205 hc205) (rcM hK hP) rfl rfl rfl (Nat.le_of_ble_eq_true rfl) ⟨Nat.le_refl _, Nat.le_refl _⟩ dX10_command_205 (fun H locs hP hD hS => ?_)
              obtain ⟨rfl, rfl⟩ := Prod.mk.inj (Option.some.inj hf)
              exact KW.iret C hr hlk hK hAe hP hD hS rfl dX10_command_208
            have hf := br_n c93_3 hf
            by_cases c93_4 : x2 = (4 : Int32)
            · have hf := br_p c93_4 hf
              refine lv_tableIn (tgt := 209) C.1 C.2.1 dX10_command_93 (by rw [c93_4]; decide) (by rw [c93_4]; decide) (by rw [c93_4]; rfl) (by decide) ?_
              refine lv_aload_n C.1 C.2.1 dX10_command_209 rfl (lv_at hl 0 rfl) ?_
              refine lv_aload_n C.1 C.2.1 dX10_command_210 rfl (lv_at hl 0 rfl) ?_
              refine gm_number C hK hP dX10_command_211 ?_
              refine lv_iconst (v := (0 : Int32)) C.1 C.2.1 dX10_command_214 (by decide) ?_
              obtain ⟨hi215, hf⟩ := gd_some hf
              refine lm_number C hK hP hi215 dX10_command_215 ?_
              obtain ⟨r216, σ216, hc216, hf⟩ := bd2_some hf
              refine callWV (As := [_]) C hK hP hD hA hS wv_X10_281 hl (km_drop l D cA ad _ F _ r216 σ216 hc216) (rcM hK hP) rfl rfl rfl (Nat.le_of_ble_eq_true rfl) ⟨Nat.le_refl _, Nat.le_refl _⟩ dX10_command_216 (fun H locs hP hD hS => ?_)
              obtain ⟨rfl, rfl⟩ := Prod.mk.inj (Option.some.inj hf)
              exact KW.iret C hr hlk hK hAe hP hD hS rfl dX10_command_219
            have hf := br_n c93_4 hf
            by_cases c93_5 : x2 = (5 : Int32)
            · have hf := br_p c93_5 hf
              refine lv_tableIn (tgt := 220) C.1 C.2.1 dX10_command_93 (by rw [c93_5]; decide) (by rw [c93_5]; decide) (by rw [c93_5]; rfl) (by decide) ?_
              refine lv_aload_n C.1 C.2.1 dX10_command_220 rfl (lv_at hl 0 rfl) ?_
              refine lv_aload_n C.1 C.2.1 dX10_command_221 rfl (lv_at hl 0 rfl) ?_
              refine gm_number C hK hP dX10_command_222 ?_
              refine lv_iconst (v := (0 : Int32)) C.1 C.2.1 dX10_command_225 (by decide) ?_
              obtain ⟨hi226, hf⟩ := gd_some hf
              refine lm_number C hK hP hi226 dX10_command_226 ?_
              obtain ⟨r227, σ227, hc227, hf⟩ := bd2_some hf
              refine callWV (As := [_]) C hK hP hD hA hS wv_X10_284 hl (km_setPenalty l D cA ad _ F _ r227 σ227 hc227) (rcM hK hP) rfl rfl rfl (Nat.le_of_ble_eq_true rfl) ⟨Nat.le_refl _, Nat.le_refl _⟩ dX10_command_227 (fun H locs hP hD hS => ?_)
              obtain ⟨rfl, rfl⟩ := Prod.mk.inj (Option.some.inj hf)
              exact KW.iret C hr hlk hK hAe hP hD hS rfl dX10_command_230
            have hf := br_n c93_5 hf
            refine lv_tableOut (tgt := 231) C.1 C.2.1 dX10_command_93 (by have q1 : ¬ x2.toInt = 1 := lv_neT c93_1 (by decide); have q2 : ¬ x2.toInt = 2 := lv_neT c93_2 (by decide); have q3 : ¬ x2.toInt = 3 := lv_neT c93_3 (by decide); have q4 : ¬ x2.toInt = 4 := lv_neT c93_4 (by decide); have q5 : ¬ x2.toInt = 5 := lv_neT c93_5 (by decide); omega) (by decide) ?_
            refine lv_aload_n C.1 C.2.1 dX10_command_231 rfl (lv_at hl 0 rfl) ?_
            obtain ⟨r232, σ232, hc232, hf⟩ := bd2_some hf
            refine callWV (As := []) C hK hP hD hA hS wv_X10_287 hl (km_routeAll l D cA ad _ F r232 σ232 hc232) (rcM hK hP) rfl rfl rfl (Nat.le_of_ble_eq_true rfl) ⟨Nat.le_refl _, Nat.le_refl _⟩ dX10_command_232 (fun H locs hP hD hS => ?_)
            obtain ⟨rfl, rfl⟩ := Prod.mk.inj (Option.some.inj hf)
            exact KW.iret C hr hlk hK hAe hP hD hS rfl dX10_command_235
          · have hf := br_p c87 hf
            exact hB90 _ _ _ ls hP hD hS (lv_sub hl [0] rfl) hf
      · have hf := br_n c59 hf
        refine lv_aload_n C.1 C.2.1 dX10_command_62 rfl (lv_at hl 0 rfl) ?_
        refine gm_number C hK hP dX10_command_63 ?_
        refine lv_iload C.1 C.2.1 dX10_command_66 (lv_at hl 4 rfl) ?_
        refine lv_aload_n C.1 C.2.1 dX10_command_68 rfl (lv_at hl 0 rfl) ?_
        obtain ⟨r69, σ69, hc69, hf⟩ := bd2_some hf
        refine callWV (As := []) C hK hP hD hA hS wv_X10_268 hl (km_readsNumber l D cA ad _ F r69 σ69 hc69) (rcM hK hP) rfl rfl rfl (Nat.le_of_ble_eq_true rfl) ⟨Nat.le_refl _, Nat.le_refl _⟩ dX10_command_69 (fun H locs hP hD hS => ?_)
        obtain ⟨hi72, hf⟩ := gd_some hf
        replace hf := lt_e hf
        refine sm_number C hK hP hD hS hi72 dX10_command_72 (fun H locs hP hD hS => ?_)
        obtain ⟨x4_73, ex4_73, hf⟩ := lt_some hf
        refine lv_iinc (v := x4_73) (lv' := [(4, .int x4_73), (0, .ref (ad 0)), (1, .int x1), (2, .int x2), (3, .int x3)]) C.1 C.2.1 dX10_command_73 hl (k := 4) rfl (by rw [ex4_73]; rfl) (by decide) rfl (fun ls hl => ?_)
        refine lv_goto (tgt := 56) C.1 C.2.1 dX10_command_76 (by decide) ?_
        exact ih56 _ _ _ ls _ _ _ _ hP hD hS (lv_sub hl [1, 2, 3, 4, 0] rfl) hf
  have hB50 : ∀ (H : Heap) (locs : List Loc) (σ : MS) (ls : Array Slot) (x1 : Int32) (x2 : Int32) (x3 : Int32) (s0 : Int32), va_P D vwCl (wM cA ad σ) H → va_D A (wM cA ad σ) → va_S A s.heap H locs → lv_has ls 5 [(0, .ref (ad 0)), (1, .int x1), (2, .int x2), (3, .int x3)] → fm_command_L50 F σ x1 x2 x3 s0 = some (r, σr) → WQ p l e 7 173 s m [.ref (ad 0), .int a1] below meth c (some (.int r)) D (tyG cA) (wM cA ad σ0) (wM cA ad σr) A H locs (F0 m 50 ls [.int s0, .ref (ad 0)]) := by
    intro H locs σ ls x1 x2 x3 s0 hP hD hS hl hf
    unfold fm_command_L50 at hf
    obtain ⟨hz50, hf⟩ := gd_some hf
    replace hf := lt_e hf
    refine pm_fine C hK hP hD hS hz50 dX10_command_50 (fun H locs hP hD hS => ?_)
    refine lv_iconst (v := (0 : Int32)) C.1 C.2.1 dX10_command_53 (by decide) ?_
    refine lv_istore (lv' := [(4, .int (0 : Int32)), (0, .ref (ad 0)), (1, .int x1), (2, .int x2), (3, .int x3)]) C.1 C.2.1 dX10_command_54 hl (by decide) rfl (fun ls hl => ?_)
    exact hB56 F _ _ _ ls _ _ _ _ hP hD hS (lv_sub hl [1, 2, 3, 4, 0] rfl) hf
  have hB39 : ∀ (H : Heap) (locs : List Loc) (σ : MS) (ls : Array Slot) (x1 : Int32) (x2 : Int32) (s0 : Int32), va_P D vwCl (wM cA ad σ) H → va_D A (wM cA ad σ) → va_S A s.heap H locs → lv_has ls 5 [(0, .ref (ad 0)), (1, .int x1), (2, .int x2)] → fm_command_L39 F σ x1 x2 s0 = some (r, σr) → WQ p l e 7 173 s m [.ref (ad 0), .int a1] below meth c (some (.int r)) D (tyG cA) (wM cA ad σ0) (wM cA ad σr) A H locs (F0 m 39 ls [.int s0]) := by
    intro H locs σ ls x1 x2 s0 hP hD hS hl hf
    unfold fm_command_L39 at hf
    refine lv_istore_n (lv' := [(3, .int s0), (0, .ref (ad 0)), (1, .int x1), (2, .int x2)]) C.1 C.2.1 dX10_command_39 rfl hl (by decide) rfl (fun ls hl => ?_)
    refine lv_aload_n C.1 C.2.1 dX10_command_40 rfl (lv_at hl 1 rfl) ?_
    refine lv_iload_n C.1 C.2.1 dX10_command_41 rfl (lv_at hl 3 rfl) ?_
    refine lv_if_le (tgt := 49) C.1 C.2.1 dX10_command_42 (by decide) (fun c42 => ?_) (fun c42 => ?_)
    · have hf := br_p c42 hf
      refine lv_iconst (v := (0 : Int32)) C.1 C.2.1 dX10_command_49 (by decide) ?_
      exact hB50 _ _ _ ls _ _ _ _ hP hD hS (lv_sub hl [1, 2, 3, 0] rfl) hf
    · have hf := br_n c42 hf
      refine lv_iconst (v := (1 : Int32)) C.1 C.2.1 dX10_command_45 (by decide) ?_
      refine lv_goto (tgt := 50) C.1 C.2.1 dX10_command_46 (by decide) ?_
      exact hB50 _ _ _ ls _ _ _ _ hP hD hS (lv_sub hl [1, 2, 3, 0] rfl) hf
  have hB34 : ∀ (H : Heap) (locs : List Loc) (σ : MS) (ls : Array Slot) (x1 : Int32) (x2 : Int32), va_P D vwCl (wM cA ad σ) H → va_D A (wM cA ad σ) → va_S A s.heap H locs → lv_has ls 5 [(0, .ref (ad 0)), (1, .int x1), (2, .int x2)] → fm_command_L34 F σ x1 x2 = some (r, σr) → WQ p l e 7 173 s m [.ref (ad 0), .int a1] below meth c (some (.int r)) D (tyG cA) (wM cA ad σ0) (wM cA ad σr) A H locs (F0 m 34 ls []) := by
    intro H locs σ ls x1 x2 hP hD hS hl hf
    unfold fm_command_L34 at hf
    refine lv_iconst (v := (0 : Int32)) C.1 C.2.1 dX10_command_34 (by decide) ?_
    refine lv_goto (tgt := 39) C.1 C.2.1 dX10_command_35 (by decide) ?_
    exact hB39 _ _ _ ls _ _ _ hP hD hS (lv_sub hl [0, 1, 2] rfl) hf
  unfold fm_command at hf
  refine lv_aload_n C.1 C.2.1 dX10_command_0 rfl (lv_at hl 0 rfl) ?_
  obtain ⟨r1, σ1, hc1, hf⟩ := bd2_some hf
  refine callWV (As := []) C hK hP hD hA hS wv_X10_265 hl (km_word l D cA ad _ F r1 σ1 hc1) (rcM hK hP) rfl rfl rfl (Nat.le_of_ble_eq_true rfl) ⟨Nat.le_refl _, Nat.le_refl _⟩ dX10_command_1 (fun H locs hP hD hS => ?_)
  refine lv_istore_n (lv' := [(2, .int r1), (0, .ref (ad 0)), (1, .int a1)]) C.1 C.2.1 dX10_command_4 rfl hl (by decide) rfl (fun ls hl => ?_)
  refine lv_iload_n C.1 C.2.1 dX10_command_5 rfl (lv_at hl 0 rfl) ?_
  refine lv_iconst (v := (1 : Int32)) C.1 C.2.1 dX10_command_6 (by decide) ?_
  refine lv_icmp_ne (tgt := 14) C.1 C.2.1 dX10_command_7 (by decide) (fun c7 => ?_) (fun c7 => ?_)
  · have hf := br_n c7 hf
    refine lv_iload_n C.1 C.2.1 dX10_command_14 rfl (lv_at hl 0 rfl) ?_
    refine lv_iconst (v := (2 : Int32)) C.1 C.2.1 dX10_command_15 (by decide) ?_
    refine lv_icmp_ne (tgt := 24) C.1 C.2.1 dX10_command_16 (by decide) (fun c16 => ?_) (fun c16 => ?_)
    · have hf := br_n c16 hf
      refine lv_iload_n C.1 C.2.1 dX10_command_24 rfl (lv_at hl 0 rfl) ?_
      refine lv_if_eq (tgt := 34) C.1 C.2.1 dX10_command_25 (by decide) (fun c25 => ?_) (fun c25 => ?_)
      · have hf := br_p c25 hf
        exact hB34 _ _ _ ls _ _ hP hD hS (lv_sub hl [1, 2, 0] rfl) hf
      · have hf := br_n c25 hf
        refine lv_iload_n C.1 C.2.1 dX10_command_28 rfl (lv_at hl 0 rfl) ?_
        refine lv_bipush (v := (6 : Int32)) C.1 C.2.1 dX10_command_29 (by decide) ?_
        refine lv_icmp_ne (tgt := 38) C.1 C.2.1 dX10_command_31 (by decide) (fun c31 => ?_) (fun c31 => ?_)
        · have hf := br_n c31 hf
          refine lv_iconst (v := (1 : Int32)) C.1 C.2.1 dX10_command_38 (by decide) ?_
          exact hB39 _ _ _ ls _ _ _ hP hD hS (lv_sub hl [1, 2, 0] rfl) hf
        · have hf := br_p c31 hf
          exact hB34 _ _ _ ls _ _ hP hD hS (lv_sub hl [1, 2, 0] rfl) hf
    · have hf := br_p c16 hf
      refine lv_bipush (v := (6 : Int32)) C.1 C.2.1 dX10_command_19 (by decide) ?_
      refine lv_goto (tgt := 39) C.1 C.2.1 dX10_command_21 (by decide) ?_
      exact hB39 _ _ _ ls _ _ _ hP hD hS (lv_sub hl [1, 2, 0] rfl) hf
  · have hf := br_p c7 hf
    refine lv_iconst (v := (4 : Int32)) C.1 C.2.1 dX10_command_10 (by decide) ?_
    refine lv_goto (tgt := 39) C.1 C.2.1 dX10_command_11 (by decide) ?_
    exact hB39 _ _ _ ls _ _ _ hP hD hS (lv_sub hl [1, 2, 0] rfl) hf
def fm_commands_L162 (F : Nat) (k14 : MS → Int32 → Int32 → Int32 → Option (Int32 × MS)) (σ : MS) (x1 : Int32) (x2 : Int32) (s0 : Int32) : Option (Int32 × MS) :=
  k14 σ x1 x2 s0
def fm_commands_L161 (F : Nat) (k14 : MS → Int32 → Int32 → Int32 → Option (Int32 × MS)) (σ : MS) (x1 : Int32) (x2 : Int32) : Option (Int32 × MS) :=
  fm_commands_L162 F k14 σ x1 x2 (0 : Int32)
def fm_commands_L134 (F : Nat) (k14 : MS → Int32 → Int32 → Int32 → Option (Int32 × MS)) (σ : MS) (x1 : Int32) (x2 : Int32) (x5 : Int32) (x6 : Int32) (s0 : Int32) (s1 : Int32) : Option (Int32 × MS) :=
  lt (ms_at_s σ (s1 + s0)) (fun σ135 => if x5 = 0 then (fm_commands_L161 F k14 σ135 x1 x2) else (if (ms_fine σ135) = 0 then (fm_commands_L161 F k14 σ135 x1 x2) else (if x6 = (59 : Int32) then (fm_commands_L162 F k14 σ135 x1 x2 (1 : Int32)) else (fm_commands_L161 F k14 σ135 x1 x2))))
def fm_commands_L133 (F : Nat) (k14 : MS → Int32 → Int32 → Int32 → Option (Int32 × MS)) (σ : MS) (x1 : Int32) (x2 : Int32) (x5 : Int32) (x6 : Int32) (s0 : Int32) : Option (Int32 × MS) :=
  fm_commands_L134 F k14 σ x1 x2 x5 x6 (0 : Int32) s0
def fm_commands_L107 (F : Nat) (k14 : MS → Int32 → Int32 → Int32 → Option (Int32 × MS)) (σ : MS) (x1 : Int32) (x2 : Int32) (x5 : Int32) (x6 : Int32) (s0 : Int32) : Option (Int32 × MS) :=
  gd (s0 = 0 ∨ s0 = 1) (lt (ms_fine_s σ s0) (fun σ107 => if (ms_fine σ107) = 0 then (fm_commands_L133 F k14 σ107 x1 x2 x5 x6 (ms_at σ107)) else (if x6 = (59 : Int32) then (fm_commands_L134 F k14 σ107 x1 x2 x5 x6 (1 : Int32) (ms_at σ107)) else (fm_commands_L133 F k14 σ107 x1 x2 x5 x6 (ms_at σ107)))))
def fm_commands_L106 (F : Nat) (k14 : MS → Int32 → Int32 → Int32 → Option (Int32 × MS)) (σ : MS) (x1 : Int32) (x2 : Int32) (x5 : Int32) (x6 : Int32) : Option (Int32 × MS) :=
  fm_commands_L107 F k14 σ x1 x2 x5 x6 (0 : Int32)
def fm_commands_L102 (F : Nat) (k14 : MS → Int32 → Int32 → Int32 → Option (Int32 × MS)) (σ : MS) (x1 : Int32) (x2 : Int32) (x5 : Int32) (x6 : Int32) : Option (Int32 × MS) :=
  fm_commands_L107 F k14 σ x1 x2 x5 x6 (1 : Int32)
def fm_commands_L77 (F : Nat) (k14 : MS → Int32 → Int32 → Int32 → Option (Int32 × MS)) (σ : MS) (x1 : Int32) (x2 : Int32) (x5 : Int32) (s0 : Int32) : Option (Int32 × MS) :=
  if (ms_fine σ) = 0 then (fm_commands_L106 F k14 σ x1 x2 x5 s0) else (if s0 = (59 : Int32) then (fm_commands_L102 F k14 σ x1 x2 x5 s0) else (if s0 = (-1000 : Int32) then (fm_commands_L102 F k14 σ x1 x2 x5 s0) else (fm_commands_L106 F k14 σ x1 x2 x5 s0)))
def fm_commands_L58 (F : Nat) (k14 : MS → Int32 → Int32 → Int32 → Option (Int32 × MS)) (σ : MS) (x1 : Int32) (x5 : Int32) (s0 : Int32) (s1 : Int32) : Option (Int32 × MS) :=
  lt (s1 + s0) (fun x2_59 => if (ms_fine σ) = 0 then (fm_commands_L77 F k14 σ x1 x2_59 x5 (-1000 : Int32)) else (bd2 (fm_here F σ) (fun r68 σ68 => fm_commands_L77 F k14 σ68 x1 x2_59 x5 r68)))
def fm_commands_L45 (F : Nat) (k14 : MS → Int32 → Int32 → Int32 → Option (Int32 × MS)) (σ : MS) (x1 : Int32) (x2 : Int32) (s0 : Int32) : Option (Int32 × MS) :=
  if s0 = 0 then (fm_commands_L58 F k14 σ x1 s0 (0 : Int32) x2) else (fm_commands_L58 F k14 σ x1 s0 (1 : Int32) x2)
def fm_commands_L44 (F : Nat) (k14 : MS → Int32 → Int32 → Int32 → Option (Int32 × MS)) (σ : MS) (x1 : Int32) (x2 : Int32) : Option (Int32 × MS) :=
  fm_commands_L45 F k14 σ x1 x2 (0 : Int32)
def fm_commands_L14_c (F : Nat) (k14 : MS → Int32 → Int32 → Int32 → Option (Int32 × MS)) (σ : MS) (x1 : Int32) (x2 : Int32) (x3 : Int32) : Option (Int32 × MS) :=
  if x3 = 0 then (some (x2, σ)) else (bd2 (fm_command F σ x1) (fun r20 σ20 => if (ms_fine σ20) = 0 then (fm_commands_L44 F k14 σ20 x1 x2) else (if r20 < (-1000 : Int32) then (fm_commands_L44 F k14 σ20 x1 x2) else (fm_commands_L45 F k14 σ20 x1 x2 (1 : Int32)))))
def fm_commands_L14 (F : Nat) (n : Nat) (σ : MS) (x1 : Int32) (x2 : Int32) (x3 : Int32) : Option (Int32 × MS) := lpN (fun (k : MS × Int32 × Int32 × Int32 → Option (Int32 × MS)) a => fm_commands_L14_c F (fun σ x1 x2 x3 => k (σ, x1, x2, x3)) a.1 a.2.1 a.2.2.1 a.2.2.2) n (σ, x1, x2, x3)
def fm_commands (F : Nat) (σ : MS) (x1 : Int32) : Option (Int32 × MS) :=
  lt (ms_at_s σ (0 : Int32)) (fun σ2 => lt (ms_fine_s σ2 (1 : Int32)) (fun σ7 => fm_commands_L14 F F σ7 x1 (0 : Int32) (1 : Int32)))
set_option maxHeartbeats 4000000 in
set_option maxRecDepth 100000 in
theorem km_commands (l : Launch) (D : va_G) (cA : Nat → ClassId) (ad : Nat → Nat) (σ0 : MS) (F : Nat) (a1 : Int32) (r : Int32) (σr : MS) (hf : fm_commands F σ0 a1 = some (r, σr)) : KW l D (tyG cA) yX10_commands cX10_commands 7 (some .int) (rmk 8 197) (wM cA ad σ0) [.ref (ad 0), .int a1] (some (.int r)) (wM cA ad σr) := by
  refine KW.of (by decide) (Nat.le_of_ble_eq_true rfl) ?_
  intro p e s m below meth c A hAe hA C hr hlk hK hP hD hS ls hl
  have hl : lv_has ls 7 [(0, .ref (ad 0)), (1, .int a1)] := hl
  have hB14 : ∀ (n14 : Nat) (H : Heap) (locs : List Loc) (σ : MS) (ls : Array Slot) (x1 : Int32) (x2 : Int32) (x3 : Int32), va_P D vwCl (wM cA ad σ) H → va_D A (wM cA ad σ) → va_S A s.heap H locs → lv_has ls 7 [(0, .ref (ad 0)), (1, .int x1), (2, .int x2), (3, .int x3)] → fm_commands_L14 F n14 σ x1 x2 x3 = some (r, σr) → WQ p l e 8 197 s m [.ref (ad 0), .int a1] below meth c (some (.int r)) D (tyG cA) (wM cA ad σ0) (wM cA ad σr) A H locs (F0 m 14 ls []) := by
    intro n14
    induction n14 with
    | zero =>
      intro H locs σ ls x1 x2 x3 hP hD hS hl hf
      cases (show (none : Option _) = _ from hf)
    | succ n14 ih14 =>
      have hB162 : ∀ (H : Heap) (locs : List Loc) (σ : MS) (ls : Array Slot) (x1 : Int32) (x2 : Int32) (s0 : Int32), va_P D vwCl (wM cA ad σ) H → va_D A (wM cA ad σ) → va_S A s.heap H locs → lv_has ls 7 [(0, .ref (ad 0)), (1, .int x1), (2, .int x2)] → fm_commands_L162 F (fm_commands_L14 F n14) σ x1 x2 s0 = some (r, σr) → WQ p l e 8 197 s m [.ref (ad 0), .int a1] below meth c (some (.int r)) D (tyG cA) (wM cA ad σ0) (wM cA ad σr) A H locs (F0 m 162 ls [.int s0]) := by
        intro H locs σ ls x1 x2 s0 hP hD hS hl hf
        unfold fm_commands_L162 at hf
        refine lv_istore_n (lv' := [(3, .int s0), (0, .ref (ad 0)), (1, .int x1), (2, .int x2)]) C.1 C.2.1 dX10_commands_162 rfl hl (by decide) rfl (fun ls hl => ?_)
        refine lv_goto (tgt := 14) C.1 C.2.1 dX10_commands_163 (by decide) ?_
        exact ih14 _ _ _ ls _ _ _ hP hD hS (lv_sub hl [1, 2, 3, 0] rfl) hf
      have hB161 : ∀ (H : Heap) (locs : List Loc) (σ : MS) (ls : Array Slot) (x1 : Int32) (x2 : Int32), va_P D vwCl (wM cA ad σ) H → va_D A (wM cA ad σ) → va_S A s.heap H locs → lv_has ls 7 [(0, .ref (ad 0)), (1, .int x1), (2, .int x2)] → fm_commands_L161 F (fm_commands_L14 F n14) σ x1 x2 = some (r, σr) → WQ p l e 8 197 s m [.ref (ad 0), .int a1] below meth c (some (.int r)) D (tyG cA) (wM cA ad σ0) (wM cA ad σr) A H locs (F0 m 161 ls []) := by
        intro H locs σ ls x1 x2 hP hD hS hl hf
        unfold fm_commands_L161 at hf
        refine lv_iconst (v := (0 : Int32)) C.1 C.2.1 dX10_commands_161 (by decide) ?_
        exact hB162 _ _ _ ls _ _ _ hP hD hS (lv_sub hl [0, 1, 2] rfl) hf
      have hB134 : ∀ (H : Heap) (locs : List Loc) (σ : MS) (ls : Array Slot) (x1 : Int32) (x2 : Int32) (x5 : Int32) (x6 : Int32) (s0 : Int32) (s1 : Int32), va_P D vwCl (wM cA ad σ) H → va_D A (wM cA ad σ) → va_S A s.heap H locs → lv_has ls 7 [(0, .ref (ad 0)), (1, .int x1), (2, .int x2), (5, .int x5), (6, .int x6)] → fm_commands_L134 F (fm_commands_L14 F n14) σ x1 x2 x5 x6 s0 s1 = some (r, σr) → WQ p l e 8 197 s m [.ref (ad 0), .int a1] below meth c (some (.int r)) D (tyG cA) (wM cA ad σ0) (wM cA ad σr) A H locs (F0 m 134 ls [.int s0, .int s1, .ref (ad 0)]) := by
        intro H locs σ ls x1 x2 x5 x6 s0 s1 hP hD hS hl hf
        unfold fm_commands_L134 at hf
        refine lv_iadd C.1 C.2.1 dX10_commands_134 ?_
        replace hf := lt_e hf
        refine pm_at C hK hP hD hS dX10_commands_135 (fun H locs hP hD hS => ?_)
        refine lv_iload C.1 C.2.1 dX10_commands_138 (lv_at hl 3 rfl) ?_
        refine lv_if_eq (tgt := 161) C.1 C.2.1 dX10_commands_140 (by decide) (fun c140 => ?_) (fun c140 => ?_)
        · have hf := br_p c140 hf
          exact hB161 _ _ _ ls _ _ hP hD hS (lv_sub hl [0, 1, 2] rfl) hf
        · have hf := br_n c140 hf
          refine lv_aload_n C.1 C.2.1 dX10_commands_143 rfl (lv_at hl 0 rfl) ?_
          refine gm_fine C hK hP dX10_commands_144 ?_
          refine lv_if_eq (tgt := 161) C.1 C.2.1 dX10_commands_147 (by decide) (fun c147 => ?_) (fun c147 => ?_)
          · have hf := br_p c147 hf
            exact hB161 _ _ _ ls _ _ hP hD hS (lv_sub hl [0, 1, 2] rfl) hf
          · have hf := br_n c147 hf
            refine lv_iload C.1 C.2.1 dX10_commands_150 (lv_at hl 4 rfl) ?_
            refine lv_bipush (v := (59 : Int32)) C.1 C.2.1 dX10_commands_152 (by decide) ?_
            refine lv_icmp_ne (tgt := 161) C.1 C.2.1 dX10_commands_154 (by decide) (fun c154 => ?_) (fun c154 => ?_)
            · have hf := br_n c154 hf
              exact hB161 _ _ _ ls _ _ hP hD hS (lv_sub hl [0, 1, 2] rfl) hf
            · have hf := br_p c154 hf
              refine lv_iconst (v := (1 : Int32)) C.1 C.2.1 dX10_commands_157 (by decide) ?_
              refine lv_goto (tgt := 162) C.1 C.2.1 dX10_commands_158 (by decide) ?_
              exact hB162 _ _ _ ls _ _ _ hP hD hS (lv_sub hl [0, 1, 2] rfl) hf
      have hB133 : ∀ (H : Heap) (locs : List Loc) (σ : MS) (ls : Array Slot) (x1 : Int32) (x2 : Int32) (x5 : Int32) (x6 : Int32) (s0 : Int32), va_P D vwCl (wM cA ad σ) H → va_D A (wM cA ad σ) → va_S A s.heap H locs → lv_has ls 7 [(0, .ref (ad 0)), (1, .int x1), (2, .int x2), (5, .int x5), (6, .int x6)] → fm_commands_L133 F (fm_commands_L14 F n14) σ x1 x2 x5 x6 s0 = some (r, σr) → WQ p l e 8 197 s m [.ref (ad 0), .int a1] below meth c (some (.int r)) D (tyG cA) (wM cA ad σ0) (wM cA ad σr) A H locs (F0 m 133 ls [.int s0, .ref (ad 0)]) := by
        intro H locs σ ls x1 x2 x5 x6 s0 hP hD hS hl hf
        unfold fm_commands_L133 at hf
        refine lv_iconst (v := (0 : Int32)) C.1 C.2.1 dX10_commands_133 (by decide) ?_
        exact hB134 _ _ _ ls _ _ _ _ _ _ hP hD hS (lv_sub hl [0, 1, 2, 3, 4] rfl) hf
      have hB107 : ∀ (H : Heap) (locs : List Loc) (σ : MS) (ls : Array Slot) (x1 : Int32) (x2 : Int32) (x5 : Int32) (x6 : Int32) (s0 : Int32), va_P D vwCl (wM cA ad σ) H → va_D A (wM cA ad σ) → va_S A s.heap H locs → lv_has ls 7 [(0, .ref (ad 0)), (1, .int x1), (2, .int x2), (5, .int x5), (6, .int x6)] → fm_commands_L107 F (fm_commands_L14 F n14) σ x1 x2 x5 x6 s0 = some (r, σr) → WQ p l e 8 197 s m [.ref (ad 0), .int a1] below meth c (some (.int r)) D (tyG cA) (wM cA ad σ0) (wM cA ad σr) A H locs (F0 m 107 ls [.int s0, .ref (ad 0)]) := by
        intro H locs σ ls x1 x2 x5 x6 s0 hP hD hS hl hf
        unfold fm_commands_L107 at hf
        obtain ⟨hz107, hf⟩ := gd_some hf
        replace hf := lt_e hf
        refine pm_fine C hK hP hD hS hz107 dX10_commands_107 (fun H locs hP hD hS => ?_)
        refine lv_aload_n C.1 C.2.1 dX10_commands_110 rfl (lv_at hl 0 rfl) ?_
        refine lv_dup C.1 C.2.1 dX10_commands_111 rfl ?_
        refine gm_at C hK hP dX10_commands_112 ?_
        refine lv_aload_n C.1 C.2.1 dX10_commands_115 rfl (lv_at hl 0 rfl) ?_
        refine gm_fine C hK hP dX10_commands_116 ?_
        refine lv_if_eq (tgt := 133) C.1 C.2.1 dX10_commands_119 (by decide) (fun c119 => ?_) (fun c119 => ?_)
        · have hf := br_p c119 hf
          exact hB133 _ _ _ ls _ _ _ _ _ hP hD hS (lv_sub hl [0, 1, 2, 3, 4] rfl) hf
        · have hf := br_n c119 hf
          refine lv_iload C.1 C.2.1 dX10_commands_122 (lv_at hl 4 rfl) ?_
          refine lv_bipush (v := (59 : Int32)) C.1 C.2.1 dX10_commands_124 (by decide) ?_
          refine lv_icmp_ne (tgt := 133) C.1 C.2.1 dX10_commands_126 (by decide) (fun c126 => ?_) (fun c126 => ?_)
          · have hf := br_n c126 hf
            exact hB133 _ _ _ ls _ _ _ _ _ hP hD hS (lv_sub hl [0, 1, 2, 3, 4] rfl) hf
          · have hf := br_p c126 hf
            refine lv_iconst (v := (1 : Int32)) C.1 C.2.1 dX10_commands_129 (by decide) ?_
            refine lv_goto (tgt := 134) C.1 C.2.1 dX10_commands_130 (by decide) ?_
            exact hB134 _ _ _ ls _ _ _ _ _ _ hP hD hS (lv_sub hl [0, 1, 2, 3, 4] rfl) hf
      have hB106 : ∀ (H : Heap) (locs : List Loc) (σ : MS) (ls : Array Slot) (x1 : Int32) (x2 : Int32) (x5 : Int32) (x6 : Int32), va_P D vwCl (wM cA ad σ) H → va_D A (wM cA ad σ) → va_S A s.heap H locs → lv_has ls 7 [(0, .ref (ad 0)), (1, .int x1), (2, .int x2), (5, .int x5), (6, .int x6)] → fm_commands_L106 F (fm_commands_L14 F n14) σ x1 x2 x5 x6 = some (r, σr) → WQ p l e 8 197 s m [.ref (ad 0), .int a1] below meth c (some (.int r)) D (tyG cA) (wM cA ad σ0) (wM cA ad σr) A H locs (F0 m 106 ls [.ref (ad 0)]) := by
        intro H locs σ ls x1 x2 x5 x6 hP hD hS hl hf
        unfold fm_commands_L106 at hf
        refine lv_iconst (v := (0 : Int32)) C.1 C.2.1 dX10_commands_106 (by decide) ?_
        exact hB107 _ _ _ ls _ _ _ _ _ hP hD hS (lv_sub hl [0, 1, 2, 3, 4] rfl) hf
      have hB102 : ∀ (H : Heap) (locs : List Loc) (σ : MS) (ls : Array Slot) (x1 : Int32) (x2 : Int32) (x5 : Int32) (x6 : Int32), va_P D vwCl (wM cA ad σ) H → va_D A (wM cA ad σ) → va_S A s.heap H locs → lv_has ls 7 [(0, .ref (ad 0)), (1, .int x1), (2, .int x2), (5, .int x5), (6, .int x6)] → fm_commands_L102 F (fm_commands_L14 F n14) σ x1 x2 x5 x6 = some (r, σr) → WQ p l e 8 197 s m [.ref (ad 0), .int a1] below meth c (some (.int r)) D (tyG cA) (wM cA ad σ0) (wM cA ad σr) A H locs (F0 m 102 ls [.ref (ad 0)]) := by
        intro H locs σ ls x1 x2 x5 x6 hP hD hS hl hf
        unfold fm_commands_L102 at hf
        refine lv_iconst (v := (1 : Int32)) C.1 C.2.1 dX10_commands_102 (by decide) ?_
        refine lv_goto (tgt := 107) C.1 C.2.1 dX10_commands_103 (by decide) ?_
        exact hB107 _ _ _ ls _ _ _ _ _ hP hD hS (lv_sub hl [0, 1, 2, 3, 4] rfl) hf
      have hB77 : ∀ (H : Heap) (locs : List Loc) (σ : MS) (ls : Array Slot) (x1 : Int32) (x2 : Int32) (x5 : Int32) (s0 : Int32), va_P D vwCl (wM cA ad σ) H → va_D A (wM cA ad σ) → va_S A s.heap H locs → lv_has ls 7 [(0, .ref (ad 0)), (1, .int x1), (2, .int x2), (5, .int x5)] → fm_commands_L77 F (fm_commands_L14 F n14) σ x1 x2 x5 s0 = some (r, σr) → WQ p l e 8 197 s m [.ref (ad 0), .int a1] below meth c (some (.int r)) D (tyG cA) (wM cA ad σ0) (wM cA ad σr) A H locs (F0 m 77 ls [.int s0]) := by
        intro H locs σ ls x1 x2 x5 s0 hP hD hS hl hf
        unfold fm_commands_L77 at hf
        refine lv_istore (lv' := [(6, .int s0), (0, .ref (ad 0)), (1, .int x1), (2, .int x2), (5, .int x5)]) C.1 C.2.1 dX10_commands_77 hl (by decide) rfl (fun ls hl => ?_)
        refine lv_aload_n C.1 C.2.1 dX10_commands_79 rfl (lv_at hl 1 rfl) ?_
        refine lv_aload_n C.1 C.2.1 dX10_commands_80 rfl (lv_at hl 1 rfl) ?_
        refine gm_fine C hK hP dX10_commands_81 ?_
        refine lv_if_eq (tgt := 106) C.1 C.2.1 dX10_commands_84 (by decide) (fun c84 => ?_) (fun c84 => ?_)
        · have hf := br_p c84 hf
          exact hB106 _ _ _ ls _ _ _ _ hP hD hS (lv_sub hl [1, 2, 3, 4, 0] rfl) hf
        · have hf := br_n c84 hf
          refine lv_iload C.1 C.2.1 dX10_commands_87 (lv_at hl 0 rfl) ?_
          refine lv_bipush (v := (59 : Int32)) C.1 C.2.1 dX10_commands_89 (by decide) ?_
          refine lv_icmp_eq (tgt := 102) C.1 C.2.1 dX10_commands_91 (by decide) (fun c91 => ?_) (fun c91 => ?_)
          · have hf := br_p c91 hf
            exact hB102 _ _ _ ls _ _ _ _ hP hD hS (lv_sub hl [1, 2, 3, 4, 0] rfl) hf
          · have hf := br_n c91 hf
            refine lv_iload C.1 C.2.1 dX10_commands_94 (lv_at hl 0 rfl) ?_
            refine lv_sipush (v := (-1000 : Int32)) C.1 C.2.1 dX10_commands_96 (by decide) ?_
            refine lv_icmp_ne (tgt := 106) C.1 C.2.1 dX10_commands_99 (by decide) (fun c99 => ?_) (fun c99 => ?_)
            · have hf := br_n c99 hf
              exact hB106 _ _ _ ls _ _ _ _ hP hD hS (lv_sub hl [1, 2, 3, 4, 0] rfl) hf
            · have hf := br_p c99 hf
              exact hB102 _ _ _ ls _ _ _ _ hP hD hS (lv_sub hl [1, 2, 3, 4, 0] rfl) hf
      have hB58 : ∀ (H : Heap) (locs : List Loc) (σ : MS) (ls : Array Slot) (x1 : Int32) (x5 : Int32) (s0 : Int32) (s1 : Int32), va_P D vwCl (wM cA ad σ) H → va_D A (wM cA ad σ) → va_S A s.heap H locs → lv_has ls 7 [(0, .ref (ad 0)), (1, .int x1), (5, .int x5)] → fm_commands_L58 F (fm_commands_L14 F n14) σ x1 x5 s0 s1 = some (r, σr) → WQ p l e 8 197 s m [.ref (ad 0), .int a1] below meth c (some (.int r)) D (tyG cA) (wM cA ad σ0) (wM cA ad σr) A H locs (F0 m 58 ls [.int s0, .int s1]) := by
        intro H locs σ ls x1 x5 s0 s1 hP hD hS hl hf
        unfold fm_commands_L58 at hf
        refine lv_iadd C.1 C.2.1 dX10_commands_58 ?_
        obtain ⟨x2_59, ex2_59, hf⟩ := lt_some hf
        refine lv_tope ex2_59 ?_
        refine lv_istore_n (lv' := [(2, .int x2_59), (0, .ref (ad 0)), (1, .int x1), (5, .int x5)]) C.1 C.2.1 dX10_commands_59 rfl hl (by decide) rfl (fun ls hl => ?_)
        refine lv_aload_n C.1 C.2.1 dX10_commands_60 rfl (lv_at hl 1 rfl) ?_
        refine gm_fine C hK hP dX10_commands_61 ?_
        refine lv_if_eq (tgt := 74) C.1 C.2.1 dX10_commands_64 (by decide) (fun c64 => ?_) (fun c64 => ?_)
        · have hf := br_p c64 hf
          refine lv_sipush (v := (-1000 : Int32)) C.1 C.2.1 dX10_commands_74 (by decide) ?_
          exact hB77 _ _ _ ls _ _ _ _ hP hD hS (lv_sub hl [1, 2, 0, 3] rfl) hf
        · have hf := br_n c64 hf
          refine lv_aload_n C.1 C.2.1 dX10_commands_67 rfl (lv_at hl 1 rfl) ?_
          obtain ⟨r68, σ68, hc68, hf⟩ := bd2_some hf
          refine callWV (As := []) C hK hP hD hA hS wv_X10_258 hl (km_here l D cA ad _ F r68 σ68 hc68) (rcM hK hP) rfl rfl rfl (Nat.le_of_ble_eq_true rfl) ⟨Nat.le_refl _, Nat.le_refl _⟩ dX10_commands_68 (fun H locs hP hD hS => ?_)
          refine lv_goto (tgt := 77) C.1 C.2.1 dX10_commands_71 (by decide) ?_
          exact hB77 _ _ _ ls _ _ _ _ hP hD hS (lv_sub hl [1, 2, 0, 3] rfl) hf
      have hB45 : ∀ (H : Heap) (locs : List Loc) (σ : MS) (ls : Array Slot) (x1 : Int32) (x2 : Int32) (s0 : Int32), va_P D vwCl (wM cA ad σ) H → va_D A (wM cA ad σ) → va_S A s.heap H locs → lv_has ls 7 [(0, .ref (ad 0)), (1, .int x1), (2, .int x2)] → fm_commands_L45 F (fm_commands_L14 F n14) σ x1 x2 s0 = some (r, σr) → WQ p l e 8 197 s m [.ref (ad 0), .int a1] below meth c (some (.int r)) D (tyG cA) (wM cA ad σ0) (wM cA ad σr) A H locs (F0 m 45 ls [.int s0]) := by
        intro H locs σ ls x1 x2 s0 hP hD hS hl hf
        unfold fm_commands_L45 at hf
        refine lv_istore (lv' := [(5, .int s0), (0, .ref (ad 0)), (1, .int x1), (2, .int x2)]) C.1 C.2.1 dX10_commands_45 hl (by decide) rfl (fun ls hl => ?_)
        refine lv_iload_n C.1 C.2.1 dX10_commands_47 rfl (lv_at hl 3 rfl) ?_
        refine lv_iload C.1 C.2.1 dX10_commands_48 (lv_at hl 0 rfl) ?_
        refine lv_if_eq (tgt := 57) C.1 C.2.1 dX10_commands_50 (by decide) (fun c50 => ?_) (fun c50 => ?_)
        · have hf := br_p c50 hf
          refine lv_iconst (v := (0 : Int32)) C.1 C.2.1 dX10_commands_57 (by decide) ?_
          exact hB58 _ _ _ ls _ _ _ _ hP hD hS (lv_sub hl [1, 2, 0] rfl) hf
        · have hf := br_n c50 hf
          refine lv_iconst (v := (1 : Int32)) C.1 C.2.1 dX10_commands_53 (by decide) ?_
          refine lv_goto (tgt := 58) C.1 C.2.1 dX10_commands_54 (by decide) ?_
          exact hB58 _ _ _ ls _ _ _ _ hP hD hS (lv_sub hl [1, 2, 0] rfl) hf
      have hB44 : ∀ (H : Heap) (locs : List Loc) (σ : MS) (ls : Array Slot) (x1 : Int32) (x2 : Int32), va_P D vwCl (wM cA ad σ) H → va_D A (wM cA ad σ) → va_S A s.heap H locs → lv_has ls 7 [(0, .ref (ad 0)), (1, .int x1), (2, .int x2)] → fm_commands_L44 F (fm_commands_L14 F n14) σ x1 x2 = some (r, σr) → WQ p l e 8 197 s m [.ref (ad 0), .int a1] below meth c (some (.int r)) D (tyG cA) (wM cA ad σ0) (wM cA ad σr) A H locs (F0 m 44 ls []) := by
        intro H locs σ ls x1 x2 hP hD hS hl hf
        unfold fm_commands_L44 at hf
        refine lv_iconst (v := (0 : Int32)) C.1 C.2.1 dX10_commands_44 (by decide) ?_
        exact hB45 _ _ _ ls _ _ _ hP hD hS (lv_sub hl [0, 1, 2] rfl) hf
      intro H locs σ ls x1 x2 x3 hP hD hS hl hf
      have hf : fm_commands_L14_c F (fm_commands_L14 F n14) σ x1 x2 x3 = some (r, σr) := hf
      unfold fm_commands_L14_c at hf
      refine lv_iload_n C.1 C.2.1 dX10_commands_14 rfl (lv_at hl 3 rfl) ?_
      refine lv_if_eq (tgt := 166) C.1 C.2.1 dX10_commands_15 (by decide) (fun c15 => ?_) (fun c15 => ?_)
      · have hf := br_p c15 hf
        refine lv_iload_n C.1 C.2.1 dX10_commands_166 rfl (lv_at hl 2 rfl) ?_
        obtain ⟨rfl, rfl⟩ := Prod.mk.inj (Option.some.inj hf)
        exact KW.iret C hr hlk hK hAe hP hD hS rfl dX10_commands_167
      · have hf := br_n c15 hf
        refine lv_aload_n C.1 C.2.1 dX10_commands_18 rfl (lv_at hl 0 rfl) ?_
        refine lv_iload_n C.1 C.2.1 dX10_commands_19 rfl (lv_at hl 1 rfl) ?_
        obtain ⟨r20, σ20, hc20, hf⟩ := bd2_some hf
        refine callWV (As := [_]) C hK hP hD hA hS wv_X10_290 hl (km_command l D cA ad _ F _ r20 σ20 hc20) (rcM hK hP) rfl rfl rfl (Nat.le_of_ble_eq_true rfl) ⟨Nat.le_refl _, Nat.le_refl _⟩ dX10_commands_20 (fun H locs hP hD hS => ?_)
        refine lv_istore (lv' := [(4, .int r20), (0, .ref (ad 0)), (1, .int x1), (2, .int x2), (3, .int x3)]) C.1 C.2.1 dX10_commands_23 hl (by decide) rfl (fun ls hl => ?_)
        refine lv_aload_n C.1 C.2.1 dX10_commands_25 rfl (lv_at hl 1 rfl) ?_
        refine gm_fine C hK hP dX10_commands_26 ?_
        refine lv_if_eq (tgt := 44) C.1 C.2.1 dX10_commands_29 (by decide) (fun c29 => ?_) (fun c29 => ?_)
        · have hf := br_p c29 hf
          exact hB44 _ _ _ ls _ _ hP hD hS (lv_sub hl [1, 2, 3] rfl) hf
        · have hf := br_n c29 hf
          refine lv_iload C.1 C.2.1 dX10_commands_32 (lv_at hl 0 rfl) ?_
          refine lv_sipush (v := (-1000 : Int32)) C.1 C.2.1 dX10_commands_34 (by decide) ?_
          refine lv_icmp_lt (tgt := 44) C.1 C.2.1 dX10_commands_37 (by decide) (fun c37 => ?_) (fun c37 => ?_)
          · have hf := br_p c37 hf
            exact hB44 _ _ _ ls _ _ hP hD hS (lv_sub hl [1, 2, 3] rfl) hf
          · have hf := br_n c37 hf
            refine lv_iconst (v := (1 : Int32)) C.1 C.2.1 dX10_commands_40 (by decide) ?_
            refine lv_goto (tgt := 45) C.1 C.2.1 dX10_commands_41 (by decide) ?_
            exact hB45 _ _ _ ls _ _ _ hP hD hS (lv_sub hl [1, 2, 3] rfl) hf
  unfold fm_commands at hf
  refine lv_aload_n C.1 C.2.1 dX10_commands_0 rfl (lv_at hl 0 rfl) ?_
  refine lv_iconst (v := (0 : Int32)) C.1 C.2.1 dX10_commands_1 (by decide) ?_
  replace hf := lt_e hf
  refine pm_at C hK hP hD hS dX10_commands_2 (fun H locs hP hD hS => ?_)
  refine lv_aload_n C.1 C.2.1 dX10_commands_5 rfl (lv_at hl 0 rfl) ?_
  refine lv_iconst (v := (1 : Int32)) C.1 C.2.1 dX10_commands_6 (by decide) ?_
  replace hf := lt_e hf
  refine pm_fine C hK hP hD hS (by decide) dX10_commands_7 (fun H locs hP hD hS => ?_)
  refine lv_iconst (v := (0 : Int32)) C.1 C.2.1 dX10_commands_10 (by decide) ?_
  refine lv_istore_n (lv' := [(2, .int (0 : Int32)), (0, .ref (ad 0)), (1, .int a1)]) C.1 C.2.1 dX10_commands_11 rfl hl (by decide) rfl (fun ls hl => ?_)
  refine lv_iconst (v := (1 : Int32)) C.1 C.2.1 dX10_commands_12 (by decide) ?_
  refine lv_istore_n (lv' := [(3, .int (1 : Int32)), (2, .int (0 : Int32)), (0, .ref (ad 0)), (1, .int a1)]) C.1 C.2.1 dX10_commands_13 rfl hl (by decide) rfl (fun ls hl => ?_)
  exact hB14 F _ _ _ ls _ _ _ hP hD hS (lv_sub hl [2, 3, 1, 0] rfl) hf
def fm_textFault_L23 (F : Nat) (σ : MS) (s0 : Int32) : Option (Int32 × MS) :=
  some (s0, σ)
def fm_textFault (F : Nat) (σ : MS) : Option (Int32 × MS) :=
  bd2 (fm_commands F σ (0 : Int32)) (fun r2 σ2 => if (ms_fine σ2) = 0 then (fm_textFault_L23 F σ2 (ms_at σ2)) else (fm_textFault_L23 F σ2 (-1000 : Int32)))
set_option maxHeartbeats 4000000 in
set_option maxRecDepth 100000 in
theorem km_textFault (l : Launch) (D : va_G) (cA : Nat → ClassId) (ad : Nat → Nat) (σ0 : MS) (F : Nat)  (r : Int32) (σr : MS) (hf : fm_textFault F σ0  = some (r, σr)) : KW l D (tyG cA) yX10_textFault cX10_textFault 2 (some .int) (rmk 9 223) (wM cA ad σ0) [.ref (ad 0)] (some (.int r)) (wM cA ad σr) := by
  refine KW.of (by decide) (Nat.le_of_ble_eq_true rfl) ?_
  intro p e s m below meth c A hAe hA C hr hlk hK hP hD hS ls hl
  have hl : lv_has ls 2 [(0, .ref (ad 0))] := hl
  have hB23 : ∀ (H : Heap) (locs : List Loc) (σ : MS) (ls : Array Slot) (s0 : Int32), va_P D vwCl (wM cA ad σ) H → va_D A (wM cA ad σ) → va_S A s.heap H locs → lv_has ls 2 [(0, .ref (ad 0))] → fm_textFault_L23 F σ s0 = some (r, σr) → WQ p l e 9 223 s m [.ref (ad 0)] below meth c (some (.int r)) D (tyG cA) (wM cA ad σ0) (wM cA ad σr) A H locs (F0 m 23 ls [.int s0]) := by
    intro H locs σ ls s0 hP hD hS hl hf
    unfold fm_textFault_L23 at hf
    obtain ⟨rfl, rfl⟩ := Prod.mk.inj (Option.some.inj hf)
    exact KW.iret C hr hlk hK hAe hP hD hS rfl dX10_textFault_23
  unfold fm_textFault at hf
  refine lv_aload_n C.1 C.2.1 dX10_textFault_0 rfl (lv_at hl 0 rfl) ?_
  refine lv_iconst (v := (0 : Int32)) C.1 C.2.1 dX10_textFault_1 (by decide) ?_
  obtain ⟨r2, σ2, hc2, hf⟩ := bd2_some hf
  refine callWV (As := [_]) C hK hP hD hA hS wv_X10_293 hl (km_commands l D cA ad _ F _ r2 σ2 hc2) (rcM hK hP) rfl rfl rfl (Nat.le_of_ble_eq_true rfl) ⟨Nat.le_refl _, Nat.le_refl _⟩ dX10_textFault_2 (fun H locs hP hD hS => ?_)
  refine lv_istore_n (lv' := [(1, .int r2), (0, .ref (ad 0))]) C.1 C.2.1 dX10_textFault_5 rfl hl (by decide) rfl (fun ls hl => ?_)
  refine lv_aload_n C.1 C.2.1 dX10_textFault_6 rfl (lv_at hl 1 rfl) ?_
  refine gm_fine C hK hP dX10_textFault_7 ?_
  refine lv_if_eq (tgt := 19) C.1 C.2.1 dX10_textFault_10 (by decide) (fun c10 => ?_) (fun c10 => ?_)
  · have hf := br_p c10 hf
    refine lv_aload_n C.1 C.2.1 dX10_textFault_19 rfl (lv_at hl 1 rfl) ?_
    refine gm_at C hK hP dX10_textFault_20 ?_
    exact hB23 _ _ _ ls _ hP hD hS (lv_sub hl [1] rfl) hf
  · have hf := br_n c10 hf
    refine lv_sipush (v := (-1000 : Int32)) C.1 C.2.1 dX10_textFault_13 (by decide) ?_
    refine lv_goto (tgt := 23) C.1 C.2.1 dX10_textFault_16 (by decide) ?_
    exact hB23 _ _ _ ls _ hP hD hS (lv_sub hl [1] rfl) hf
def fm_run (F : Nat) (σ : MS) : Option (Int32 × MS) :=
  bd2 (fm_commands F σ (0 : Int32)) (fun r2 σ2 => if (ms_fine σ2) = 0 then (some ((-1003 : Int32), σ2)) else (bd (fm_records F σ2) (fun σ18 => lt (ms_silent_s σ18 (1 : Int32)) (fun σ23 => bd2 (fm_commands F σ23 (1 : Int32)) (fun r28 σ28 => lt (ms_silent_s σ28 (0 : Int32)) (fun σ34 => some (r28, σ34)))))))
set_option maxHeartbeats 4000000 in
set_option maxRecDepth 100000 in
theorem km_run (l : Launch) (D : va_G) (cA : Nat → ClassId) (ad : Nat → Nat) (σ0 : MS) (F : Nat)  (r : Int32) (σr : MS) (hf : fm_run F σ0  = some (r, σr)) : KW l D (tyG cA) yX10_run cX10_run 2 (some .int) (rmk 9 223) (wM cA ad σ0) [.ref (ad 0)] (some (.int r)) (wM cA ad σr) := by
  refine KW.of (by decide) (Nat.le_of_ble_eq_true rfl) ?_
  intro p e s m below meth c A hAe hA C hr hlk hK hP hD hS ls hl
  have hl : lv_has ls 2 [(0, .ref (ad 0))] := hl
  unfold fm_run at hf
  refine lv_aload_n C.1 C.2.1 dX10_run_0 rfl (lv_at hl 0 rfl) ?_
  refine lv_iconst (v := (0 : Int32)) C.1 C.2.1 dX10_run_1 (by decide) ?_
  obtain ⟨r2, σ2, hc2, hf⟩ := bd2_some hf
  refine callWV (As := [_]) C hK hP hD hA hS wv_X10_293 hl (km_commands l D cA ad _ F _ r2 σ2 hc2) (rcM hK hP) rfl rfl rfl (Nat.le_of_ble_eq_true rfl) ⟨Nat.le_refl _, Nat.le_refl _⟩ dX10_run_2 (fun H locs hP hD hS => ?_)
  refine lv_istore_n (lv' := [(1, .int r2), (0, .ref (ad 0))]) C.1 C.2.1 dX10_run_5 rfl hl (by decide) rfl (fun ls hl => ?_)
  refine lv_aload_n C.1 C.2.1 dX10_run_6 rfl (lv_at hl 1 rfl) ?_
  refine gm_fine C hK hP dX10_run_7 ?_
  refine lv_if_ne (tgt := 17) C.1 C.2.1 dX10_run_10 (by decide) (fun c10 => ?_) (fun c10 => ?_)
  · have hf := br_n c10 hf
    refine lv_aload_n C.1 C.2.1 dX10_run_17 rfl (lv_at hl 1 rfl) ?_
    obtain ⟨σ18, hc18, hf⟩ := bd_some hf
    refine callWV (As := []) C hK hP hD hA hS wv_X10_84 hl (km_records l D cA ad _ F σ18 hc18) (rcM hK hP) rfl rfl rfl (Nat.le_of_ble_eq_true rfl) ⟨Nat.le_refl _, Nat.le_refl _⟩ dX10_run_18 (fun H locs hP hD hS => ?_)
    refine lv_aload_n C.1 C.2.1 dX10_run_21 rfl (lv_at hl 1 rfl) ?_
    refine lv_iconst (v := (1 : Int32)) C.1 C.2.1 dX10_run_22 (by decide) ?_
    replace hf := lt_e hf
    refine pm_silent C hK hP hD hS (by decide) dX10_run_23 (fun H locs hP hD hS => ?_)
    refine lv_aload_n C.1 C.2.1 dX10_run_26 rfl (lv_at hl 1 rfl) ?_
    refine lv_iconst (v := (1 : Int32)) C.1 C.2.1 dX10_run_27 (by decide) ?_
    obtain ⟨r28, σ28, hc28, hf⟩ := bd2_some hf
    refine callWV (As := [_]) C hK hP hD hA hS wv_X10_293 hl (km_commands l D cA ad _ F _ r28 σ28 hc28) (rcM hK hP) rfl rfl rfl (Nat.le_of_ble_eq_true rfl) ⟨Nat.le_refl _, Nat.le_refl _⟩ dX10_run_28 (fun H locs hP hD hS => ?_)
    refine lv_istore_n (lv' := [(1, .int r28), (0, .ref (ad 0))]) C.1 C.2.1 dX10_run_31 rfl hl (by decide) rfl (fun ls hl => ?_)
    refine lv_aload_n C.1 C.2.1 dX10_run_32 rfl (lv_at hl 1 rfl) ?_
    refine lv_iconst (v := (0 : Int32)) C.1 C.2.1 dX10_run_33 (by decide) ?_
    replace hf := lt_e hf
    refine pm_silent C hK hP hD hS (by decide) dX10_run_34 (fun H locs hP hD hS => ?_)
    refine lv_iload_n C.1 C.2.1 dX10_run_37 rfl (lv_at hl 0 rfl) ?_
    obtain ⟨rfl, rfl⟩ := Prod.mk.inj (Option.some.inj hf)
    exact KW.iret C hr hlk hK hAe hP hD hS rfl dX10_run_38
  · have hf := br_p c10 hf
    refine lv_sipush (v := (-1003 : Int32)) C.1 C.2.1 dX10_run_13 (by decide) ?_
    obtain ⟨rfl, rfl⟩ := Prod.mk.inj (Option.some.inj hf)
    exact KW.iret C hr hlk hK hAe hP hD hS rfl dX10_run_16
def fm_undo (F : Nat) (σ : MS) : Option (Int32 × MS) :=
  if (ms_kept σ) = 0 then (some ((-1003 : Int32), σ)) else (bd (fm_copies F σ ((1725 : Int32) * (ms_kept σ)) (0 : Int32)) (fun σ21 => lt (ms_kept_s σ21 ((ms_kept σ21) - (1 : Int32))) (fun σ31 => some ((ms_kept σ31), σ31))))
set_option maxHeartbeats 4000000 in
set_option maxRecDepth 100000 in
theorem km_undo (l : Launch) (D : va_G) (cA : Nat → ClassId) (ad : Nat → Nat) (σ0 : MS) (F : Nat)  (r : Int32) (σr : MS) (hf : fm_undo F σ0  = some (r, σr)) : KW l D (tyG cA) yX10_undo cX10_undo 1 (some .int) (rmk 1 23) (wM cA ad σ0) [.ref (ad 0)] (some (.int r)) (wM cA ad σr) := by
  refine KW.of (by decide) (Nat.le_of_ble_eq_true rfl) ?_
  intro p e s m below meth c A hAe hA C hr hlk hK hP hD hS ls hl
  have hl : lv_has ls 1 [(0, .ref (ad 0))] := hl
  unfold fm_undo at hf
  refine lv_aload_n C.1 C.2.1 dX10_undo_0 rfl (lv_at hl 0 rfl) ?_
  refine gm_kept C hK hP dX10_undo_1 ?_
  refine lv_if_ne (tgt := 11) C.1 C.2.1 dX10_undo_4 (by decide) (fun c4 => ?_) (fun c4 => ?_)
  · have hf := br_n c4 hf
    refine lv_aload_n C.1 C.2.1 dX10_undo_11 rfl (lv_at hl 0 rfl) ?_
    refine lv_sipush (v := (1725 : Int32)) C.1 C.2.1 dX10_undo_12 (by decide) ?_
    refine lv_aload_n C.1 C.2.1 dX10_undo_15 rfl (lv_at hl 0 rfl) ?_
    refine gm_kept C hK hP dX10_undo_16 ?_
    refine lv_imul C.1 C.2.1 dX10_undo_19 ?_
    refine lv_iconst (v := (0 : Int32)) C.1 C.2.1 dX10_undo_20 (by decide) ?_
    obtain ⟨σ21, hc21, hf⟩ := bd_some hf
    refine callWV (As := [_, _]) C hK hP hD hA hS wv_X10_64 hl (km_copies l D cA ad _ F _ _ σ21 hc21) (rcM hK hP) rfl rfl rfl (Nat.le_of_ble_eq_true rfl) ⟨Nat.le_refl _, Nat.le_refl _⟩ dX10_undo_21 (fun H locs hP hD hS => ?_)
    refine lv_aload_n C.1 C.2.1 dX10_undo_24 rfl (lv_at hl 0 rfl) ?_
    refine lv_dup C.1 C.2.1 dX10_undo_25 rfl ?_
    refine gm_kept C hK hP dX10_undo_26 ?_
    refine lv_iconst (v := (1 : Int32)) C.1 C.2.1 dX10_undo_29 (by decide) ?_
    refine lv_isub C.1 C.2.1 dX10_undo_30 ?_
    replace hf := lt_e hf
    refine pm_kept C hK hP hD hS dX10_undo_31 (fun H locs hP hD hS => ?_)
    refine lv_aload_n C.1 C.2.1 dX10_undo_34 rfl (lv_at hl 0 rfl) ?_
    refine gm_kept C hK hP dX10_undo_35 ?_
    obtain ⟨rfl, rfl⟩ := Prod.mk.inj (Option.some.inj hf)
    exact KW.iret C hr hlk hK hAe hP hD hS rfl dX10_undo_38
  · have hf := br_p c4 hf
    refine lv_sipush (v := (-1003 : Int32)) C.1 C.2.1 dX10_undo_7 (by decide) ?_
    obtain ⟨rfl, rfl⟩ := Prod.mk.inj (Option.some.inj hf)
    exact KW.iret C hr hlk hK hAe hP hD hS rfl dX10_undo_10
def fm_note (F : Nat) (σ : MS) (x1 : Int64) : Option (MS) :=
  lt (ms_h_s σ (((31 : Int64) * (ms_h σ)) + x1)) (fun σ11 => some σ11)
set_option maxHeartbeats 4000000 in
set_option maxRecDepth 100000 in
theorem km_note (l : Launch) (D : va_G) (cA : Nat → ClassId) (ad : Nat → Nat) (σ0 : MS) (F : Nat) (a1 : Int64) (σr : MS) (hf : fm_note F σ0 a1 = some σr) : KW l D (tyG cA) yX10_note cX10_note 3 none (rmk 0 0) (wM cA ad σ0) [.ref (ad 0), .long a1] none (wM cA ad σr) := by
  refine KW.of (by decide) (Nat.le_of_ble_eq_true rfl) ?_
  intro p e s m below meth c A hAe hA C hr hlk hK hP hD hS ls hl
  have hl : lv_has ls 3 [(0, .ref (ad 0)), (1, .long a1)] := hl
  unfold fm_note at hf
  refine lv_aload_n C.1 C.2.1 dX10_note_0 rfl (lv_at hl 0 rfl) ?_
  refine lv_ldc2 (v := (31 : Int64)) C.1 C.2.1 C.2.2.2.1 (C.2.2.2.2 _ wc_X10_296) dX10_note_1 ?_
  refine lv_aload_n C.1 C.2.1 dX10_note_4 rfl (lv_at hl 0 rfl) ?_
  refine gm_h C hK hP dX10_note_5 ?_
  refine lv_lmul C.1 C.2.1 dX10_note_8 ?_
  refine lv_lload_n C.1 C.2.1 dX10_note_9 rfl (lv_at hl 1 rfl) ?_
  refine lv_ladd C.1 C.2.1 dX10_note_10 ?_
  replace hf := lt_e hf
  refine pm_h C hK hP hD hS dX10_note_11 (fun H locs hP hD hS => ?_)
  obtain rfl := Option.some.inj hf
  exact KW.vret C hr hlk hK hAe hP hD hS rfl dX10_note_14
def fm_digest_L154 (F : Nat) (k75 : MS → Int32 → Option (Int64 × MS)) (σ : MS) (x1 : Int32) : Option (Int64 × MS) :=
  lt (x1 + (1 : Int32)) (fun x1_154 => k75 σ x1_154)
def fm_digest_L113_c (F : Nat) (k75 : MS → Int32 → Option (Int64 × MS)) (k113 : MS → Int32 → Int32 → Option (Int64 × MS)) (σ : MS) (x1 : Int32) (x2 : Int32) : Option (Int64 × MS) :=
  bd (fm_of F σ x1 (8 : Int32)) (fun r121 => if ((9 : Int32) + ((2 : Int32) * r121)) ≤ x2 then (fm_digest_L154 F k75 σ x1) else (bd (fm_hasRoute F σ x1) (fun r131 => if r131 = 0 then (fm_digest_L154 F k75 σ x1) else (bd (fm_of F σ x1 x2) (fun r141 => bd (fm_note F σ (r141.toInt64)) (fun σ145 => lt (x2 + (1 : Int32)) (fun x2_148 => k113 σ145 x1 x2_148)))))))
def fm_digest_L113 (F : Nat) (k75 : MS → Int32 → Option (Int64 × MS)) (n : Nat) (σ : MS) (x1 : Int32) (x2 : Int32) : Option (Int64 × MS) := lpN (fun (k : MS × Int32 × Int32 → Option (Int64 × MS)) a => fm_digest_L113_c F k75 (fun σ x1 x2 => k (σ, x1, x2)) a.1 a.2.1 a.2.2) n (σ, x1, x2)
def fm_digest_L87_c (F : Nat) (k75 : MS → Int32 → Option (Int64 × MS)) (k87 : MS → Int32 → Int32 → Option (Int64 × MS)) (σ : MS) (x1 : Int32) (x2 : Int32) : Option (Int64 × MS) :=
  if (7 : Int32) ≤ x2 then (fm_digest_L113 F k75 F σ x1 (7 : Int32)) else (bd (fm_of F σ x1 x2) (fun r97 => bd (fm_note F σ (r97.toInt64)) (fun σ101 => lt (x2 + (1 : Int32)) (fun x2_104 => k87 σ101 x1 x2_104))))
def fm_digest_L87 (F : Nat) (k75 : MS → Int32 → Option (Int64 × MS)) (n : Nat) (σ : MS) (x1 : Int32) (x2 : Int32) : Option (Int64 × MS) := lpN (fun (k : MS × Int32 × Int32 → Option (Int64 × MS)) a => fm_digest_L87_c F k75 (fun σ x1 x2 => k (σ, x1, x2)) a.1 a.2.1 a.2.2) n (σ, x1, x2)
def fm_digest_L75_c (F : Nat) (k75 : MS → Int32 → Option (Int64 × MS)) (σ : MS) (x1 : Int32) : Option (Int64 × MS) :=
  gd (ix (1 : Int32) 8625 = true) (if (ms_row σ (1 : Int32).toNatClampNeg) ≤ x1 then (some ((ms_h σ), σ)) else (fm_digest_L87 F k75 F σ x1 (0 : Int32)))
def fm_digest_L75 (F : Nat) (n : Nat) (σ : MS) (x1 : Int32) : Option (Int64 × MS) := lpN (fun (k : MS × Int32 → Option (Int64 × MS)) a => fm_digest_L75_c F (fun σ x1 => k (σ, x1)) a.1 a.2) n (σ, x1)
def fm_digest_L20_c (F : Nat) (k20 : MS → Int32 → Option (Int64 × MS)) (σ : MS) (x1 : Int32) : Option (Int64 × MS) :=
  gd (ix (0 : Int32) 8625 = true) (if ((4 : Int32) * (ms_row σ (0 : Int32).toNatClampNeg)) ≤ x1 then (gd (ix (2 : Int32) 8625 = true) (bd (fm_note F σ ((ms_row σ (2 : Int32).toNatClampNeg).toInt64)) (fun σ59 => gd (ix (1 : Int32) 8625 = true) (bd (fm_note F σ59 ((ms_row σ59 (1 : Int32).toNatClampNeg).toInt64)) (fun σ70 => fm_digest_L75 F F σ70 (0 : Int32)))))) else (gd (ix ((3 : Int32) + x1) 8625 = true) (bd (fm_note F σ ((ms_row σ ((3 : Int32) + x1).toNatClampNeg).toInt64)) (fun σ42 => lt (x1 + (1 : Int32)) (fun x1_45 => k20 σ42 x1_45)))))
def fm_digest_L20 (F : Nat) (n : Nat) (σ : MS) (x1 : Int32) : Option (Int64 × MS) := lpN (fun (k : MS × Int32 → Option (Int64 × MS)) a => fm_digest_L20_c F (fun σ x1 => k (σ, x1)) a.1 a.2) n (σ, x1)
def fm_digest (F : Nat) (σ : MS) : Option (Int64 × MS) :=
  lt (ms_h_s σ (19 : Int64)) (fun σ4 => gd (ix (0 : Int32) 8625 = true) (bd (fm_note F σ4 ((ms_row σ4 (0 : Int32).toNatClampNeg).toInt64)) (fun σ15 => fm_digest_L20 F F σ15 (0 : Int32))))
set_option maxHeartbeats 4000000 in
set_option maxRecDepth 100000 in
theorem km_digest (l : Launch) (D : va_G) (cA : Nat → ClassId) (ad : Nat → Nat) (σ0 : MS) (F : Nat)  (r : Int64) (σr : MS) (hf : fm_digest F σ0  = some (r, σr)) : KW l D (tyG cA) yX10_digest cX10_digest 3 (some .long) (rmk 2 43) (wM cA ad σ0) [.ref (ad 0)] (some (.long r)) (wM cA ad σr) := by
  refine KW.of (by decide) (Nat.le_of_ble_eq_true rfl) ?_
  intro p e s m below meth c A hAe hA C hr hlk hK hP hD hS ls hl
  have hl : lv_has ls 3 [(0, .ref (ad 0))] := hl
  have hB75 : ∀ (n75 : Nat) (H : Heap) (locs : List Loc) (σ : MS) (ls : Array Slot) (x1 : Int32), va_P D vwCl (wM cA ad σ) H → va_D A (wM cA ad σ) → va_S A s.heap H locs → lv_has ls 3 [(0, .ref (ad 0)), (1, .int x1)] → fm_digest_L75 F n75 σ x1 = some (r, σr) → WQ p l e 2 43 s m [.ref (ad 0)] below meth c (some (.long r)) D (tyG cA) (wM cA ad σ0) (wM cA ad σr) A H locs (F0 m 75 ls []) := by
    intro n75
    induction n75 with
    | zero =>
      intro H locs σ ls x1 hP hD hS hl hf
      cases (show (none : Option _) = _ from hf)
    | succ n75 ih75 =>
      have hB154 : ∀ (H : Heap) (locs : List Loc) (σ : MS) (ls : Array Slot) (x1 : Int32), va_P D vwCl (wM cA ad σ) H → va_D A (wM cA ad σ) → va_S A s.heap H locs → lv_has ls 3 [(0, .ref (ad 0)), (1, .int x1)] → fm_digest_L154 F (fm_digest_L75 F n75) σ x1 = some (r, σr) → WQ p l e 2 43 s m [.ref (ad 0)] below meth c (some (.long r)) D (tyG cA) (wM cA ad σ0) (wM cA ad σr) A H locs (F0 m 154 ls []) := by
        intro H locs σ ls x1 hP hD hS hl hf
        unfold fm_digest_L154 at hf
        obtain ⟨x1_154, ex1_154, hf⟩ := lt_some hf
        refine lv_iinc (v := x1_154) (lv' := [(1, .int x1_154), (0, .ref (ad 0))]) C.1 C.2.1 dX10_digest_154 hl (k := 1) rfl (by rw [ex1_154]; rfl) (by decide) rfl (fun ls hl => ?_)
        refine lv_goto (tgt := 75) C.1 C.2.1 dX10_digest_157 (by decide) ?_
        exact ih75 _ _ _ ls _ hP hD hS (lv_sub hl [1, 0] rfl) hf
      have hB113 : ∀ (n113 : Nat) (H : Heap) (locs : List Loc) (σ : MS) (ls : Array Slot) (x1 : Int32) (x2 : Int32), va_P D vwCl (wM cA ad σ) H → va_D A (wM cA ad σ) → va_S A s.heap H locs → lv_has ls 3 [(0, .ref (ad 0)), (1, .int x1), (2, .int x2)] → fm_digest_L113 F (fm_digest_L75 F n75) n113 σ x1 x2 = some (r, σr) → WQ p l e 2 43 s m [.ref (ad 0)] below meth c (some (.long r)) D (tyG cA) (wM cA ad σ0) (wM cA ad σr) A H locs (F0 m 113 ls []) := by
        intro n113
        induction n113 with
        | zero =>
          intro H locs σ ls x1 x2 hP hD hS hl hf
          cases (show (none : Option _) = _ from hf)
        | succ n113 ih113 =>
          intro H locs σ ls x1 x2 hP hD hS hl hf
          have hf : fm_digest_L113_c F (fm_digest_L75 F n75) (fm_digest_L113 F (fm_digest_L75 F n75) n113) σ x1 x2 = some (r, σr) := hf
          unfold fm_digest_L113_c at hf
          refine lv_iload_n C.1 C.2.1 dX10_digest_113 rfl (lv_at hl 2 rfl) ?_
          refine lv_bipush (v := (9 : Int32)) C.1 C.2.1 dX10_digest_114 (by decide) ?_
          refine lv_iconst (v := (2 : Int32)) C.1 C.2.1 dX10_digest_116 (by decide) ?_
          refine lv_aload_n C.1 C.2.1 dX10_digest_117 rfl (lv_at hl 0 rfl) ?_
          refine lv_iload_n C.1 C.2.1 dX10_digest_118 rfl (lv_at hl 1 rfl) ?_
          refine lv_bipush (v := (8 : Int32)) C.1 C.2.1 dX10_digest_119 (by decide) ?_
          obtain ⟨r121, hc121, hf⟩ := bd_some hf
          refine callRV (As := [_, _]) C hK hP wv_X10_95 hl (km_of l D cA ad _ F _ _ r121 hc121) (rcM hK hP) rfl rfl rfl (Nat.le_of_ble_eq_true rfl) ⟨Nat.le_refl _, Nat.le_refl _⟩ dX10_digest_121 ?_
          refine lv_imul C.1 C.2.1 dX10_digest_124 ?_
          refine lv_iadd C.1 C.2.1 dX10_digest_125 ?_
          refine lv_icmp_ge (tgt := 154) C.1 C.2.1 dX10_digest_126 (by decide) (fun c126 => ?_) (fun c126 => ?_)
          · have hf := br_p c126 hf
            exact hB154 _ _ _ ls _ hP hD hS (lv_sub hl [0, 1] rfl) hf
          · have hf := br_n c126 hf
            refine lv_aload_n C.1 C.2.1 dX10_digest_129 rfl (lv_at hl 0 rfl) ?_
            refine lv_iload_n C.1 C.2.1 dX10_digest_130 rfl (lv_at hl 1 rfl) ?_
            obtain ⟨r131, hc131, hf⟩ := bd_some hf
            refine callRV (As := [_]) C hK hP wv_X10_114 hl (km_hasRoute l D cA ad _ F _ r131 hc131) (rcM hK hP) rfl rfl rfl (Nat.le_of_ble_eq_true rfl) ⟨Nat.le_refl _, Nat.le_refl _⟩ dX10_digest_131 ?_
            refine lv_if_eq (tgt := 154) C.1 C.2.1 dX10_digest_134 (by decide) (fun c134 => ?_) (fun c134 => ?_)
            · have hf := br_p c134 hf
              exact hB154 _ _ _ ls _ hP hD hS (lv_sub hl [0, 1] rfl) hf
            · have hf := br_n c134 hf
              refine lv_aload_n C.1 C.2.1 dX10_digest_137 rfl (lv_at hl 0 rfl) ?_
              refine lv_aload_n C.1 C.2.1 dX10_digest_138 rfl (lv_at hl 0 rfl) ?_
              refine lv_iload_n C.1 C.2.1 dX10_digest_139 rfl (lv_at hl 1 rfl) ?_
              refine lv_iload_n C.1 C.2.1 dX10_digest_140 rfl (lv_at hl 2 rfl) ?_
              obtain ⟨r141, hc141, hf⟩ := bd_some hf
              refine callRV (As := [_, _]) C hK hP wv_X10_95 hl (km_of l D cA ad _ F _ _ r141 hc141) (rcM hK hP) rfl rfl rfl (Nat.le_of_ble_eq_true rfl) ⟨Nat.le_refl _, Nat.le_refl _⟩ dX10_digest_141 ?_
              refine lv_i2l C.1 C.2.1 dX10_digest_144 rfl ?_
              obtain ⟨σ145, hc145, hf⟩ := bd_some hf
              refine callWV (As := [_]) C hK hP hD hA hS wv_X10_304 hl (km_note l D cA ad _ F _ σ145 hc145) (rcM hK hP) rfl rfl rfl (Nat.le_of_ble_eq_true rfl) ⟨Nat.le_refl _, Nat.le_refl _⟩ dX10_digest_145 (fun H locs hP hD hS => ?_)
              obtain ⟨x2_148, ex2_148, hf⟩ := lt_some hf
              refine lv_iinc (v := x2_148) (lv' := [(2, .int x2_148), (0, .ref (ad 0)), (1, .int x1)]) C.1 C.2.1 dX10_digest_148 hl (k := 2) rfl (by rw [ex2_148]; rfl) (by decide) rfl (fun ls hl => ?_)
              refine lv_goto (tgt := 113) C.1 C.2.1 dX10_digest_151 (by decide) ?_
              exact ih113 _ _ _ ls _ _ hP hD hS (lv_sub hl [1, 2, 0] rfl) hf
      have hB87 : ∀ (n87 : Nat) (H : Heap) (locs : List Loc) (σ : MS) (ls : Array Slot) (x1 : Int32) (x2 : Int32), va_P D vwCl (wM cA ad σ) H → va_D A (wM cA ad σ) → va_S A s.heap H locs → lv_has ls 3 [(0, .ref (ad 0)), (1, .int x1), (2, .int x2)] → fm_digest_L87 F (fm_digest_L75 F n75) n87 σ x1 x2 = some (r, σr) → WQ p l e 2 43 s m [.ref (ad 0)] below meth c (some (.long r)) D (tyG cA) (wM cA ad σ0) (wM cA ad σr) A H locs (F0 m 87 ls []) := by
        intro n87
        induction n87 with
        | zero =>
          intro H locs σ ls x1 x2 hP hD hS hl hf
          cases (show (none : Option _) = _ from hf)
        | succ n87 ih87 =>
          intro H locs σ ls x1 x2 hP hD hS hl hf
          have hf : fm_digest_L87_c F (fm_digest_L75 F n75) (fm_digest_L87 F (fm_digest_L75 F n75) n87) σ x1 x2 = some (r, σr) := hf
          unfold fm_digest_L87_c at hf
          refine lv_iload_n C.1 C.2.1 dX10_digest_87 rfl (lv_at hl 2 rfl) ?_
          refine lv_bipush (v := (7 : Int32)) C.1 C.2.1 dX10_digest_88 (by decide) ?_
          refine lv_icmp_ge (tgt := 110) C.1 C.2.1 dX10_digest_90 (by decide) (fun c90 => ?_) (fun c90 => ?_)
          · have hf := br_p c90 hf
            refine lv_bipush (v := (7 : Int32)) C.1 C.2.1 dX10_digest_110 (by decide) ?_
            refine lv_istore_n (lv' := [(2, .int (7 : Int32)), (0, .ref (ad 0)), (1, .int x1)]) C.1 C.2.1 dX10_digest_112 rfl hl (by decide) rfl (fun ls hl => ?_)
            exact hB113 F _ _ _ ls _ _ hP hD hS (lv_sub hl [1, 2, 0] rfl) hf
          · have hf := br_n c90 hf
            refine lv_aload_n C.1 C.2.1 dX10_digest_93 rfl (lv_at hl 0 rfl) ?_
            refine lv_aload_n C.1 C.2.1 dX10_digest_94 rfl (lv_at hl 0 rfl) ?_
            refine lv_iload_n C.1 C.2.1 dX10_digest_95 rfl (lv_at hl 1 rfl) ?_
            refine lv_iload_n C.1 C.2.1 dX10_digest_96 rfl (lv_at hl 2 rfl) ?_
            obtain ⟨r97, hc97, hf⟩ := bd_some hf
            refine callRV (As := [_, _]) C hK hP wv_X10_95 hl (km_of l D cA ad _ F _ _ r97 hc97) (rcM hK hP) rfl rfl rfl (Nat.le_of_ble_eq_true rfl) ⟨Nat.le_refl _, Nat.le_refl _⟩ dX10_digest_97 ?_
            refine lv_i2l C.1 C.2.1 dX10_digest_100 rfl ?_
            obtain ⟨σ101, hc101, hf⟩ := bd_some hf
            refine callWV (As := [_]) C hK hP hD hA hS wv_X10_304 hl (km_note l D cA ad _ F _ σ101 hc101) (rcM hK hP) rfl rfl rfl (Nat.le_of_ble_eq_true rfl) ⟨Nat.le_refl _, Nat.le_refl _⟩ dX10_digest_101 (fun H locs hP hD hS => ?_)
            obtain ⟨x2_104, ex2_104, hf⟩ := lt_some hf
            refine lv_iinc (v := x2_104) (lv' := [(2, .int x2_104), (0, .ref (ad 0)), (1, .int x1)]) C.1 C.2.1 dX10_digest_104 hl (k := 2) rfl (by rw [ex2_104]; rfl) (by decide) rfl (fun ls hl => ?_)
            refine lv_goto (tgt := 87) C.1 C.2.1 dX10_digest_107 (by decide) ?_
            exact ih87 _ _ _ ls _ _ hP hD hS (lv_sub hl [1, 2, 0] rfl) hf
      intro H locs σ ls x1 hP hD hS hl hf
      have hf : fm_digest_L75_c F (fm_digest_L75 F n75) σ x1 = some (r, σr) := hf
      unfold fm_digest_L75_c at hf
      refine lv_iload_n C.1 C.2.1 dX10_digest_75 rfl (lv_at hl 1 rfl) ?_
      refine lv_aload_n C.1 C.2.1 dX10_digest_76 rfl (lv_at hl 0 rfl) ?_
      refine gm_row C hK hP dX10_digest_77 ?_
      refine lv_iconst (v := (1 : Int32)) C.1 C.2.1 dX10_digest_80 (by decide) ?_
      obtain ⟨hi81, hf⟩ := gd_some hf
      refine lm_row C hK hP hi81 dX10_digest_81 ?_
      refine lv_icmp_ge (tgt := 160) C.1 C.2.1 dX10_digest_82 (by decide) (fun c82 => ?_) (fun c82 => ?_)
      · have hf := br_p c82 hf
        refine lv_aload_n C.1 C.2.1 dX10_digest_160 rfl (lv_at hl 0 rfl) ?_
        refine gm_h C hK hP dX10_digest_161 ?_
        obtain ⟨rfl, rfl⟩ := Prod.mk.inj (Option.some.inj hf)
        exact KW.lret C hr hlk hK hAe hP hD hS rfl dX10_digest_164
      · have hf := br_n c82 hf
        refine lv_iconst (v := (0 : Int32)) C.1 C.2.1 dX10_digest_85 (by decide) ?_
        refine lv_istore_n (lv' := [(2, .int (0 : Int32)), (0, .ref (ad 0)), (1, .int x1)]) C.1 C.2.1 dX10_digest_86 rfl hl (by decide) rfl (fun ls hl => ?_)
        exact hB87 F _ _ _ ls _ _ hP hD hS (lv_sub hl [1, 2, 0] rfl) hf
  have hB20 : ∀ (n20 : Nat) (H : Heap) (locs : List Loc) (σ : MS) (ls : Array Slot) (x1 : Int32), va_P D vwCl (wM cA ad σ) H → va_D A (wM cA ad σ) → va_S A s.heap H locs → lv_has ls 3 [(0, .ref (ad 0)), (1, .int x1)] → fm_digest_L20 F n20 σ x1 = some (r, σr) → WQ p l e 2 43 s m [.ref (ad 0)] below meth c (some (.long r)) D (tyG cA) (wM cA ad σ0) (wM cA ad σr) A H locs (F0 m 20 ls []) := by
    intro n20
    induction n20 with
    | zero =>
      intro H locs σ ls x1 hP hD hS hl hf
      cases (show (none : Option _) = _ from hf)
    | succ n20 ih20 =>
      intro H locs σ ls x1 hP hD hS hl hf
      have hf : fm_digest_L20_c F (fm_digest_L20 F n20) σ x1 = some (r, σr) := hf
      unfold fm_digest_L20_c at hf
      refine lv_iload_n C.1 C.2.1 dX10_digest_20 rfl (lv_at hl 1 rfl) ?_
      refine lv_iconst (v := (4 : Int32)) C.1 C.2.1 dX10_digest_21 (by decide) ?_
      refine lv_aload_n C.1 C.2.1 dX10_digest_22 rfl (lv_at hl 0 rfl) ?_
      refine gm_row C hK hP dX10_digest_23 ?_
      refine lv_iconst (v := (0 : Int32)) C.1 C.2.1 dX10_digest_26 (by decide) ?_
      obtain ⟨hi27, hf⟩ := gd_some hf
      refine lm_row C hK hP hi27 dX10_digest_27 ?_
      refine lv_imul C.1 C.2.1 dX10_digest_28 ?_
      refine lv_icmp_ge (tgt := 51) C.1 C.2.1 dX10_digest_29 (by decide) (fun c29 => ?_) (fun c29 => ?_)
      · have hf := br_p c29 hf
        refine lv_aload_n C.1 C.2.1 dX10_digest_51 rfl (lv_at hl 0 rfl) ?_
        refine lv_aload_n C.1 C.2.1 dX10_digest_52 rfl (lv_at hl 0 rfl) ?_
        refine gm_row C hK hP dX10_digest_53 ?_
        refine lv_iconst (v := (2 : Int32)) C.1 C.2.1 dX10_digest_56 (by decide) ?_
        obtain ⟨hi57, hf⟩ := gd_some hf
        refine lm_row C hK hP hi57 dX10_digest_57 ?_
        refine lv_i2l C.1 C.2.1 dX10_digest_58 rfl ?_
        obtain ⟨σ59, hc59, hf⟩ := bd_some hf
        refine callWV (As := [_]) C hK hP hD hA hS wv_X10_304 hl (km_note l D cA ad _ F _ σ59 hc59) (rcM hK hP) rfl rfl rfl (Nat.le_of_ble_eq_true rfl) ⟨Nat.le_refl _, Nat.le_refl _⟩ dX10_digest_59 (fun H locs hP hD hS => ?_)
        refine lv_aload_n C.1 C.2.1 dX10_digest_62 rfl (lv_at hl 0 rfl) ?_
        refine lv_aload_n C.1 C.2.1 dX10_digest_63 rfl (lv_at hl 0 rfl) ?_
        refine gm_row C hK hP dX10_digest_64 ?_
        refine lv_iconst (v := (1 : Int32)) C.1 C.2.1 dX10_digest_67 (by decide) ?_
        obtain ⟨hi68, hf⟩ := gd_some hf
        refine lm_row C hK hP hi68 dX10_digest_68 ?_
        refine lv_i2l C.1 C.2.1 dX10_digest_69 rfl ?_
        obtain ⟨σ70, hc70, hf⟩ := bd_some hf
        refine callWV (As := [_]) C hK hP hD hA hS wv_X10_304 hl (km_note l D cA ad _ F _ σ70 hc70) (rcM hK hP) rfl rfl rfl (Nat.le_of_ble_eq_true rfl) ⟨Nat.le_refl _, Nat.le_refl _⟩ dX10_digest_70 (fun H locs hP hD hS => ?_)
        refine lv_iconst (v := (0 : Int32)) C.1 C.2.1 dX10_digest_73 (by decide) ?_
        refine lv_istore_n (lv' := [(1, .int (0 : Int32)), (0, .ref (ad 0))]) C.1 C.2.1 dX10_digest_74 rfl hl (by decide) rfl (fun ls hl => ?_)
        exact hB75 F _ _ _ ls _ hP hD hS (lv_sub hl [1, 0] rfl) hf
      · have hf := br_n c29 hf
        refine lv_aload_n C.1 C.2.1 dX10_digest_32 rfl (lv_at hl 0 rfl) ?_
        refine lv_aload_n C.1 C.2.1 dX10_digest_33 rfl (lv_at hl 0 rfl) ?_
        refine gm_row C hK hP dX10_digest_34 ?_
        refine lv_iconst (v := (3 : Int32)) C.1 C.2.1 dX10_digest_37 (by decide) ?_
        refine lv_iload_n C.1 C.2.1 dX10_digest_38 rfl (lv_at hl 1 rfl) ?_
        refine lv_iadd C.1 C.2.1 dX10_digest_39 ?_
        obtain ⟨hi40, hf⟩ := gd_some hf
        refine lm_row C hK hP hi40 dX10_digest_40 ?_
        refine lv_i2l C.1 C.2.1 dX10_digest_41 rfl ?_
        obtain ⟨σ42, hc42, hf⟩ := bd_some hf
        refine callWV (As := [_]) C hK hP hD hA hS wv_X10_304 hl (km_note l D cA ad _ F _ σ42 hc42) (rcM hK hP) rfl rfl rfl (Nat.le_of_ble_eq_true rfl) ⟨Nat.le_refl _, Nat.le_refl _⟩ dX10_digest_42 (fun H locs hP hD hS => ?_)
        obtain ⟨x1_45, ex1_45, hf⟩ := lt_some hf
        refine lv_iinc (v := x1_45) (lv' := [(1, .int x1_45), (0, .ref (ad 0))]) C.1 C.2.1 dX10_digest_45 hl (k := 1) rfl (by rw [ex1_45]; rfl) (by decide) rfl (fun ls hl => ?_)
        refine lv_goto (tgt := 20) C.1 C.2.1 dX10_digest_48 (by decide) ?_
        exact ih20 _ _ _ ls _ hP hD hS (lv_sub hl [1, 0] rfl) hf
  unfold fm_digest at hf
  refine lv_aload_n C.1 C.2.1 dX10_digest_0 rfl (lv_at hl 0 rfl) ?_
  refine lv_ldc2 (v := (19 : Int64)) C.1 C.2.1 C.2.2.2.1 (C.2.2.2.2 _ wc_X10_302) dX10_digest_1 ?_
  replace hf := lt_e hf
  refine pm_h C hK hP hD hS dX10_digest_4 (fun H locs hP hD hS => ?_)
  refine lv_aload_n C.1 C.2.1 dX10_digest_7 rfl (lv_at hl 0 rfl) ?_
  refine lv_aload_n C.1 C.2.1 dX10_digest_8 rfl (lv_at hl 0 rfl) ?_
  refine gm_row C hK hP dX10_digest_9 ?_
  refine lv_iconst (v := (0 : Int32)) C.1 C.2.1 dX10_digest_12 (by decide) ?_
  obtain ⟨hi13, hf⟩ := gd_some hf
  refine lm_row C hK hP hi13 dX10_digest_13 ?_
  refine lv_i2l C.1 C.2.1 dX10_digest_14 rfl ?_
  obtain ⟨σ15, hc15, hf⟩ := bd_some hf
  refine callWV (As := [_]) C hK hP hD hA hS wv_X10_304 hl (km_note l D cA ad _ F _ σ15 hc15) (rcM hK hP) rfl rfl rfl (Nat.le_of_ble_eq_true rfl) ⟨Nat.le_refl _, Nat.le_refl _⟩ dX10_digest_15 (fun H locs hP hD hS => ?_)
  refine lv_iconst (v := (0 : Int32)) C.1 C.2.1 dX10_digest_18 (by decide) ?_
  refine lv_istore_n (lv' := [(1, .int (0 : Int32)), (0, .ref (ad 0))]) C.1 C.2.1 dX10_digest_19 rfl hl (by decide) rfl (fun ls hl => ?_)
  exact hB20 F _ _ _ ls _ hP hD hS (lv_sub hl [1, 0] rfl) hf
