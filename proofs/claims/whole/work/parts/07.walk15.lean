/-! X8.walk -/
theorem tX8_walk_X8 : ∀ w ∈ u_ws RX8 TX8 26, w ∈ wsX8_walk := by decide +kernel
theorem kX8_walk_56 : Cond.fieldLink RX8 56 "RingPagesModel" "walker" "[I" ∈ wsX8_walk := by decide +kernel
theorem kX8_walk_76 : Cond.fieldLink RX8 76 "RingPagesModel" "cells" "I" ∈ wsX8_walk := by decide +kernel
theorem kX8_walk_13 : Cond.fieldLink RX8 13 "RingPagesModel" "weight" "[I" ∈ wsX8_walk := by decide +kernel
theorem kX8_walk_19 : Cond.fieldLink RX8 19 "RingPagesModel" "now" "[I" ∈ wsX8_walk := by decide +kernel
theorem kX8_walk_236 : Cond.constantLong RX8 236 (7919) ∈ wsX8_walk := by decide +kernel
theorem kX8_walk_238 : Cond.constantLong RX8 238 (6151) ∈ wsX8_walk := by decide +kernel
theorem kX8_walk_240 : Cond.constantLong RX8 240 (65521) ∈ wsX8_walk := by decide +kernel
set_option maxHeartbeats 4000000 in
set_option maxRecDepth 100000 in
theorem wX8_walk_L193 {G : rm_G} {ph : Nat → Nat} {rho : Int32 × rm_M} (a1 : Int32) (a2 : Int32) (a3 : Int32) (hG : rm_k G 96 ph cX8_walk RX8 wsX8_walk 13 4 92) (hR : rm_rI G 96 ph .int rho)  (q68 : Int32 → Int32 → rm_M → Option (Int32 × rm_M)) (q136 : Int32 → Int32 → Int32 → Int32 → Int32 → Int32 → Int32 → rm_M → Option (Int32 × rm_M)) (hq68 : ∀ (x4 : Int32) (x5 : Int32) (M : rm_M), q68 x4 x5 M = some rho → rm_L G 96 ph 13 68 [(0, .ref (ph 79)), (1, .int a1), (2, .int a2), (3, .int a3), (4, .int x4), (5, .int x5)] [] M) (hq136 : ∀ (x4 : Int32) (x5 : Int32) (x8 : Int32) (x9 : Int32) (x10 : Int32) (x11 : Int32) (x12 : Int32) (M : rm_M), q136 x4 x5 x8 x9 x10 x11 x12 M = some rho → rm_L G 96 ph 13 136 [(0, .ref (ph 79)), (1, .int a1), (2, .int a2), (3, .int a3), (4, .int x4), (5, .int x5), (8, .int x8), (9, .int x9), (10, .int x10), (11, .int x11), (12, .int x12)] [] M) : ∀ (x4 : Int32) (x5 : Int32) (x8 : Int32) (x9 : Int32) (x11 : Int32) (x12 : Int32) (s0 : Int32) (M : rm_M), fX8_walk_L193 a1 a2 a3 q68 q136 x4 x5 x8 x9 x11 x12 s0 M = some rho → rm_L G 96 ph 13 193 [(0, .ref (ph 79)), (1, .int a1), (2, .int a2), (3, .int a3), (4, .int x4), (5, .int x5), (8, .int x8), (9, .int x9), (11, .int x11), (12, .int x12)] [.int s0] M := by
  intro x4 x5 x8 x9 x11 x12 s0 M hf
  unfold fX8_walk_L193 at hf
  refine rr_istore hG (lv2 := [(10, .int s0), (0, .ref (ph 79)), (1, .int a1), (2, .int a2), (3, .int a3), (4, .int x4), (5, .int x5), (8, .int x8), (9, .int x9), (11, .int x11), (12, .int x12)]) dX8_walk_193 (by decide) rfl ?_
  refine rr_iinc hG (v := x12 + (1 : Int32)) (lv2 := [(12, .int (x12 + (1 : Int32))), (10, .int s0), (0, .ref (ph 79)), (1, .int a1), (2, .int a2), (3, .int a3), (4, .int x4), (5, .int x5), (8, .int x8), (9, .int x9), (11, .int x11)]) (k := 10) dX8_walk_195 rfl rfl (by decide) rfl ?_
  refine rr_goto hG (tgt := 136) dX8_walk_198 (by decide) ?_
  exact rr_sub (lv2 := [(0, .ref (ph 79)), (1, .int a1), (2, .int a2), (3, .int a3), (4, .int x4), (5, .int x5), (8, .int x8), (9, .int x9), (10, .int s0), (11, .int x11), (12, .int (x12 + (1 : Int32)))]) [2, 3, 4, 5, 6, 7, 8, 9, 1, 10, 0] rfl (hq136 _ _ _ _ _ _ _ _ hf)
set_option maxHeartbeats 4000000 in
set_option maxRecDepth 100000 in
theorem wX8_walk_L215 {G : rm_G} {ph : Nat → Nat} {rho : Int32 × rm_M} (a1 : Int32) (a2 : Int32) (a3 : Int32) (hG : rm_k G 96 ph cX8_walk RX8 wsX8_walk 13 4 92) (hR : rm_rI G 96 ph .int rho)  (q68 : Int32 → Int32 → rm_M → Option (Int32 × rm_M)) (hq68 : ∀ (x4 : Int32) (x5 : Int32) (M : rm_M), q68 x4 x5 M = some rho → rm_L G 96 ph 13 68 [(0, .ref (ph 79)), (1, .int a1), (2, .int a2), (3, .int a3), (4, .int x4), (5, .int x5)] [] M) : ∀ (x5 : Int32) (x10 : Int32) (s0 : Int32) (s1 : Int32) (M : rm_M), fX8_walk_L215 a1 a2 a3 q68 x5 x10 s0 s1 M = some rho → rm_L G 96 ph 13 215 [(0, .ref (ph 79)), (1, .int a1), (2, .int a2), (3, .int a3), (5, .int x5), (10, .int x10)] [.int s1, .int s0] M := by
  intro x5 x10 s0 s1 M hf
  unfold fX8_walk_L215 at hf
  refine rr_iadd hG dX8_walk_215 ?_
  refine rr_bindI hf (fun v1 ev1 hf => ?_)
  refine rr_istore hG (lv2 := [(4, .int v1), (0, .ref (ph 79)), (1, .int a1), (2, .int a2), (3, .int a3), (5, .int x5), (10, .int x10)]) dX8_walk_216 (by decide) rfl ?_
  refine rr_aload_n hG dX8_walk_218 1 rfl rfl ?_
  refine rr_aload_n hG dX8_walk_219 1 rfl rfl ?_
  refine rr_get hG 8 25 (v := .ref (ph 95)) dX8_walk_220 ⟨rfl, by decide⟩ (by decide) rfl tX8_walk_X8 (by decide) kX8_walk_56 rfl rfl ?_
  refine rr_iload hG dX8_walk_223 6 rfl ?_
  refine rr_cVI hG (st := []) (n := 2) (ci := 8) (rf := 3) (rl := 70) [.ref (ph 95), .int x10] dX8_walk_225 hf ⟨rfl, by decide⟩ (by decide) rfl gX8_walk_X8_goes rfl (by decide +kernel) rfl ⟨by decide, by decide⟩ rfl (Nat.le_of_ble_eq_true rfl) (fun r9 M9 h9 => mX8_goes ph _ _ _ _ (rm_kself ⟨rfl, by decide⟩) h9) (fun r3 M4 h2 hf => ?_)
  refine rr_pop hG dX8_walk_228 rfl ?_
  refine rr_iinc hG (v := x5 + (1 : Int32)) (lv2 := [(5, .int (x5 + (1 : Int32))), (4, .int v1), (0, .ref (ph 79)), (1, .int a1), (2, .int a2), (3, .int a3), (10, .int x10)]) (k := 5) dX8_walk_229 rfl rfl (by decide) rfl ?_
  refine rr_goto hG (tgt := 68) dX8_walk_232 (by decide) ?_
  exact rr_sub (lv2 := [(0, .ref (ph 79)), (1, .int a1), (2, .int a2), (3, .int a3), (4, .int v1), (5, .int (x5 + (1 : Int32)))]) [2, 3, 4, 5, 1, 0] rfl (hq68 _ _ _ hf)
set_option maxHeartbeats 4000000 in
set_option maxRecDepth 100000 in
theorem wX8_walk_L201 {G : rm_G} {ph : Nat → Nat} {rho : Int32 × rm_M} (a1 : Int32) (a2 : Int32) (a3 : Int32) (hG : rm_k G 96 ph cX8_walk RX8 wsX8_walk 13 4 92) (hR : rm_rI G 96 ph .int rho)  (q68 : Int32 → Int32 → rm_M → Option (Int32 × rm_M)) (hq68 : ∀ (x4 : Int32) (x5 : Int32) (M : rm_M), q68 x4 x5 M = some rho → rm_L G 96 ph 13 68 [(0, .ref (ph 79)), (1, .int a1), (2, .int a2), (3, .int a3), (4, .int x4), (5, .int x5)] [] M) : ∀ (x4 : Int32) (x5 : Int32) (x8 : Int32) (x10 : Int32) (M : rm_M), fX8_walk_L201 a1 a2 a3 q68 x4 x5 x8 x10 M = some rho → rm_L G 96 ph 13 201 [(0, .ref (ph 79)), (1, .int a1), (2, .int a2), (3, .int a3), (4, .int x4), (5, .int x5), (8, .int x8), (10, .int x10)] [] M := by
  intro x4 x5 x8 x10 M hf
  unfold fX8_walk_L201 at hf
  refine rr_iload hG dX8_walk_201 4 rfl ?_
  refine rr_iload hG dX8_walk_203 7 rfl ?_
  refine rr_iload hG dX8_walk_205 6 rfl ?_
  refine rr_icmp_ne hG (tgt := 214) dX8_walk_207 (by decide) hf (fun c5 hf => ?_) (fun c5 hf => ?_)
  · refine rr_iconst hG (v := 1) dX8_walk_214 (by decide) ?_
    exact rr_sub (lv2 := [(0, .ref (ph 79)), (1, .int a1), (2, .int a2), (3, .int a3), (5, .int x5), (10, .int x10)]) [0, 1, 2, 3, 5, 7] rfl (wX8_walk_L215 _ _ _ hG hR _ (hq68) _ _ _ _ _ hf)
  · refine rr_iconst hG (v := 0) dX8_walk_210 (by decide) ?_
    refine rr_goto hG (tgt := 215) dX8_walk_211 (by decide) ?_
    exact rr_sub (lv2 := [(0, .ref (ph 79)), (1, .int a1), (2, .int a2), (3, .int a3), (5, .int x5), (10, .int x10)]) [0, 1, 2, 3, 5, 7] rfl (wX8_walk_L215 _ _ _ hG hR _ (hq68) _ _ _ _ _ hf)
set_option maxHeartbeats 4000000 in
set_option maxRecDepth 100000 in
theorem wX8_walk_L136 {G : rm_G} {ph : Nat → Nat} {rho : Int32 × rm_M} (a1 : Int32) (a2 : Int32) (a3 : Int32) (hG : rm_k G 96 ph cX8_walk RX8 wsX8_walk 13 4 92) (hR : rm_rI G 96 ph .int rho)  (q68 : Int32 → Int32 → rm_M → Option (Int32 × rm_M)) (hq68 : ∀ (x4 : Int32) (x5 : Int32) (M : rm_M), q68 x4 x5 M = some rho → rm_L G 96 ph 13 68 [(0, .ref (ph 79)), (1, .int a1), (2, .int a2), (3, .int a3), (4, .int x4), (5, .int x5)] [] M) : ∀ (n : Nat) (x4 : Int32) (x5 : Int32) (x8 : Int32) (x9 : Int32) (x10 : Int32) (x11 : Int32) (x12 : Int32) (M : rm_M), fX8_walk_L136 a1 a2 a3 q68 n x4 x5 x8 x9 x10 x11 x12 M = some rho → rm_L G 96 ph 13 136 [(0, .ref (ph 79)), (1, .int a1), (2, .int a2), (3, .int a3), (4, .int x4), (5, .int x5), (8, .int x8), (9, .int x9), (10, .int x10), (11, .int x11), (12, .int x12)] [] M := by
  intro n
  induction n with
  | zero => intro x4 x5 x8 x9 x10 x11 x12 M hf; rw [fX8_walk_L136] at hf; cases hf
  | succ n ih =>
    intro x4 x5 x8 x9 x10 x11 x12 M hf
    rw [fX8_walk_L136] at hf
    refine rr_iload hG dX8_walk_136 10 rfl ?_
    refine rr_aload_n hG dX8_walk_138 0 rfl rfl ?_
    refine rr_get hG 8 2 dX8_walk_139 ⟨rfl, by decide⟩ (by decide) rfl tX8_walk_X8 (by decide) kX8_walk_76 rfl rfl ?_
    refine rr_icmp_ge hG (tgt := 201) dX8_walk_142 (by decide) hf (fun c6 hf => ?_) (fun c6 hf => ?_)
    · exact rr_sub (lv2 := [(0, .ref (ph 79)), (1, .int a1), (2, .int a2), (3, .int a3), (4, .int x4), (5, .int x5), (8, .int x8), (10, .int x10)]) [0, 1, 2, 3, 4, 5, 6, 8] rfl (wX8_walk_L201 _ _ _ hG hR _ (hq68) _ _ _ _ _ hf)
    · refine rr_iload hG dX8_walk_145 7 rfl ?_
      refine rr_iload hG dX8_walk_147 9 rfl ?_
      refine rr_icmp_lt hG (tgt := 201) dX8_walk_149 (by decide) hf (fun c7 hf => ?_) (fun c7 hf => ?_)
      · exact rr_sub (lv2 := [(0, .ref (ph 79)), (1, .int a1), (2, .int a2), (3, .int a3), (4, .int x4), (5, .int x5), (8, .int x8), (10, .int x10)]) [0, 1, 2, 3, 4, 5, 6, 8] rfl (wX8_walk_L201 _ _ _ hG hR _ (hq68) _ _ _ _ _ hf)
      · refine rr_iload hG dX8_walk_152 9 rfl ?_
        refine rr_aload_n hG dX8_walk_154 0 rfl rfl ?_
        refine rr_get hG 8 4 (v := .ref (ph 81)) dX8_walk_155 ⟨rfl, by decide⟩ (by decide) rfl tX8_walk_X8 (by decide) kX8_walk_13 rfl rfl ?_
        refine rr_bipush hG (v := 6) dX8_walk_158 (by decide) ?_
        refine rr_iload hG dX8_walk_160 6 rfl ?_
        refine rr_imul hG dX8_walk_162 ?_
        refine rr_iload hG dX8_walk_163 10 rfl ?_
        refine rr_iadd hG dX8_walk_165 ?_
        refine rr_iald hG dX8_walk_166 ⟨rfl, by decide⟩ hf (fun b8 hf => ?_)
        refine rr_iadd hG dX8_walk_167 ?_
        refine rr_bindI hf (fun v9 ev9 hf => ?_)
        refine rr_istore hG (lv2 := [(11, .int v9), (0, .ref (ph 79)), (1, .int a1), (2, .int a2), (3, .int a3), (4, .int x4), (5, .int x5), (8, .int x8), (9, .int x9), (10, .int x10), (12, .int x12)]) dX8_walk_168 (by decide) rfl ?_
        refine rr_aload_n hG dX8_walk_170 1 rfl rfl ?_
        refine rr_get hG 8 4 (v := .ref (ph 81)) dX8_walk_171 ⟨rfl, by decide⟩ (by decide) rfl tX8_walk_X8 (by decide) kX8_walk_13 rfl rfl ?_
        refine rr_bipush hG (v := 6) dX8_walk_174 (by decide) ?_
        refine rr_iload hG dX8_walk_176 7 rfl ?_
        refine rr_imul hG dX8_walk_178 ?_
        refine rr_iload hG dX8_walk_179 10 rfl ?_
        refine rr_iadd hG dX8_walk_181 ?_
        refine rr_iald hG dX8_walk_182 ⟨rfl, by decide⟩ hf (fun b10 hf => ?_)
        refine rr_if_le hG (tgt := 191) dX8_walk_183 (by decide) hf (fun c11 hf => ?_) (fun c11 hf => ?_)
        · refine rr_iload hG dX8_walk_191 9 rfl ?_
          exact rr_sub (lv2 := [(0, .ref (ph 79)), (1, .int a1), (2, .int a2), (3, .int a3), (4, .int x4), (5, .int x5), (8, .int x8), (9, .int x9), (11, .int v9), (12, .int x12)]) [1, 2, 3, 4, 5, 6, 7, 8, 0, 10] rfl (wX8_walk_L193 _ _ _ hG hR _ _ (hq68) (ih) _ _ _ _ _ _ _ _ hf)
        · refine rr_iload hG dX8_walk_186 10 rfl ?_
          refine rr_goto hG (tgt := 193) dX8_walk_188 (by decide) ?_
          exact rr_sub (lv2 := [(0, .ref (ph 79)), (1, .int a1), (2, .int a2), (3, .int a3), (4, .int x4), (5, .int x5), (8, .int x8), (9, .int x9), (11, .int v9), (12, .int x12)]) [1, 2, 3, 4, 5, 6, 7, 8, 0, 10] rfl (wX8_walk_L193 _ _ _ hG hR _ _ (hq68) (ih) _ _ _ _ _ _ _ _ hf)
set_option maxHeartbeats 4000000 in
set_option maxRecDepth 100000 in
theorem wX8_walk_L68 {G : rm_G} {ph : Nat → Nat} {rho : Int32 × rm_M} (a1 : Int32) (a2 : Int32) (a3 : Int32) (hG : rm_k G 96 ph cX8_walk RX8 wsX8_walk 13 4 92) (hR : rm_rI G 96 ph .int rho)    : ∀ (n : Nat) (x4 : Int32) (x5 : Int32) (M : rm_M), fX8_walk_L68 a1 a2 a3 n x4 x5 M = some rho → rm_L G 96 ph 13 68 [(0, .ref (ph 79)), (1, .int a1), (2, .int a2), (3, .int a3), (4, .int x4), (5, .int x5)] [] M := by
  intro n
  induction n with
  | zero => intro x4 x5 M hf; rw [fX8_walk_L68] at hf; cases hf
  | succ n ih =>
    intro x4 x5 M hf
    rw [fX8_walk_L68] at hf
    refine rr_iload hG dX8_walk_68 5 rfl ?_
    refine rr_iload_n hG dX8_walk_70 2 rfl rfl ?_
    refine rr_icmp_ge hG (tgt := 235) dX8_walk_71 (by decide) hf (fun c12 hf => ?_) (fun c12 hf => ?_)
    · refine rr_iload_n hG dX8_walk_235 3 rfl rfl ?_
      refine rr_if_ne hG (tgt := 249) dX8_walk_236 (by decide) hf (fun c13 hf => ?_) (fun c13 hf => ?_)
      · refine rr_iload_n hG dX8_walk_249 3 rfl rfl ?_
        refine rr_iconst hG (v := 1) dX8_walk_250 (by decide) ?_
        refine rr_icmp_ne hG (tgt := 272) dX8_walk_251 (by decide) hf (fun c14 hf => ?_) (fun c14 hf => ?_)
        · refine rr_iload hG dX8_walk_272 4 rfl ?_
          exact rr_iret hG hR dX8_walk_274 hf
        · refine rr_aload_n hG dX8_walk_254 0 rfl rfl ?_
          refine rr_get hG 8 25 (v := .ref (ph 95)) dX8_walk_255 ⟨rfl, by decide⟩ (by decide) rfl tX8_walk_X8 (by decide) kX8_walk_56 rfl rfl ?_
          refine rr_bipush hG (v := 18) dX8_walk_258 (by decide) ?_
          refine rr_iald hG dX8_walk_260 ⟨rfl, by decide⟩ hf (fun b15 hf => ?_)
          refine rr_aload_n hG dX8_walk_261 0 rfl rfl ?_
          refine rr_get hG 8 6 (v := .ref (ph 83)) dX8_walk_262 ⟨rfl, by decide⟩ (by decide) rfl tX8_walk_X8 (by decide) kX8_walk_19 rfl rfl ?_
          refine rr_bipush hG (v := 18) dX8_walk_265 (by decide) ?_
          refine rr_iald hG dX8_walk_267 ⟨rfl, by decide⟩ hf (fun b16 hf => ?_)
          refine rr_isub hG dX8_walk_268 ?_
          refine rr_goto hG (tgt := 274) dX8_walk_269 (by decide) ?_
          exact rr_iret hG hR dX8_walk_274 hf
      · refine rr_aload_n hG dX8_walk_239 0 rfl rfl ?_
        refine rr_get hG 8 25 (v := .ref (ph 95)) dX8_walk_240 ⟨rfl, by decide⟩ (by decide) rfl tX8_walk_X8 (by decide) kX8_walk_56 rfl rfl ?_
        refine rr_bipush hG (v := 14) dX8_walk_243 (by decide) ?_
        refine rr_iald hG dX8_walk_245 ⟨rfl, by decide⟩ hf (fun b17 hf => ?_)
        refine rr_goto hG (tgt := 274) dX8_walk_246 (by decide) ?_
        exact rr_iret hG hR dX8_walk_274 hf
    · refine rr_ldc2 hG (v := (7919)) dX8_walk_74 kX8_walk_236 ?_
      refine rr_iload_n hG dX8_walk_77 1 rfl rfl ?_
      refine rr_i2l hG dX8_walk_78 ?_
      refine rr_lmul hG dX8_walk_79 ?_
      refine rr_ldc2 hG (v := (6151)) dX8_walk_80 kX8_walk_238 ?_
      refine rr_iload hG dX8_walk_83 5 rfl ?_
      refine rr_i2l hG dX8_walk_85 ?_
      refine rr_lmul hG dX8_walk_86 ?_
      refine rr_ladd hG dX8_walk_87 ?_
      refine rr_lconst hG (v := 1) dX8_walk_88 (by decide) ?_
      refine rr_ladd hG dX8_walk_89 ?_
      refine rr_bindJ hf (fun v18 ev18 hf => ?_)
      refine rr_lstore hG (lv2 := [(6, .long v18), (0, .ref (ph 79)), (1, .int a1), (2, .int a2), (3, .int a3), (4, .int x4), (5, .int x5)]) dX8_walk_90 (by decide) rfl ?_
      refine rr_aload_n hG dX8_walk_92 1 rfl rfl ?_
      refine rr_get hG 8 25 (v := .ref (ph 95)) dX8_walk_93 ⟨rfl, by decide⟩ (by decide) rfl tX8_walk_X8 (by decide) kX8_walk_56 rfl rfl ?_
      refine rr_bipush hG (v := 14) dX8_walk_96 (by decide) ?_
      refine rr_iald hG dX8_walk_98 ⟨rfl, by decide⟩ hf (fun b19 hf => ?_)
      refine rr_bindI hf (fun v20 ev20 hf => ?_)
      refine rr_istore hG (lv2 := [(8, .int v20), (6, .long v18), (0, .ref (ph 79)), (1, .int a1), (2, .int a2), (3, .int a3), (4, .int x4), (5, .int x5)]) dX8_walk_99 (by decide) rfl ?_
      refine rr_lload hG dX8_walk_101 1 rfl ?_
      refine rr_lload hG dX8_walk_103 1 rfl ?_
      refine rr_lmul hG dX8_walk_105 ?_
      refine rr_ldc2 hG (v := (65521)) dX8_walk_106 kX8_walk_240 ?_
      refine rr_lrem hG dX8_walk_109 hf (fun hf => ?_)
      refine rr_l2i hG dX8_walk_110 ?_
      refine rr_aload_n hG dX8_walk_111 2 rfl rfl ?_
      refine rr_iload hG dX8_walk_112 0 rfl ?_
      refine rr_cVI hG (st := [.int (((v18 * v18) - (v18 * v18) / (65521 : Int64) * (65521 : Int64)).toInt32)]) (n := 1) (ci := 8) (rf := 1) (rl := 23) [.int v20] dX8_walk_114 hf ⟨rfl, by decide⟩ (by decide) rfl gX8_walk_X8_sum rfl (by decide +kernel) rfl ⟨by decide, by decide⟩ rfl (Nat.le_of_ble_eq_true rfl) (fun r9 M9 h9 => mX8_sum ph _ _ _ h9) (fun r22 M23 h21 hf => ?_)
      refine rr_irem hG dX8_walk_117 hf (fun hf => ?_)
      refine rr_bindI hf (fun v24 ev24 hf => ?_)
      refine rr_istore hG (lv2 := [(9, .int v24), (8, .int v20), (6, .long v18), (0, .ref (ph 79)), (1, .int a1), (2, .int a2), (3, .int a3), (4, .int x4), (5, .int x5)]) dX8_walk_118 (by decide) rfl ?_
      refine rr_iload hG dX8_walk_120 1 rfl ?_
      refine rr_istore hG (lv2 := [(10, .int v20), (9, .int v24), (8, .int v20), (6, .long v18), (0, .ref (ph 79)), (1, .int a1), (2, .int a2), (3, .int a3), (4, .int x4), (5, .int x5)]) dX8_walk_122 (by decide) rfl ?_
      refine rr_aload_n hG dX8_walk_124 4 rfl rfl ?_
      refine rr_get hG 8 6 (v := .ref (ph 83)) dX8_walk_125 ⟨rfl, by decide⟩ (by decide) rfl tX8_walk_X8 (by decide) kX8_walk_19 rfl rfl ?_
      refine rr_iload hG dX8_walk_128 2 rfl ?_
      refine rr_iald hG dX8_walk_130 ⟨rfl, by decide⟩ hf (fun b25 hf => ?_)
      refine rr_bindI hf (fun v26 ev26 hf => ?_)
      refine rr_istore hG (lv2 := [(11, .int v26), (10, .int v20), (9, .int v24), (8, .int v20), (6, .long v18), (0, .ref (ph 79)), (1, .int a1), (2, .int a2), (3, .int a3), (4, .int x4), (5, .int x5)]) dX8_walk_131 (by decide) rfl ?_
      refine rr_iconst hG (v := 0) dX8_walk_133 (by decide) ?_
      refine rr_istore hG (lv2 := [(12, .int (0 : Int32)), (11, .int v26), (10, .int v20), (9, .int v24), (8, .int v20), (6, .long v18), (0, .ref (ph 79)), (1, .int a1), (2, .int a2), (3, .int a3), (4, .int x4), (5, .int x5)]) dX8_walk_134 (by decide) rfl ?_
      exact rr_sub (lv2 := [(0, .ref (ph 79)), (1, .int a1), (2, .int a2), (3, .int a3), (4, .int x4), (5, .int x5), (8, .int v20), (9, .int v24), (10, .int v20), (11, .int v26), (12, .int (0 : Int32))]) [6, 7, 8, 9, 10, 11, 4, 3, 2, 1, 0] rfl (wX8_walk_L136 _ _ _ hG hR _ (ih) _ _ _ _ _ _ _ _ _ hf)
set_option maxHeartbeats 4000000 in
set_option maxRecDepth 100000 in
theorem wX8_walk_L35 {G : rm_G} {ph : Nat → Nat} {rho : Int32 × rm_M} (a1 : Int32) (a2 : Int32) (a3 : Int32) (hG : rm_k G 96 ph cX8_walk RX8 wsX8_walk 13 4 92) (hR : rm_rI G 96 ph .int rho)    : ∀ (n : Nat) (x4 : Int32) (M : rm_M), fX8_walk_L35 a1 a2 a3 n x4 M = some rho → rm_L G 96 ph 13 35 [(0, .ref (ph 79)), (1, .int a1), (2, .int a2), (3, .int a3), (4, .int x4)] [] M := by
  intro n
  induction n with
  | zero => intro x4 M hf; rw [fX8_walk_L35] at hf; cases hf
  | succ n ih =>
    intro x4 M hf
    rw [fX8_walk_L35] at hf
    refine rr_iload hG dX8_walk_35 4 rfl ?_
    refine rr_bipush hG (v := 20) dX8_walk_37 (by decide) ?_
    refine rr_icmp_ge hG (tgt := 62) dX8_walk_39 (by decide) hf (fun c27 hf => ?_) (fun c27 hf => ?_)
    · refine rr_iconst hG (v := 0) dX8_walk_62 (by decide) ?_
      refine rr_istore hG (lv2 := [(4, .int (0 : Int32)), (0, .ref (ph 79)), (1, .int a1), (2, .int a2), (3, .int a3)]) dX8_walk_63 (by decide) rfl ?_
      refine rr_iconst hG (v := 0) dX8_walk_65 (by decide) ?_
      refine rr_istore hG (lv2 := [(5, .int (0 : Int32)), (4, .int (0 : Int32)), (0, .ref (ph 79)), (1, .int a1), (2, .int a2), (3, .int a3)]) dX8_walk_66 (by decide) rfl ?_
      exact rr_sub (lv2 := [(0, .ref (ph 79)), (1, .int a1), (2, .int a2), (3, .int a3), (4, .int (0 : Int32)), (5, .int (0 : Int32))]) [2, 3, 4, 5, 1, 0] rfl (wX8_walk_L68 _ _ _ hG hR _ _ _ _ hf)
    · refine rr_aload_n hG dX8_walk_42 0 rfl rfl ?_
      refine rr_get hG 8 25 (v := .ref (ph 95)) dX8_walk_43 ⟨rfl, by decide⟩ (by decide) rfl tX8_walk_X8 (by decide) kX8_walk_56 rfl rfl ?_
      refine rr_iload hG dX8_walk_46 4 rfl ?_
      refine rr_aload_n hG dX8_walk_48 0 rfl rfl ?_
      refine rr_get hG 8 6 (v := .ref (ph 83)) dX8_walk_49 ⟨rfl, by decide⟩ (by decide) rfl tX8_walk_X8 (by decide) kX8_walk_19 rfl rfl ?_
      refine rr_iload hG dX8_walk_52 4 rfl ?_
      refine rr_iald hG dX8_walk_54 ⟨rfl, by decide⟩ hf (fun b28 hf => ?_)
      refine rr_iast hG dX8_walk_55 ⟨rfl, by decide⟩ hf (fun b29 hf => ?_)
      refine rr_bindM hf (fun M30 eM30 hf => ?_)
      refine rr_iinc hG (v := x4 + (1 : Int32)) (lv2 := [(4, .int (x4 + (1 : Int32))), (0, .ref (ph 79)), (1, .int a1), (2, .int a2), (3, .int a3)]) (k := 4) dX8_walk_56 rfl rfl (by decide) rfl ?_
      refine rr_goto hG (tgt := 35) dX8_walk_59 (by decide) ?_
      exact rr_sub (lv2 := [(0, .ref (ph 79)), (1, .int a1), (2, .int a2), (3, .int a3), (4, .int (x4 + (1 : Int32)))]) [1, 2, 3, 4, 0] rfl (ih _ _ hf)
set_option maxHeartbeats 4000000 in
set_option maxRecDepth 100000 in
theorem mX8_walk (ph : Nat → Nat) (a1 : Int32) (a2 : Int32) (a3 : Int32) (M : rm_M) (rho : Int32 × rm_M)  (hf : fX8_walk a1 a2 a3 M = some rho) : rm_CI yX8_walk wsX8_walk 4 92 [.ref (ph 79), .int a1, .int a2, .int a3] 96 ph M rho := by
  refine rm_metI (cc := cX8_walk) (maxL := 13) (by decide +kernel) rfl rfl (Nat.le_of_ble_eq_true rfl) rfl (fun G hG hR => ?_)
  unfold fX8_walk at hf
  refine rr_iload_n hG dX8_walk_0 1 rfl rfl ?_
  refine rr_iconst hG (v := 0) dX8_walk_1 (by decide) ?_
  refine rr_sipush hG (v := 9999) dX8_walk_2 (by decide) ?_
  refine rr_cSI hG (st := []) (n := 3) (rf := 0) (rl := 0) [.int a1, .int (0 : Int32), .int (9999 : Int32)] dX8_walk_5 hf gX8_walk_X8_isIn rfl (by decide +kernel) rfl ⟨by decide, by decide⟩ rfl (Nat.le_of_ble_eq_true rfl) (fun r9 M9 h9 => mX8_isIn ph _ _ _ _ _ h9) (fun r32 M33 h31 hf => ?_)
  refine rr_if_eq hG (tgt := 30) dX8_walk_8 (by decide) hf (fun c34 hf => ?_) (fun c34 hf => ?_)
  · refine rr_iconst hG (v := (-1)) dX8_walk_30 (by decide) ?_
    exact rr_iret hG hR dX8_walk_31 hf
  · refine rr_iload_n hG dX8_walk_11 2 rfl rfl ?_
    refine rr_iconst hG (v := 1) dX8_walk_12 (by decide) ?_
    refine rr_bipush hG (v := 60) dX8_walk_13 (by decide) ?_
    refine rr_cSI hG (st := []) (n := 3) (rf := 0) (rl := 0) [.int a2, .int (1 : Int32), .int (60 : Int32)] dX8_walk_15 hf gX8_walk_X8_isIn rfl (by decide +kernel) rfl ⟨by decide, by decide⟩ rfl (Nat.le_of_ble_eq_true rfl) (fun r9 M9 h9 => mX8_isIn ph _ _ _ _ _ h9) (fun r36 M37 h35 hf => ?_)
    refine rr_if_eq hG (tgt := 30) dX8_walk_18 (by decide) hf (fun c38 hf => ?_) (fun c38 hf => ?_)
    · refine rr_iconst hG (v := (-1)) dX8_walk_30 (by decide) ?_
      exact rr_iret hG hR dX8_walk_31 hf
    · refine rr_iload_n hG dX8_walk_21 3 rfl rfl ?_
      refine rr_iconst hG (v := 0) dX8_walk_22 (by decide) ?_
      refine rr_iconst hG (v := 2) dX8_walk_23 (by decide) ?_
      refine rr_cSI hG (st := []) (n := 3) (rf := 0) (rl := 0) [.int a3, .int (0 : Int32), .int (2 : Int32)] dX8_walk_24 hf gX8_walk_X8_isIn rfl (by decide +kernel) rfl ⟨by decide, by decide⟩ rfl (Nat.le_of_ble_eq_true rfl) (fun r9 M9 h9 => mX8_isIn ph _ _ _ _ _ h9) (fun r40 M41 h39 hf => ?_)
      refine rr_if_ne hG (tgt := 32) dX8_walk_27 (by decide) hf (fun c42 hf => ?_) (fun c42 hf => ?_)
      · refine rr_iconst hG (v := 0) dX8_walk_32 (by decide) ?_
        refine rr_istore hG (lv2 := [(4, .int (0 : Int32)), (0, .ref (ph 79)), (1, .int a1), (2, .int a2), (3, .int a3)]) dX8_walk_33 (by decide) rfl ?_
        exact rr_sub (lv2 := [(0, .ref (ph 79)), (1, .int a1), (2, .int a2), (3, .int a3), (4, .int (0 : Int32))]) [1, 2, 3, 4, 0] rfl (wX8_walk_L35 _ _ _ hG hR _ _ _ hf)
      · refine rr_iconst hG (v := (-1)) dX8_walk_30 (by decide) ?_
        exact rr_iret hG hR dX8_walk_31 hf
/-! X8.count -/
theorem tX8_count_X8 : ∀ w ∈ u_ws RX8 TX8 26, w ∈ wsX8_count := by decide +kernel
theorem kX8_count_76 : Cond.fieldLink RX8 76 "RingPagesModel" "cells" "I" ∈ wsX8_count := by decide +kernel
theorem kX8_count_79 : Cond.fieldLink RX8 79 "RingPagesModel" "joins" "I" ∈ wsX8_count := by decide +kernel
theorem kX8_count_19 : Cond.fieldLink RX8 19 "RingPagesModel" "now" "[I" ∈ wsX8_count := by decide +kernel
theorem kX8_count_16 : Cond.fieldLink RX8 16 "RingPagesModel" "price" "[I" ∈ wsX8_count := by decide +kernel
theorem kX8_count_82 : Cond.fieldLink RX8 82 "RingPagesModel" "changes" "I" ∈ wsX8_count := by decide +kernel
theorem kX8_count_85 : Cond.fieldLink RX8 85 "RingPagesModel" "length" "I" ∈ wsX8_count := by decide +kernel
set_option maxHeartbeats 4000000 in
set_option maxRecDepth 100000 in
theorem mX8_count (ph : Nat → Nat) (a1 : Int32) (M : rm_M) (rho : Int32 × rm_M)  (hf : fX8_count a1 M = some rho) : rm_CI yX8_count wsX8_count 0 0 [.ref (ph 79), .int a1] 96 ph M rho := by
  refine rm_metI (cc := cX8_count) (maxL := 2) (by decide +kernel) rfl rfl (Nat.le_of_ble_eq_true rfl) rfl (fun G hG hR => ?_)
  unfold fX8_count at hf
  refine rr_iload_n hG dX8_count_0 1 rfl rfl ?_
  by_cases c1 : a1 = 0
  · rw [if_pos c1] at hf
    refine rr_tableIn hG (tgt := 56) (0) dX8_count_1 (by rw [c1]; decide) (by decide) (by decide) rfl (by decide) ?_
    refine rr_aload_n hG dX8_count_56 0 rfl rfl ?_
    refine rr_get hG 8 2 dX8_count_57 ⟨rfl, by decide⟩ (by decide) rfl tX8_count_X8 (by decide) kX8_count_76 rfl rfl ?_
    exact rr_iret hG hR dX8_count_60 hf
  · rw [if_neg c1] at hf
    by_cases c2 : a1 = 1
    · rw [if_pos c2] at hf
      refine rr_tableIn hG (tgt := 61) (1) dX8_count_1 (by rw [c2]; decide) (by decide) (by decide) rfl (by decide) ?_
      refine rr_aload_n hG dX8_count_61 0 rfl rfl ?_
      refine rr_get hG 8 3 dX8_count_62 ⟨rfl, by decide⟩ (by decide) rfl tX8_count_X8 (by decide) kX8_count_79 rfl rfl ?_
      exact rr_iret hG hR dX8_count_65 hf
    · rw [if_neg c2] at hf
      by_cases c3 : a1 = 2
      · rw [if_pos c3] at hf
        refine rr_tableIn hG (tgt := 66) (2) dX8_count_1 (by rw [c3]; decide) (by decide) (by decide) rfl (by decide) ?_
        refine rr_aload_n hG dX8_count_66 0 rfl rfl ?_
        refine rr_get hG 8 6 (v := .ref (ph 83)) dX8_count_67 ⟨rfl, by decide⟩ (by decide) rfl tX8_count_X8 (by decide) kX8_count_19 rfl rfl ?_
        refine rr_bipush hG (v := 10) dX8_count_70 (by decide) ?_
        refine rr_iload_n hG dX8_count_72 1 rfl rfl ?_
        refine rr_iadd hG dX8_count_73 ?_
        refine rr_iald hG dX8_count_74 ⟨rfl, by decide⟩ hf (fun b4 hf => ?_)
        exact rr_iret hG hR dX8_count_75 hf
      · rw [if_neg c3] at hf
        by_cases c5 : a1 = 3
        · rw [if_pos c5] at hf
          refine rr_tableIn hG (tgt := 66) (3) dX8_count_1 (by rw [c5]; decide) (by decide) (by decide) rfl (by decide) ?_
          refine rr_aload_n hG dX8_count_66 0 rfl rfl ?_
          refine rr_get hG 8 6 (v := .ref (ph 83)) dX8_count_67 ⟨rfl, by decide⟩ (by decide) rfl tX8_count_X8 (by decide) kX8_count_19 rfl rfl ?_
          refine rr_bipush hG (v := 10) dX8_count_70 (by decide) ?_
          refine rr_iload_n hG dX8_count_72 1 rfl rfl ?_
          refine rr_iadd hG dX8_count_73 ?_
          refine rr_iald hG dX8_count_74 ⟨rfl, by decide⟩ hf (fun b6 hf => ?_)
          exact rr_iret hG hR dX8_count_75 hf
        · rw [if_neg c5] at hf
          by_cases c7 : a1 = 4
          · rw [if_pos c7] at hf
            refine rr_tableIn hG (tgt := 76) (4) dX8_count_1 (by rw [c7]; decide) (by decide) (by decide) rfl (by decide) ?_
            refine rr_aload_n hG dX8_count_76 0 rfl rfl ?_
            refine rr_get hG 8 5 (v := .ref (ph 82)) dX8_count_77 ⟨rfl, by decide⟩ (by decide) rfl tX8_count_X8 (by decide) kX8_count_16 rfl rfl ?_
            refine rr_iload_n hG dX8_count_80 1 rfl rfl ?_
            refine rr_iconst hG (v := 4) dX8_count_81 (by decide) ?_
            refine rr_isub hG dX8_count_82 ?_
            refine rr_iald hG dX8_count_83 ⟨rfl, by decide⟩ hf (fun b8 hf => ?_)
            exact rr_iret hG hR dX8_count_84 hf
          · rw [if_neg c7] at hf
            by_cases c9 : a1 = 5
            · rw [if_pos c9] at hf
              refine rr_tableIn hG (tgt := 76) (5) dX8_count_1 (by rw [c9]; decide) (by decide) (by decide) rfl (by decide) ?_
              refine rr_aload_n hG dX8_count_76 0 rfl rfl ?_
              refine rr_get hG 8 5 (v := .ref (ph 82)) dX8_count_77 ⟨rfl, by decide⟩ (by decide) rfl tX8_count_X8 (by decide) kX8_count_16 rfl rfl ?_
              refine rr_iload_n hG dX8_count_80 1 rfl rfl ?_
              refine rr_iconst hG (v := 4) dX8_count_81 (by decide) ?_
              refine rr_isub hG dX8_count_82 ?_
              refine rr_iald hG dX8_count_83 ⟨rfl, by decide⟩ hf (fun b10 hf => ?_)
              exact rr_iret hG hR dX8_count_84 hf
            · rw [if_neg c9] at hf
              by_cases c11 : a1 = 6
              · rw [if_pos c11] at hf
                refine rr_tableIn hG (tgt := 76) (6) dX8_count_1 (by rw [c11]; decide) (by decide) (by decide) rfl (by decide) ?_
                refine rr_aload_n hG dX8_count_76 0 rfl rfl ?_
                refine rr_get hG 8 5 (v := .ref (ph 82)) dX8_count_77 ⟨rfl, by decide⟩ (by decide) rfl tX8_count_X8 (by decide) kX8_count_16 rfl rfl ?_
                refine rr_iload_n hG dX8_count_80 1 rfl rfl ?_
                refine rr_iconst hG (v := 4) dX8_count_81 (by decide) ?_
                refine rr_isub hG dX8_count_82 ?_
                refine rr_iald hG dX8_count_83 ⟨rfl, by decide⟩ hf (fun b12 hf => ?_)
                exact rr_iret hG hR dX8_count_84 hf
              · rw [if_neg c11] at hf
                by_cases c13 : a1 = 7
                · rw [if_pos c13] at hf
                  refine rr_tableIn hG (tgt := 76) (7) dX8_count_1 (by rw [c13]; decide) (by decide) (by decide) rfl (by decide) ?_
                  refine rr_aload_n hG dX8_count_76 0 rfl rfl ?_
                  refine rr_get hG 8 5 (v := .ref (ph 82)) dX8_count_77 ⟨rfl, by decide⟩ (by decide) rfl tX8_count_X8 (by decide) kX8_count_16 rfl rfl ?_
                  refine rr_iload_n hG dX8_count_80 1 rfl rfl ?_
                  refine rr_iconst hG (v := 4) dX8_count_81 (by decide) ?_
                  refine rr_isub hG dX8_count_82 ?_
                  refine rr_iald hG dX8_count_83 ⟨rfl, by decide⟩ hf (fun b14 hf => ?_)
                  exact rr_iret hG hR dX8_count_84 hf
                · rw [if_neg c13] at hf
                  by_cases c15 : a1 = 8
                  · rw [if_pos c15] at hf
                    refine rr_tableIn hG (tgt := 85) (8) dX8_count_1 (by rw [c15]; decide) (by decide) (by decide) rfl (by decide) ?_
                    refine rr_aload_n hG dX8_count_85 0 rfl rfl ?_
                    refine rr_get hG 8 8 dX8_count_86 ⟨rfl, by decide⟩ (by decide) rfl tX8_count_X8 (by decide) kX8_count_82 rfl rfl ?_
                    exact rr_iret hG hR dX8_count_89 hf
                  · rw [if_neg c15] at hf
                    by_cases c16 : a1 = 9
                    · rw [if_pos c16] at hf
                      refine rr_tableIn hG (tgt := 90) (9) dX8_count_1 (by rw [c16]; decide) (by decide) (by decide) rfl (by decide) ?_
                      refine rr_aload_n hG dX8_count_90 0 rfl rfl ?_
                      refine rr_get hG 8 0 dX8_count_91 ⟨rfl, by decide⟩ (by decide) rfl tX8_count_X8 (by decide) kX8_count_85 rfl rfl ?_
                      exact rr_iret hG hR dX8_count_94 hf
                    · rw [if_neg c16] at hf
                      have kk : rm_L G 96 ph 2 95 [(0, .ref (ph 79)), (1, .int a1)] [] M := by
                        refine rr_iconst hG (v := (-1)) dX8_count_95 (by decide) ?_
                        exact rr_iret hG hR dX8_count_96 hf
                      have hz : a1.toInt < 0 ∨ 9 < a1.toInt := by have n0 := lv_neT c1 (a := 0) (by decide); have n1 := lv_neT c2 (a := 1) (by decide); have n2 := lv_neT c3 (a := 2) (by decide); have n3 := lv_neT c5 (a := 3) (by decide); have n4 := lv_neT c7 (a := 4) (by decide); have n5 := lv_neT c9 (a := 5) (by decide); have n6 := lv_neT c11 (a := 6) (by decide); have n7 := lv_neT c13 (a := 7) (by decide); have n8 := lv_neT c15 (a := 8) (by decide); have n9 := lv_neT c16 (a := 9) (by decide); omega
                      rcases hz with hz | hz
                      · exact rr_tableOut hG (tgt := 95) dX8_count_1 (Or.inl hz) (by decide) kk
                      · exact rr_tableOut hG (tgt := 95) dX8_count_1 (Or.inr hz) (by decide) kk
