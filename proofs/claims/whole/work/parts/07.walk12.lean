/-! X8.whereIs -/
theorem tX8_whereIs_X8 : ∀ w ∈ u_ws RX8 TX8 26, w ∈ wsX8_whereIs := by decide +kernel
theorem kX8_whereIs_37 : Cond.fieldLink RX8 37 "RingPagesModel" "next" "[I" ∈ wsX8_whereIs := by decide +kernel
theorem kX8_whereIs_19 : Cond.fieldLink RX8 19 "RingPagesModel" "now" "[I" ∈ wsX8_whereIs := by decide +kernel
theorem kX8_whereIs_76 : Cond.fieldLink RX8 76 "RingPagesModel" "cells" "I" ∈ wsX8_whereIs := by decide +kernel
theorem kX8_whereIs_34 : Cond.fieldLink RX8 34 "RingPagesModel" "can" "[I" ∈ wsX8_whereIs := by decide +kernel
set_option maxHeartbeats 4000000 in
set_option maxRecDepth 100000 in
theorem wX8_whereIs_L60 {G : rm_G} {ph : Nat → Nat} {rho : Int32 × rm_M}  (hG : rm_k G 96 ph cX8_whereIs RX8 wsX8_whereIs 7 3 73) (hR : rm_rI G 96 ph .int rho)  (q32 : Int32 → Int32 → Int32 → rm_M → Option (Int32 × rm_M)) (hq32 : ∀ (x1 : Int32) (x2 : Int32) (x3 : Int32) (M : rm_M), q32 x1 x2 x3 M = some rho → rm_L G 96 ph 7 32 [(0, .ref (ph 79)), (1, .int x1), (2, .int x2), (3, .int x3)] [] M) : ∀ (x1 : Int32) (x2 : Int32) (x3 : Int32) (s1 : Int32) (s2 : Int32) (M : rm_M), fX8_whereIs_L60 q32 x1 x2 x3 s1 s2 M = some rho → rm_L G 96 ph 7 60 [(0, .ref (ph 79)), (1, .int x1), (2, .int x2), (3, .int x3)] [.int s2, .int s1, .ref (ph 88)] M := by
  intro x1 x2 x3 s1 s2 M hf
  unfold fX8_whereIs_L60 at hf
  refine rr_iast hG dX8_whereIs_60 ⟨rfl, by decide⟩ hf (fun b1 hf => ?_)
  refine rr_bindM hf (fun M2 eM2 hf => ?_)
  refine rr_iinc hG (v := x3 + (1 : Int32)) (lv2 := [(3, .int (x3 + (1 : Int32))), (0, .ref (ph 79)), (1, .int x1), (2, .int x2)]) (k := 3) dX8_whereIs_61 rfl rfl (by decide) rfl ?_
  refine rr_goto hG (tgt := 32) dX8_whereIs_64 (by decide) ?_
  exact rr_sub (lv2 := [(0, .ref (ph 79)), (1, .int x1), (2, .int x2), (3, .int (x3 + (1 : Int32)))]) [1, 2, 3, 0] rfl (hq32 _ _ _ _ hf)
set_option maxHeartbeats 4000000 in
set_option maxRecDepth 100000 in
theorem wX8_whereIs_L219 {G : rm_G} {ph : Nat → Nat} {rho : Int32 × rm_M}  (hG : rm_k G 96 ph cX8_whereIs RX8 wsX8_whereIs 7 3 73) (hR : rm_rI G 96 ph .int rho)  (q69 : Int32 → Int32 → Int32 → rm_M → Option (Int32 × rm_M)) (q107 : Int32 → Int32 → Int32 → Int32 → rm_M → Option (Int32 × rm_M)) (q116 : Int32 → Int32 → Int32 → Int32 → Int32 → rm_M → Option (Int32 × rm_M)) (hq69 : ∀ (x1 : Int32) (x2 : Int32) (x3 : Int32) (M : rm_M), q69 x1 x2 x3 M = some rho → rm_L G 96 ph 7 69 [(0, .ref (ph 79)), (1, .int x1), (2, .int x2), (3, .int x3)] [] M) (hq107 : ∀ (x1 : Int32) (x2 : Int32) (x3 : Int32) (x4 : Int32) (M : rm_M), q107 x1 x2 x3 x4 M = some rho → rm_L G 96 ph 7 107 [(0, .ref (ph 79)), (1, .int x1), (2, .int x2), (3, .int x3), (4, .int x4)] [] M) (hq116 : ∀ (x1 : Int32) (x2 : Int32) (x3 : Int32) (x4 : Int32) (x5 : Int32) (M : rm_M), q116 x1 x2 x3 x4 x5 M = some rho → rm_L G 96 ph 7 116 [(0, .ref (ph 79)), (1, .int x1), (2, .int x2), (3, .int x3), (4, .int x4), (5, .int x5)] [] M) : ∀ (x1 : Int32) (x2 : Int32) (x3 : Int32) (x4 : Int32) (x5 : Int32) (M : rm_M), fX8_whereIs_L219 q69 q107 q116 x1 x2 x3 x4 x5 M = some rho → rm_L G 96 ph 7 219 [(0, .ref (ph 79)), (1, .int x1), (2, .int x2), (3, .int x3), (4, .int x4), (5, .int x5)] [] M := by
  intro x1 x2 x3 x4 x5 M hf
  unfold fX8_whereIs_L219 at hf
  refine rr_iinc hG (v := x5 + (1 : Int32)) (lv2 := [(5, .int (x5 + (1 : Int32))), (0, .ref (ph 79)), (1, .int x1), (2, .int x2), (3, .int x3), (4, .int x4)]) (k := 5) dX8_whereIs_219 rfl rfl (by decide) rfl ?_
  refine rr_goto hG (tgt := 116) dX8_whereIs_222 (by decide) ?_
  exact rr_sub (lv2 := [(0, .ref (ph 79)), (1, .int x1), (2, .int x2), (3, .int x3), (4, .int x4), (5, .int (x5 + (1 : Int32)))]) [1, 2, 3, 4, 5, 0] rfl (hq116 _ _ _ _ _ _ hf)
set_option maxHeartbeats 4000000 in
set_option maxRecDepth 100000 in
theorem wX8_whereIs_L217 {G : rm_G} {ph : Nat → Nat} {rho : Int32 × rm_M}  (hG : rm_k G 96 ph cX8_whereIs RX8 wsX8_whereIs 7 3 73) (hR : rm_rI G 96 ph .int rho)  (q69 : Int32 → Int32 → Int32 → rm_M → Option (Int32 × rm_M)) (q107 : Int32 → Int32 → Int32 → Int32 → rm_M → Option (Int32 × rm_M)) (q116 : Int32 → Int32 → Int32 → Int32 → Int32 → rm_M → Option (Int32 × rm_M)) (hq69 : ∀ (x1 : Int32) (x2 : Int32) (x3 : Int32) (M : rm_M), q69 x1 x2 x3 M = some rho → rm_L G 96 ph 7 69 [(0, .ref (ph 79)), (1, .int x1), (2, .int x2), (3, .int x3)] [] M) (hq107 : ∀ (x1 : Int32) (x2 : Int32) (x3 : Int32) (x4 : Int32) (M : rm_M), q107 x1 x2 x3 x4 M = some rho → rm_L G 96 ph 7 107 [(0, .ref (ph 79)), (1, .int x1), (2, .int x2), (3, .int x3), (4, .int x4)] [] M) (hq116 : ∀ (x1 : Int32) (x2 : Int32) (x3 : Int32) (x4 : Int32) (x5 : Int32) (M : rm_M), q116 x1 x2 x3 x4 x5 M = some rho → rm_L G 96 ph 7 116 [(0, .ref (ph 79)), (1, .int x1), (2, .int x2), (3, .int x3), (4, .int x4), (5, .int x5)] [] M) : ∀ (x1 : Int32) (x2 : Int32) (x3 : Int32) (x4 : Int32) (x5 : Int32) (s1 : Int32) (s2 : Int32) (s3 : Int32) (M : rm_M), fX8_whereIs_L217 q69 q107 q116 x1 x2 x3 x4 x5 s1 s2 s3 M = some rho → rm_L G 96 ph 7 217 [(0, .ref (ph 79)), (1, .int x1), (2, .int x2), (3, .int x3), (4, .int x4), (5, .int x5)] [.int s3, .int s2, .int s1, .ref (ph 89)] M := by
  intro x1 x2 x3 x4 x5 s1 s2 s3 M hf
  unfold fX8_whereIs_L217 at hf
  refine rr_ior hG dX8_whereIs_217 ?_
  refine rr_iast hG dX8_whereIs_218 ⟨rfl, by decide⟩ hf (fun b3 hf => ?_)
  refine rr_bindM hf (fun M4 eM4 hf => ?_)
  exact rr_sub (lv2 := [(0, .ref (ph 79)), (1, .int x1), (2, .int x2), (3, .int x3), (4, .int x4), (5, .int x5)]) [0, 1, 2, 3, 4, 5] rfl (wX8_whereIs_L219 hG hR _ _ _ (hq69) (hq107) (hq116) _ _ _ _ _ _ hf)
set_option maxHeartbeats 4000000 in
set_option maxRecDepth 100000 in
theorem wX8_whereIs_L189 {G : rm_G} {ph : Nat → Nat} {rho : Int32 × rm_M}  (hG : rm_k G 96 ph cX8_whereIs RX8 wsX8_whereIs 7 3 73) (hR : rm_rI G 96 ph .int rho)  (q69 : Int32 → Int32 → Int32 → rm_M → Option (Int32 × rm_M)) (q107 : Int32 → Int32 → Int32 → Int32 → rm_M → Option (Int32 × rm_M)) (q116 : Int32 → Int32 → Int32 → Int32 → Int32 → rm_M → Option (Int32 × rm_M)) (hq69 : ∀ (x1 : Int32) (x2 : Int32) (x3 : Int32) (M : rm_M), q69 x1 x2 x3 M = some rho → rm_L G 96 ph 7 69 [(0, .ref (ph 79)), (1, .int x1), (2, .int x2), (3, .int x3)] [] M) (hq107 : ∀ (x1 : Int32) (x2 : Int32) (x3 : Int32) (x4 : Int32) (M : rm_M), q107 x1 x2 x3 x4 M = some rho → rm_L G 96 ph 7 107 [(0, .ref (ph 79)), (1, .int x1), (2, .int x2), (3, .int x3), (4, .int x4)] [] M) (hq116 : ∀ (x1 : Int32) (x2 : Int32) (x3 : Int32) (x4 : Int32) (x5 : Int32) (M : rm_M), q116 x1 x2 x3 x4 x5 M = some rho → rm_L G 96 ph 7 116 [(0, .ref (ph 79)), (1, .int x1), (2, .int x2), (3, .int x3), (4, .int x4), (5, .int x5)] [] M) : ∀ (x1 : Int32) (x2 : Int32) (x3 : Int32) (x4 : Int32) (x5 : Int32) (s0 : Int32) (M : rm_M), fX8_whereIs_L189 q69 q107 q116 x1 x2 x3 x4 x5 s0 M = some rho → rm_L G 96 ph 7 189 [(0, .ref (ph 79)), (1, .int x1), (2, .int x2), (3, .int x3), (4, .int x4), (5, .int x5)] [.int s0] M := by
  intro x1 x2 x3 x4 x5 s0 M hf
  unfold fX8_whereIs_L189 at hf
  refine rr_istore hG (lv2 := [(6, .int s0), (0, .ref (ph 79)), (1, .int x1), (2, .int x2), (3, .int x3), (4, .int x4), (5, .int x5)]) dX8_whereIs_189 (by decide) rfl ?_
  refine rr_aload_n hG dX8_whereIs_191 1 rfl rfl ?_
  refine rr_get hG 8 17 (v := .ref (ph 89)) dX8_whereIs_192 ⟨rfl, by decide⟩ (by decide) rfl tX8_whereIs_X8 (by decide) kX8_whereIs_37 rfl rfl ?_
  refine rr_iload hG dX8_whereIs_195 0 rfl ?_
  refine rr_dup2 hG dX8_whereIs_197 rfl rfl ?_
  refine rr_iald hG dX8_whereIs_198 ⟨rfl, by decide⟩ hf (fun b5 hf => ?_)
  refine rr_iload hG dX8_whereIs_199 0 rfl ?_
  refine rr_iload_n hG dX8_whereIs_201 3 rfl rfl ?_
  refine rr_icmp_gt hG (tgt := 216) dX8_whereIs_202 (by decide) hf (fun c6 hf => ?_) (fun c6 hf => ?_)
  · refine rr_iconst hG (v := 0) dX8_whereIs_216 (by decide) ?_
    exact rr_sub (lv2 := [(0, .ref (ph 79)), (1, .int x1), (2, .int x2), (3, .int x3), (4, .int x4), (5, .int x5)]) [1, 2, 3, 4, 5, 6] rfl (wX8_whereIs_L217 hG hR _ _ _ (hq69) (hq107) (hq116) _ _ _ _ _ _ _ _ _ hf)
  · refine rr_aload_n hG dX8_whereIs_205 1 rfl rfl ?_
    refine rr_iload hG dX8_whereIs_206 6 rfl ?_
    refine rr_cVI hG (st := [.int (M.1 89 (s0).toNatClampNeg), .int s0, .ref (ph 89)]) (n := 1) (ci := 8) (rf := 0) (rl := 0) [.int x5] dX8_whereIs_208 hf ⟨rfl, by decide⟩ (by decide) rfl gX8_whereIs_X8_joined rfl (by decide +kernel) rfl ⟨by decide, by decide⟩ rfl (Nat.le_of_ble_eq_true rfl) (fun r9 M9 h9 => mX8_joined ph _ _ _ h9) (fun r8 M9 h7 hf => ?_)
    refine rr_iload_n hG dX8_whereIs_211 2 rfl rfl ?_
    refine rr_iand hG dX8_whereIs_212 ?_
    refine rr_goto hG (tgt := 217) dX8_whereIs_213 (by decide) ?_
    exact rr_sub (lv2 := [(0, .ref (ph 79)), (1, .int x1), (2, .int x2), (3, .int x3), (4, .int x4), (5, .int x5)]) [1, 2, 3, 4, 5, 6] rfl (wX8_whereIs_L217 hG hR _ _ _ (hq69) (hq107) (hq116) _ _ _ _ _ _ _ _ _ hf)
set_option maxHeartbeats 4000000 in
set_option maxRecDepth 100000 in
theorem wX8_whereIs_L167 {G : rm_G} {ph : Nat → Nat} {rho : Int32 × rm_M}  (hG : rm_k G 96 ph cX8_whereIs RX8 wsX8_whereIs 7 3 73) (hR : rm_rI G 96 ph .int rho)  (q69 : Int32 → Int32 → Int32 → rm_M → Option (Int32 × rm_M)) (q107 : Int32 → Int32 → Int32 → Int32 → rm_M → Option (Int32 × rm_M)) (q116 : Int32 → Int32 → Int32 → Int32 → Int32 → rm_M → Option (Int32 × rm_M)) (hq69 : ∀ (x1 : Int32) (x2 : Int32) (x3 : Int32) (M : rm_M), q69 x1 x2 x3 M = some rho → rm_L G 96 ph 7 69 [(0, .ref (ph 79)), (1, .int x1), (2, .int x2), (3, .int x3)] [] M) (hq107 : ∀ (x1 : Int32) (x2 : Int32) (x3 : Int32) (x4 : Int32) (M : rm_M), q107 x1 x2 x3 x4 M = some rho → rm_L G 96 ph 7 107 [(0, .ref (ph 79)), (1, .int x1), (2, .int x2), (3, .int x3), (4, .int x4)] [] M) (hq116 : ∀ (x1 : Int32) (x2 : Int32) (x3 : Int32) (x4 : Int32) (x5 : Int32) (M : rm_M), q116 x1 x2 x3 x4 x5 M = some rho → rm_L G 96 ph 7 116 [(0, .ref (ph 79)), (1, .int x1), (2, .int x2), (3, .int x3), (4, .int x4), (5, .int x5)] [] M) : ∀ (x1 : Int32) (x2 : Int32) (x3 : Int32) (x4 : Int32) (x5 : Int32) (s1 : Int32) (s2 : Int32) (s3 : Int32) (M : rm_M), fX8_whereIs_L167 q69 q107 q116 x1 x2 x3 x4 x5 s1 s2 s3 M = some rho → rm_L G 96 ph 7 167 [(0, .ref (ph 79)), (1, .int x1), (2, .int x2), (3, .int x3), (4, .int x4), (5, .int x5)] [.int s3, .int s2, .int s1, .ref (ph 89)] M := by
  intro x1 x2 x3 x4 x5 s1 s2 s3 M hf
  unfold fX8_whereIs_L167 at hf
  refine rr_ior hG dX8_whereIs_167 ?_
  refine rr_iast hG dX8_whereIs_168 ⟨rfl, by decide⟩ hf (fun b10 hf => ?_)
  refine rr_bindM hf (fun M11 eM11 hf => ?_)
  refine rr_aload_n hG dX8_whereIs_169 0 rfl rfl ?_
  refine rr_get hG 8 6 (v := .ref (ph 83)) dX8_whereIs_170 ⟨rfl, by decide⟩ (by decide) rfl tX8_whereIs_X8 (by decide) kX8_whereIs_19 rfl rfl ?_
  refine rr_bipush hG (v := 12) dX8_whereIs_173 (by decide) ?_
  refine rr_iald hG dX8_whereIs_175 ⟨rfl, by decide⟩ hf (fun b12 hf => ?_)
  refine rr_iconst hG (v := 1) dX8_whereIs_176 (by decide) ?_
  refine rr_icmp_ne hG (tgt := 187) dX8_whereIs_177 (by decide) hf (fun c13 hf => ?_) (fun c13 hf => ?_)
  · refine rr_iload hG dX8_whereIs_187 4 rfl ?_
    exact rr_sub (lv2 := [(0, .ref (ph 79)), (1, .int x1), (2, .int x2), (3, .int x3), (4, .int x4), (5, .int x5)]) [0, 1, 2, 3, 4, 5] rfl (wX8_whereIs_L189 hG hR _ _ _ (hq69) (hq107) (hq116) _ _ _ _ _ _ _ hf)
  · refine rr_iload hG dX8_whereIs_180 4 rfl ?_
    refine rr_iconst hG (v := 1) dX8_whereIs_182 (by decide) ?_
    refine rr_iadd hG dX8_whereIs_183 ?_
    refine rr_goto hG (tgt := 189) dX8_whereIs_184 (by decide) ?_
    exact rr_sub (lv2 := [(0, .ref (ph 79)), (1, .int x1), (2, .int x2), (3, .int x3), (4, .int x4), (5, .int x5)]) [0, 1, 2, 3, 4, 5] rfl (wX8_whereIs_L189 hG hR _ _ _ (hq69) (hq107) (hq116) _ _ _ _ _ _ _ hf)
set_option maxHeartbeats 4000000 in
set_option maxRecDepth 100000 in
theorem wX8_whereIs_L116 {G : rm_G} {ph : Nat → Nat} {rho : Int32 × rm_M}  (hG : rm_k G 96 ph cX8_whereIs RX8 wsX8_whereIs 7 3 73) (hR : rm_rI G 96 ph .int rho)  (q69 : Int32 → Int32 → Int32 → rm_M → Option (Int32 × rm_M)) (q107 : Int32 → Int32 → Int32 → Int32 → rm_M → Option (Int32 × rm_M)) (hq69 : ∀ (x1 : Int32) (x2 : Int32) (x3 : Int32) (M : rm_M), q69 x1 x2 x3 M = some rho → rm_L G 96 ph 7 69 [(0, .ref (ph 79)), (1, .int x1), (2, .int x2), (3, .int x3)] [] M) (hq107 : ∀ (x1 : Int32) (x2 : Int32) (x3 : Int32) (x4 : Int32) (M : rm_M), q107 x1 x2 x3 x4 M = some rho → rm_L G 96 ph 7 107 [(0, .ref (ph 79)), (1, .int x1), (2, .int x2), (3, .int x3), (4, .int x4)] [] M) : ∀ (n : Nat) (x1 : Int32) (x2 : Int32) (x3 : Int32) (x4 : Int32) (x5 : Int32) (M : rm_M), fX8_whereIs_L116 q69 q107 n x1 x2 x3 x4 x5 M = some rho → rm_L G 96 ph 7 116 [(0, .ref (ph 79)), (1, .int x1), (2, .int x2), (3, .int x3), (4, .int x4), (5, .int x5)] [] M := by
  intro n
  induction n with
  | zero => intro x1 x2 x3 x4 x5 M hf; rw [fX8_whereIs_L116] at hf; cases hf
  | succ n ih =>
    intro x1 x2 x3 x4 x5 M hf
    rw [fX8_whereIs_L116] at hf
    refine rr_iload hG dX8_whereIs_116 5 rfl ?_
    refine rr_aload_n hG dX8_whereIs_118 0 rfl rfl ?_
    refine rr_get hG 8 2 dX8_whereIs_119 ⟨rfl, by decide⟩ (by decide) rfl tX8_whereIs_X8 (by decide) kX8_whereIs_76 rfl rfl ?_
    refine rr_icmp_ge hG (tgt := 225) dX8_whereIs_122 (by decide) hf (fun c14 hf => ?_) (fun c14 hf => ?_)
    · refine rr_iinc hG (v := x4 + (1 : Int32)) (lv2 := [(4, .int (x4 + (1 : Int32))), (0, .ref (ph 79)), (1, .int x1), (2, .int x2), (3, .int x3), (5, .int x5)]) (k := 4) dX8_whereIs_225 rfl rfl (by decide) rfl ?_
      refine rr_goto hG (tgt := 107) dX8_whereIs_228 (by decide) ?_
      exact rr_sub (lv2 := [(0, .ref (ph 79)), (1, .int x1), (2, .int x2), (3, .int x3), (4, .int (x4 + (1 : Int32)))]) [1, 2, 3, 4, 0] rfl (hq107 _ _ _ _ _ hf)
    · refine rr_aload_n hG dX8_whereIs_125 0 rfl rfl ?_
      refine rr_get hG 8 16 (v := .ref (ph 88)) dX8_whereIs_126 ⟨rfl, by decide⟩ (by decide) rfl tX8_whereIs_X8 (by decide) kX8_whereIs_34 rfl rfl ?_
      refine rr_iload hG dX8_whereIs_129 4 rfl ?_
      refine rr_iald hG dX8_whereIs_131 ⟨rfl, by decide⟩ hf (fun b15 hf => ?_)
      refine rr_iload hG dX8_whereIs_132 5 rfl ?_
      refine rr_ishr hG dX8_whereIs_134 ?_
      refine rr_iconst hG (v := 1) dX8_whereIs_135 (by decide) ?_
      refine rr_iand hG dX8_whereIs_136 ?_
      refine rr_iconst hG (v := 1) dX8_whereIs_137 (by decide) ?_
      refine rr_icmp_ne hG (tgt := 219) dX8_whereIs_138 (by decide) hf (fun c16 hf => ?_) (fun c16 hf => ?_)
      · exact rr_sub (lv2 := [(0, .ref (ph 79)), (1, .int x1), (2, .int x2), (3, .int x3), (4, .int x4), (5, .int x5)]) [0, 1, 2, 3, 4, 5] rfl (wX8_whereIs_L219 hG hR _ _ _ (hq69) (hq107) (ih) _ _ _ _ _ _ hf)
      · refine rr_aload_n hG dX8_whereIs_141 0 rfl rfl ?_
        refine rr_get hG 8 17 (v := .ref (ph 89)) dX8_whereIs_142 ⟨rfl, by decide⟩ (by decide) rfl tX8_whereIs_X8 (by decide) kX8_whereIs_37 rfl rfl ?_
        refine rr_iload hG dX8_whereIs_145 4 rfl ?_
        refine rr_dup2 hG dX8_whereIs_147 rfl rfl ?_
        refine rr_iald hG dX8_whereIs_148 ⟨rfl, by decide⟩ hf (fun b17 hf => ?_)
        refine rr_aload_n hG dX8_whereIs_149 0 rfl rfl ?_
        refine rr_get hG 8 6 (v := .ref (ph 83)) dX8_whereIs_150 ⟨rfl, by decide⟩ (by decide) rfl tX8_whereIs_X8 (by decide) kX8_whereIs_19 rfl rfl ?_
        refine rr_iload hG dX8_whereIs_153 5 rfl ?_
        refine rr_iald hG dX8_whereIs_155 ⟨rfl, by decide⟩ hf (fun b18 hf => ?_)
        refine rr_if_le hG (tgt := 166) dX8_whereIs_156 (by decide) hf (fun c19 hf => ?_) (fun c19 hf => ?_)
        · refine rr_iconst hG (v := 0) dX8_whereIs_166 (by decide) ?_
          exact rr_sub (lv2 := [(0, .ref (ph 79)), (1, .int x1), (2, .int x2), (3, .int x3), (4, .int x4), (5, .int x5)]) [0, 1, 2, 3, 4, 5] rfl (wX8_whereIs_L167 hG hR _ _ _ (hq69) (hq107) (ih) _ _ _ _ _ _ _ _ _ hf)
        · refine rr_iconst hG (v := 1) dX8_whereIs_159 (by decide) ?_
          refine rr_iload hG dX8_whereIs_160 5 rfl ?_
          refine rr_ishl hG dX8_whereIs_162 ?_
          refine rr_goto hG (tgt := 167) dX8_whereIs_163 (by decide) ?_
          exact rr_sub (lv2 := [(0, .ref (ph 79)), (1, .int x1), (2, .int x2), (3, .int x3), (4, .int x4), (5, .int x5)]) [0, 1, 2, 3, 4, 5] rfl (wX8_whereIs_L167 hG hR _ _ _ (hq69) (hq107) (ih) _ _ _ _ _ _ _ _ _ hf)
set_option maxHeartbeats 4000000 in
set_option maxRecDepth 100000 in
theorem wX8_whereIs_L234 {G : rm_G} {ph : Nat → Nat} {rho : Int32 × rm_M}  (hG : rm_k G 96 ph cX8_whereIs RX8 wsX8_whereIs 7 3 73) (hR : rm_rI G 96 ph .int rho)  (q69 : Int32 → Int32 → Int32 → rm_M → Option (Int32 × rm_M)) (hq69 : ∀ (x1 : Int32) (x2 : Int32) (x3 : Int32) (M : rm_M), q69 x1 x2 x3 M = some rho → rm_L G 96 ph 7 69 [(0, .ref (ph 79)), (1, .int x1), (2, .int x2), (3, .int x3)] [] M) : ∀ (n : Nat) (x1 : Int32) (x2 : Int32) (x3 : Int32) (x4 : Int32) (M : rm_M), fX8_whereIs_L234 q69 n x1 x2 x3 x4 M = some rho → rm_L G 96 ph 7 234 [(0, .ref (ph 79)), (1, .int x1), (2, .int x2), (3, .int x3), (4, .int x4)] [] M := by
  intro n
  induction n with
  | zero => intro x1 x2 x3 x4 M hf; rw [fX8_whereIs_L234] at hf; cases hf
  | succ n ih =>
    intro x1 x2 x3 x4 M hf
    rw [fX8_whereIs_L234] at hf
    refine rr_iload hG dX8_whereIs_234 4 rfl ?_
    refine rr_bipush hG (v := 10) dX8_whereIs_236 (by decide) ?_
    refine rr_icmp_ge hG (tgt := 261) dX8_whereIs_238 (by decide) hf (fun c20 hf => ?_) (fun c20 hf => ?_)
    · refine rr_iinc hG (v := x3 + (1 : Int32)) (lv2 := [(3, .int (x3 + (1 : Int32))), (0, .ref (ph 79)), (1, .int x1), (2, .int x2), (4, .int x4)]) (k := 3) dX8_whereIs_261 rfl rfl (by decide) rfl ?_
      refine rr_goto hG (tgt := 69) dX8_whereIs_264 (by decide) ?_
      exact rr_sub (lv2 := [(0, .ref (ph 79)), (1, .int x1), (2, .int x2), (3, .int (x3 + (1 : Int32)))]) [1, 2, 3, 0] rfl (hq69 _ _ _ _ hf)
    · refine rr_aload_n hG dX8_whereIs_241 0 rfl rfl ?_
      refine rr_get hG 8 16 (v := .ref (ph 88)) dX8_whereIs_242 ⟨rfl, by decide⟩ (by decide) rfl tX8_whereIs_X8 (by decide) kX8_whereIs_34 rfl rfl ?_
      refine rr_iload hG dX8_whereIs_245 4 rfl ?_
      refine rr_aload_n hG dX8_whereIs_247 0 rfl rfl ?_
      refine rr_get hG 8 17 (v := .ref (ph 89)) dX8_whereIs_248 ⟨rfl, by decide⟩ (by decide) rfl tX8_whereIs_X8 (by decide) kX8_whereIs_37 rfl rfl ?_
      refine rr_iload hG dX8_whereIs_251 4 rfl ?_
      refine rr_iald hG dX8_whereIs_253 ⟨rfl, by decide⟩ hf (fun b21 hf => ?_)
      refine rr_iast hG dX8_whereIs_254 ⟨rfl, by decide⟩ hf (fun b22 hf => ?_)
      refine rr_bindM hf (fun M23 eM23 hf => ?_)
      refine rr_iinc hG (v := x4 + (1 : Int32)) (lv2 := [(4, .int (x4 + (1 : Int32))), (0, .ref (ph 79)), (1, .int x1), (2, .int x2), (3, .int x3)]) (k := 4) dX8_whereIs_255 rfl rfl (by decide) rfl ?_
      refine rr_goto hG (tgt := 234) dX8_whereIs_258 (by decide) ?_
      exact rr_sub (lv2 := [(0, .ref (ph 79)), (1, .int x1), (2, .int x2), (3, .int x3), (4, .int (x4 + (1 : Int32)))]) [1, 2, 3, 4, 0] rfl (ih _ _ _ _ _ hf)
set_option maxHeartbeats 4000000 in
set_option maxRecDepth 100000 in
theorem wX8_whereIs_L107 {G : rm_G} {ph : Nat → Nat} {rho : Int32 × rm_M}  (hG : rm_k G 96 ph cX8_whereIs RX8 wsX8_whereIs 7 3 73) (hR : rm_rI G 96 ph .int rho)  (q69 : Int32 → Int32 → Int32 → rm_M → Option (Int32 × rm_M)) (hq69 : ∀ (x1 : Int32) (x2 : Int32) (x3 : Int32) (M : rm_M), q69 x1 x2 x3 M = some rho → rm_L G 96 ph 7 69 [(0, .ref (ph 79)), (1, .int x1), (2, .int x2), (3, .int x3)] [] M) : ∀ (n : Nat) (x1 : Int32) (x2 : Int32) (x3 : Int32) (x4 : Int32) (M : rm_M), fX8_whereIs_L107 q69 n x1 x2 x3 x4 M = some rho → rm_L G 96 ph 7 107 [(0, .ref (ph 79)), (1, .int x1), (2, .int x2), (3, .int x3), (4, .int x4)] [] M := by
  intro n
  induction n with
  | zero => intro x1 x2 x3 x4 M hf; rw [fX8_whereIs_L107] at hf; cases hf
  | succ n ih =>
    intro x1 x2 x3 x4 M hf
    rw [fX8_whereIs_L107] at hf
    refine rr_iload hG dX8_whereIs_107 4 rfl ?_
    refine rr_iload_n hG dX8_whereIs_109 2 rfl rfl ?_
    refine rr_icmp_gt hG (tgt := 231) dX8_whereIs_110 (by decide) hf (fun c24 hf => ?_) (fun c24 hf => ?_)
    · refine rr_iconst hG (v := 0) dX8_whereIs_231 (by decide) ?_
      refine rr_istore hG (lv2 := [(4, .int (0 : Int32)), (0, .ref (ph 79)), (1, .int x1), (2, .int x2), (3, .int x3)]) dX8_whereIs_232 (by decide) rfl ?_
      exact rr_sub (lv2 := [(0, .ref (ph 79)), (1, .int x1), (2, .int x2), (3, .int x3), (4, .int (0 : Int32))]) [1, 2, 3, 4, 0] rfl (wX8_whereIs_L234 hG hR _ (hq69) _ _ _ _ _ _ hf)
    · refine rr_iconst hG (v := 0) dX8_whereIs_113 (by decide) ?_
      refine rr_istore hG (lv2 := [(5, .int (0 : Int32)), (0, .ref (ph 79)), (1, .int x1), (2, .int x2), (3, .int x3), (4, .int x4)]) dX8_whereIs_114 (by decide) rfl ?_
      exact rr_sub (lv2 := [(0, .ref (ph 79)), (1, .int x1), (2, .int x2), (3, .int x3), (4, .int x4), (5, .int (0 : Int32))]) [1, 2, 3, 4, 5, 0] rfl (wX8_whereIs_L116 hG hR _ _ (hq69) (ih) _ _ _ _ _ _ _ hf)
set_option maxHeartbeats 4000000 in
set_option maxRecDepth 100000 in
theorem wX8_whereIs_L83 {G : rm_G} {ph : Nat → Nat} {rho : Int32 × rm_M}  (hG : rm_k G 96 ph cX8_whereIs RX8 wsX8_whereIs 7 3 73) (hR : rm_rI G 96 ph .int rho)  (q69 : Int32 → Int32 → Int32 → rm_M → Option (Int32 × rm_M)) (hq69 : ∀ (x1 : Int32) (x2 : Int32) (x3 : Int32) (M : rm_M), q69 x1 x2 x3 M = some rho → rm_L G 96 ph 7 69 [(0, .ref (ph 79)), (1, .int x1), (2, .int x2), (3, .int x3)] [] M) : ∀ (n : Nat) (x1 : Int32) (x2 : Int32) (x3 : Int32) (x4 : Int32) (M : rm_M), fX8_whereIs_L83 q69 n x1 x2 x3 x4 M = some rho → rm_L G 96 ph 7 83 [(0, .ref (ph 79)), (1, .int x1), (2, .int x2), (3, .int x3), (4, .int x4)] [] M := by
  intro n
  induction n with
  | zero => intro x1 x2 x3 x4 M hf; rw [fX8_whereIs_L83] at hf; cases hf
  | succ n ih =>
    intro x1 x2 x3 x4 M hf
    rw [fX8_whereIs_L83] at hf
    refine rr_iload hG dX8_whereIs_83 4 rfl ?_
    refine rr_bipush hG (v := 10) dX8_whereIs_85 (by decide) ?_
    refine rr_icmp_ge hG (tgt := 104) dX8_whereIs_87 (by decide) hf (fun c25 hf => ?_) (fun c25 hf => ?_)
    · refine rr_iconst hG (v := 0) dX8_whereIs_104 (by decide) ?_
      refine rr_istore hG (lv2 := [(4, .int (0 : Int32)), (0, .ref (ph 79)), (1, .int x1), (2, .int x2), (3, .int x3)]) dX8_whereIs_105 (by decide) rfl ?_
      exact rr_sub (lv2 := [(0, .ref (ph 79)), (1, .int x1), (2, .int x2), (3, .int x3), (4, .int (0 : Int32))]) [1, 2, 3, 4, 0] rfl (wX8_whereIs_L107 hG hR _ (hq69) _ _ _ _ _ _ hf)
    · refine rr_aload_n hG dX8_whereIs_90 0 rfl rfl ?_
      refine rr_get hG 8 17 (v := .ref (ph 89)) dX8_whereIs_91 ⟨rfl, by decide⟩ (by decide) rfl tX8_whereIs_X8 (by decide) kX8_whereIs_37 rfl rfl ?_
      refine rr_iload hG dX8_whereIs_94 4 rfl ?_
      refine rr_iconst hG (v := 0) dX8_whereIs_96 (by decide) ?_
      refine rr_iast hG dX8_whereIs_97 ⟨rfl, by decide⟩ hf (fun b26 hf => ?_)
      refine rr_bindM hf (fun M27 eM27 hf => ?_)
      refine rr_iinc hG (v := x4 + (1 : Int32)) (lv2 := [(4, .int (x4 + (1 : Int32))), (0, .ref (ph 79)), (1, .int x1), (2, .int x2), (3, .int x3)]) (k := 4) dX8_whereIs_98 rfl rfl (by decide) rfl ?_
      refine rr_goto hG (tgt := 83) dX8_whereIs_101 (by decide) ?_
      exact rr_sub (lv2 := [(0, .ref (ph 79)), (1, .int x1), (2, .int x2), (3, .int x3), (4, .int (x4 + (1 : Int32)))]) [1, 2, 3, 4, 0] rfl (ih _ _ _ _ _ hf)
set_option maxHeartbeats 4000000 in
set_option maxRecDepth 100000 in
theorem wX8_whereIs_L272 {G : rm_G} {ph : Nat → Nat} {rho : Int32 × rm_M}  (hG : rm_k G 96 ph cX8_whereIs RX8 wsX8_whereIs 7 3 73) (hR : rm_rI G 96 ph .int rho)    : ∀ (n : Nat) (x2 : Int32) (x3 : Int32) (x4 : Int32) (M : rm_M), fX8_whereIs_L272 n x2 x3 x4 M = some rho → rm_L G 96 ph 7 272 [(0, .ref (ph 79)), (2, .int x2), (3, .int x3), (4, .int x4)] [] M := by
  intro n
  induction n with
  | zero => intro x2 x3 x4 M hf; rw [fX8_whereIs_L272] at hf; cases hf
  | succ n ih =>
    intro x2 x3 x4 M hf
    rw [fX8_whereIs_L272] at hf
    refine rr_iload hG dX8_whereIs_272 3 rfl ?_
    refine rr_iload_n hG dX8_whereIs_274 1 rfl rfl ?_
    refine rr_icmp_gt hG (tgt := 294) dX8_whereIs_275 (by decide) hf (fun c28 hf => ?_) (fun c28 hf => ?_)
    · refine rr_iload_n hG dX8_whereIs_294 2 rfl rfl ?_
      exact rr_iret hG hR dX8_whereIs_295 hf
    · refine rr_iload_n hG dX8_whereIs_278 2 rfl rfl ?_
      refine rr_aload_n hG dX8_whereIs_279 0 rfl rfl ?_
      refine rr_get hG 8 16 (v := .ref (ph 88)) dX8_whereIs_280 ⟨rfl, by decide⟩ (by decide) rfl tX8_whereIs_X8 (by decide) kX8_whereIs_34 rfl rfl ?_
      refine rr_iload hG dX8_whereIs_283 3 rfl ?_
      refine rr_iald hG dX8_whereIs_285 ⟨rfl, by decide⟩ hf (fun b29 hf => ?_)
      refine rr_ior hG dX8_whereIs_286 ?_
      refine rr_bindI hf (fun v30 ev30 hf => ?_)
      refine rr_istore_n hG (lv2 := [(3, .int v30), (0, .ref (ph 79)), (2, .int x2), (4, .int x4)]) dX8_whereIs_287 rfl (by decide) rfl ?_
      refine rr_iinc hG (v := x4 + (1 : Int32)) (lv2 := [(4, .int (x4 + (1 : Int32))), (3, .int v30), (0, .ref (ph 79)), (2, .int x2)]) (k := 3) dX8_whereIs_288 rfl rfl (by decide) rfl ?_
      refine rr_goto hG (tgt := 272) dX8_whereIs_291 (by decide) ?_
      exact rr_sub (lv2 := [(0, .ref (ph 79)), (2, .int x2), (3, .int v30), (4, .int (x4 + (1 : Int32)))]) [2, 3, 1, 0] rfl (ih _ _ _ _ hf)
set_option maxHeartbeats 4000000 in
set_option maxRecDepth 100000 in
theorem wX8_whereIs_L69 {G : rm_G} {ph : Nat → Nat} {rho : Int32 × rm_M}  (hG : rm_k G 96 ph cX8_whereIs RX8 wsX8_whereIs 7 3 73) (hR : rm_rI G 96 ph .int rho)    : ∀ (n : Nat) (x1 : Int32) (x2 : Int32) (x3 : Int32) (M : rm_M), fX8_whereIs_L69 n x1 x2 x3 M = some rho → rm_L G 96 ph 7 69 [(0, .ref (ph 79)), (1, .int x1), (2, .int x2), (3, .int x3)] [] M := by
  intro n
  induction n with
  | zero => intro x1 x2 x3 M hf; rw [fX8_whereIs_L69] at hf; cases hf
  | succ n ih =>
    intro x1 x2 x3 M hf
    rw [fX8_whereIs_L69] at hf
    refine rr_iload_n hG dX8_whereIs_69 3 rfl rfl ?_
    refine rr_aload_n hG dX8_whereIs_70 0 rfl rfl ?_
    refine rr_get hG 8 6 (v := .ref (ph 83)) dX8_whereIs_71 ⟨rfl, by decide⟩ (by decide) rfl tX8_whereIs_X8 (by decide) kX8_whereIs_19 rfl rfl ?_
    refine rr_bipush hG (v := 17) dX8_whereIs_74 (by decide) ?_
    refine rr_iald hG dX8_whereIs_76 ⟨rfl, by decide⟩ hf (fun b31 hf => ?_)
    refine rr_icmp_ge hG (tgt := 267) dX8_whereIs_77 (by decide) hf (fun c32 hf => ?_) (fun c32 hf => ?_)
    · refine rr_iconst hG (v := 0) dX8_whereIs_267 (by decide) ?_
      refine rr_istore_n hG (lv2 := [(3, .int (0 : Int32)), (0, .ref (ph 79)), (1, .int x1), (2, .int x2)]) dX8_whereIs_268 rfl (by decide) rfl ?_
      refine rr_iconst hG (v := 0) dX8_whereIs_269 (by decide) ?_
      refine rr_istore hG (lv2 := [(4, .int (0 : Int32)), (3, .int (0 : Int32)), (0, .ref (ph 79)), (1, .int x1), (2, .int x2)]) dX8_whereIs_270 (by decide) rfl ?_
      exact rr_sub (lv2 := [(0, .ref (ph 79)), (2, .int x2), (3, .int (0 : Int32)), (4, .int (0 : Int32))]) [2, 4, 1, 0] rfl (wX8_whereIs_L272 hG hR _ _ _ _ _ hf)
    · refine rr_iconst hG (v := 0) dX8_whereIs_80 (by decide) ?_
      refine rr_istore hG (lv2 := [(4, .int (0 : Int32)), (0, .ref (ph 79)), (1, .int x1), (2, .int x2), (3, .int x3)]) dX8_whereIs_81 (by decide) rfl ?_
      exact rr_sub (lv2 := [(0, .ref (ph 79)), (1, .int x1), (2, .int x2), (3, .int x3), (4, .int (0 : Int32))]) [1, 2, 3, 4, 0] rfl (wX8_whereIs_L83 hG hR _ (ih) _ _ _ _ _ _ hf)
set_option maxHeartbeats 4000000 in
set_option maxRecDepth 100000 in
theorem wX8_whereIs_L32 {G : rm_G} {ph : Nat → Nat} {rho : Int32 × rm_M}  (hG : rm_k G 96 ph cX8_whereIs RX8 wsX8_whereIs 7 3 73) (hR : rm_rI G 96 ph .int rho)    : ∀ (n : Nat) (x1 : Int32) (x2 : Int32) (x3 : Int32) (M : rm_M), fX8_whereIs_L32 n x1 x2 x3 M = some rho → rm_L G 96 ph 7 32 [(0, .ref (ph 79)), (1, .int x1), (2, .int x2), (3, .int x3)] [] M := by
  intro n
  induction n with
  | zero => intro x1 x2 x3 M hf; rw [fX8_whereIs_L32] at hf; cases hf
  | succ n ih =>
    intro x1 x2 x3 M hf
    rw [fX8_whereIs_L32] at hf
    refine rr_iload_n hG dX8_whereIs_32 3 rfl rfl ?_
    refine rr_bipush hG (v := 10) dX8_whereIs_33 (by decide) ?_
    refine rr_icmp_ge hG (tgt := 67) dX8_whereIs_35 (by decide) hf (fun c33 hf => ?_) (fun c33 hf => ?_)
    · refine rr_iconst hG (v := 0) dX8_whereIs_67 (by decide) ?_
      refine rr_istore_n hG (lv2 := [(3, .int (0 : Int32)), (0, .ref (ph 79)), (1, .int x1), (2, .int x2)]) dX8_whereIs_68 rfl (by decide) rfl ?_
      exact rr_sub (lv2 := [(0, .ref (ph 79)), (1, .int x1), (2, .int x2), (3, .int (0 : Int32))]) [1, 2, 3, 0] rfl (wX8_whereIs_L69 hG hR _ _ _ _ _ hf)
    · refine rr_aload_n hG dX8_whereIs_38 0 rfl rfl ?_
      refine rr_get hG 8 16 (v := .ref (ph 88)) dX8_whereIs_39 ⟨rfl, by decide⟩ (by decide) rfl tX8_whereIs_X8 (by decide) kX8_whereIs_34 rfl rfl ?_
      refine rr_iload_n hG dX8_whereIs_42 3 rfl rfl ?_
      refine rr_iload_n hG dX8_whereIs_43 3 rfl rfl ?_
      refine rr_if_ne hG (tgt := 59) dX8_whereIs_44 (by decide) hf (fun c34 hf => ?_) (fun c34 hf => ?_)
      · refine rr_iconst hG (v := 0) dX8_whereIs_59 (by decide) ?_
        exact rr_sub (lv2 := [(0, .ref (ph 79)), (1, .int x1), (2, .int x2), (3, .int x3)]) [0, 1, 2, 3] rfl (wX8_whereIs_L60 hG hR _ (ih) _ _ _ _ _ _ hf)
      · refine rr_iconst hG (v := 1) dX8_whereIs_47 (by decide) ?_
        refine rr_aload_n hG dX8_whereIs_48 0 rfl rfl ?_
        refine rr_get hG 8 6 (v := .ref (ph 83)) dX8_whereIs_49 ⟨rfl, by decide⟩ (by decide) rfl tX8_whereIs_X8 (by decide) kX8_whereIs_19 rfl rfl ?_
        refine rr_bipush hG (v := 15) dX8_whereIs_52 (by decide) ?_
        refine rr_iald hG dX8_whereIs_54 ⟨rfl, by decide⟩ hf (fun b35 hf => ?_)
        refine rr_ishl hG dX8_whereIs_55 ?_
        refine rr_goto hG (tgt := 60) dX8_whereIs_56 (by decide) ?_
        exact rr_sub (lv2 := [(0, .ref (ph 79)), (1, .int x1), (2, .int x2), (3, .int x3)]) [0, 1, 2, 3] rfl (wX8_whereIs_L60 hG hR _ (ih) _ _ _ _ _ _ hf)
set_option maxHeartbeats 4000000 in
set_option maxRecDepth 100000 in
theorem wX8_whereIs_L29 {G : rm_G} {ph : Nat → Nat} {rho : Int32 × rm_M}  (hG : rm_k G 96 ph cX8_whereIs RX8 wsX8_whereIs 7 3 73) (hR : rm_rI G 96 ph .int rho)    : ∀ (x1 : Int32) (s0 : Int32) (M : rm_M), fX8_whereIs_L29 x1 s0 M = some rho → rm_L G 96 ph 7 29 [(0, .ref (ph 79)), (1, .int x1)] [.int s0] M := by
  intro x1 s0 M hf
  unfold fX8_whereIs_L29 at hf
  refine rr_istore_n hG (lv2 := [(2, .int s0), (0, .ref (ph 79)), (1, .int x1)]) dX8_whereIs_29 rfl (by decide) rfl ?_
  refine rr_iconst hG (v := 0) dX8_whereIs_30 (by decide) ?_
  refine rr_istore_n hG (lv2 := [(3, .int (0 : Int32)), (2, .int s0), (0, .ref (ph 79)), (1, .int x1)]) dX8_whereIs_31 rfl (by decide) rfl ?_
  exact rr_sub (lv2 := [(0, .ref (ph 79)), (1, .int x1), (2, .int s0), (3, .int (0 : Int32))]) [2, 3, 1, 0] rfl (wX8_whereIs_L32 hG hR _ _ _ _ _ hf)
set_option maxHeartbeats 4000000 in
set_option maxRecDepth 100000 in
theorem mX8_whereIs (ph : Nat → Nat)  (M : rm_M) (rho : Int32 × rm_M)  (hf : fX8_whereIs M = some rho) : rm_CI yX8_whereIs wsX8_whereIs 3 73 [.ref (ph 79)] 96 ph M rho := by
  refine rm_metI (cc := cX8_whereIs) (maxL := 7) (by decide +kernel) rfl rfl (Nat.le_of_ble_eq_true rfl) rfl (fun G hG hR => ?_)
  unfold fX8_whereIs at hf
  refine rr_aload_n hG dX8_whereIs_0 0 rfl rfl ?_
  refine rr_cVI hG (st := []) (n := 0) (ci := 8) (rf := 2) (rl := 49) [] dX8_whereIs_1 hf ⟨rfl, by decide⟩ (by decide) rfl gX8_whereIs_X8_allowed rfl (by decide +kernel) rfl ⟨by decide, by decide⟩ rfl (Nat.le_of_ble_eq_true rfl) (fun r9 M9 h9 => mX8_allowed ph _ _ h9) (fun r37 M38 h36 hf => ?_)
  refine rr_istore_n hG (lv2 := [(1, .int r37), (0, .ref (ph 79))]) dX8_whereIs_4 rfl (by decide) rfl ?_
  refine rr_aload_n hG dX8_whereIs_5 1 rfl rfl ?_
  refine rr_get hG 8 6 (v := .ref (ph 83)) dX8_whereIs_6 ⟨rfl, by decide⟩ (by decide) rfl tX8_whereIs_X8 (by decide) kX8_whereIs_19 rfl rfl ?_
  refine rr_bipush hG (v := 12) dX8_whereIs_9 (by decide) ?_
  refine rr_iald hG dX8_whereIs_11 ⟨rfl, by decide⟩ hf (fun b39 hf => ?_)
  refine rr_iconst hG (v := 1) dX8_whereIs_12 (by decide) ?_
  refine rr_icmp_ne hG (tgt := 28) dX8_whereIs_13 (by decide) hf (fun c40 hf => ?_) (fun c40 hf => ?_)
  · refine rr_iconst hG (v := 0) dX8_whereIs_28 (by decide) ?_
    exact rr_sub (lv2 := [(0, .ref (ph 79)), (1, .int r37)]) [1, 0] rfl (wX8_whereIs_L29 hG hR _ _ _ hf)
  · refine rr_aload_n hG dX8_whereIs_16 1 rfl rfl ?_
    refine rr_get hG 8 6 (v := .ref (ph 83)) dX8_whereIs_17 ⟨rfl, by decide⟩ (by decide) rfl tX8_whereIs_X8 (by decide) kX8_whereIs_19 rfl rfl ?_
    refine rr_bipush hG (v := 13) dX8_whereIs_20 (by decide) ?_
    refine rr_iald hG dX8_whereIs_22 ⟨rfl, by decide⟩ hf (fun b41 hf => ?_)
    refine rr_iconst hG (v := 1) dX8_whereIs_23 (by decide) ?_
    refine rr_isub hG dX8_whereIs_24 ?_
    refine rr_goto hG (tgt := 29) dX8_whereIs_25 (by decide) ?_
    exact rr_sub (lv2 := [(0, .ref (ph 79)), (1, .int r37)]) [1, 0] rfl (wX8_whereIs_L29 hG hR _ _ _ hf)
/-! X8.where -/
set_option maxHeartbeats 4000000 in
set_option maxRecDepth 100000 in
theorem mX8_where (ph : Nat → Nat)  (M : rm_M) (rho : Int32 × rm_M)  (hf : fX8_where M = some rho) : rm_CI yX8_where wsX8_where 4 99 [.ref (ph 79)] 96 ph M rho := by
  refine rm_metI (cc := cX8_where) (maxL := 1) (by decide +kernel) rfl rfl (Nat.le_of_ble_eq_true rfl) rfl (fun G hG hR => ?_)
  unfold fX8_where at hf
  refine rr_aload_n hG dX8_where_0 0 rfl rfl ?_
  refine rr_cVI hG (st := []) (n := 0) (ci := 8) (rf := 3) (rl := 73) [] dX8_where_1 hf ⟨rfl, by decide⟩ (by decide) rfl gX8_where_X8_whereIs rfl (by decide +kernel) rfl ⟨by decide, by decide⟩ rfl (Nat.le_of_ble_eq_true rfl) (fun r9 M9 h9 => mX8_whereIs ph _ _ h9) (fun r2 M3 h1 hf => ?_)
  exact rr_iret hG hR dX8_where_4 hf
/-! X8.determinant -/
theorem tX8_determinant_X8 : ∀ w ∈ u_ws RX8 TX8 26, w ∈ wsX8_determinant := by decide +kernel
theorem kX8_determinant_44 : Cond.fieldLink RX8 44 "RingPagesModel" "table" "[J" ∈ wsX8_determinant := by decide +kernel
set_option maxHeartbeats 4000000 in
set_option maxRecDepth 100000 in
theorem wX8_determinant_L31 {G : rm_G} {ph : Nat → Nat} {rho : Int64 × rm_M} (a1 : Int32) (hG : rm_k G 96 ph cX8_determinant RX8 wsX8_determinant 7 0 0) (hR : rm_rJ G 96 ph rho)  (q5 : Int64 → Int32 → rm_M → Option (Int64 × rm_M)) (q19 : Int64 → Int32 → Int32 → rm_M → Option (Int64 × rm_M)) (hq5 : ∀ (x2 : Int64) (x4 : Int32) (M : rm_M), q5 x2 x4 M = some rho → rm_L G 96 ph 7 5 [(0, .ref (ph 79)), (1, .int a1), (2, .long x2), (4, .int x4)] [] M) (hq19 : ∀ (x2 : Int64) (x4 : Int32) (x5 : Int32) (M : rm_M), q19 x2 x4 x5 M = some rho → rm_L G 96 ph 7 19 [(0, .ref (ph 79)), (1, .int a1), (2, .long x2), (4, .int x4), (5, .int x5)] [] M) : ∀ (n : Nat) (x2 : Int64) (x4 : Int32) (x5 : Int32) (x6 : Int32) (M : rm_M), fX8_determinant_L31 a1 q5 q19 n x2 x4 x5 x6 M = some rho → rm_L G 96 ph 7 31 [(0, .ref (ph 79)), (1, .int a1), (2, .long x2), (4, .int x4), (5, .int x5), (6, .int x6)] [] M := by
  intro n
  induction n with
  | zero => intro x2 x4 x5 x6 M hf; rw [fX8_determinant_L31] at hf; cases hf
  | succ n ih =>
    intro x2 x4 x5 x6 M hf
    rw [fX8_determinant_L31] at hf
    refine rr_iload hG dX8_determinant_31 5 rfl ?_
    refine rr_iload_n hG dX8_determinant_33 1 rfl rfl ?_
    refine rr_icmp_ge hG (tgt := 108) dX8_determinant_34 (by decide) hf (fun c1 hf => ?_) (fun c1 hf => ?_)
    · refine rr_iinc hG (v := x5 + (1 : Int32)) (lv2 := [(5, .int (x5 + (1 : Int32))), (0, .ref (ph 79)), (1, .int a1), (2, .long x2), (4, .int x4), (6, .int x6)]) (k := 4) dX8_determinant_108 rfl rfl (by decide) rfl ?_
      refine rr_goto hG (tgt := 19) dX8_determinant_111 (by decide) ?_
      exact rr_sub (lv2 := [(0, .ref (ph 79)), (1, .int a1), (2, .long x2), (4, .int x4), (5, .int (x5 + (1 : Int32)))]) [1, 2, 3, 4, 0] rfl (hq19 _ _ _ _ hf)
    · refine rr_aload_n hG dX8_determinant_37 0 rfl rfl ?_
      refine rr_get hG 8 19 (v := .ref (ph 91)) dX8_determinant_38 ⟨rfl, by decide⟩ (by decide) rfl tX8_determinant_X8 (by decide) kX8_determinant_44 rfl rfl ?_
      refine rr_iconst hG (v := 5) dX8_determinant_41 (by decide) ?_
      refine rr_iload hG dX8_determinant_42 4 rfl ?_
      refine rr_imul hG dX8_determinant_44 ?_
      refine rr_iload hG dX8_determinant_45 5 rfl ?_
      refine rr_iadd hG dX8_determinant_47 ?_
      refine rr_aload_n hG dX8_determinant_48 0 rfl rfl ?_
      refine rr_get hG 8 19 (v := .ref (ph 91)) dX8_determinant_49 ⟨rfl, by decide⟩ (by decide) rfl tX8_determinant_X8 (by decide) kX8_determinant_44 rfl rfl ?_
      refine rr_iconst hG (v := 5) dX8_determinant_52 (by decide) ?_
      refine rr_iload hG dX8_determinant_53 4 rfl ?_
      refine rr_imul hG dX8_determinant_55 ?_
      refine rr_iload hG dX8_determinant_56 5 rfl ?_
      refine rr_iadd hG dX8_determinant_58 ?_
      refine rr_lald hG dX8_determinant_59 ⟨rfl, by decide⟩ hf (fun b2 hf => ?_)
      refine rr_aload_n hG dX8_determinant_60 0 rfl rfl ?_
      refine rr_get hG 8 19 (v := .ref (ph 91)) dX8_determinant_61 ⟨rfl, by decide⟩ (by decide) rfl tX8_determinant_X8 (by decide) kX8_determinant_44 rfl rfl ?_
      refine rr_iconst hG (v := 5) dX8_determinant_64 (by decide) ?_
      refine rr_iload hG dX8_determinant_65 3 rfl ?_
      refine rr_imul hG dX8_determinant_67 ?_
      refine rr_iload hG dX8_determinant_68 3 rfl ?_
      refine rr_iadd hG dX8_determinant_70 ?_
      refine rr_lald hG dX8_determinant_71 ⟨rfl, by decide⟩ hf (fun b3 hf => ?_)
      refine rr_lmul hG dX8_determinant_72 ?_
      refine rr_aload_n hG dX8_determinant_73 0 rfl rfl ?_
      refine rr_get hG 8 19 (v := .ref (ph 91)) dX8_determinant_74 ⟨rfl, by decide⟩ (by decide) rfl tX8_determinant_X8 (by decide) kX8_determinant_44 rfl rfl ?_
      refine rr_iconst hG (v := 5) dX8_determinant_77 (by decide) ?_
      refine rr_iload hG dX8_determinant_78 4 rfl ?_
      refine rr_imul hG dX8_determinant_80 ?_
      refine rr_iload hG dX8_determinant_81 3 rfl ?_
      refine rr_iadd hG dX8_determinant_83 ?_
      refine rr_lald hG dX8_determinant_84 ⟨rfl, by decide⟩ hf (fun b4 hf => ?_)
      refine rr_aload_n hG dX8_determinant_85 0 rfl rfl ?_
      refine rr_get hG 8 19 (v := .ref (ph 91)) dX8_determinant_86 ⟨rfl, by decide⟩ (by decide) rfl tX8_determinant_X8 (by decide) kX8_determinant_44 rfl rfl ?_
      refine rr_iconst hG (v := 5) dX8_determinant_89 (by decide) ?_
      refine rr_iload hG dX8_determinant_90 3 rfl ?_
      refine rr_imul hG dX8_determinant_92 ?_
      refine rr_iload hG dX8_determinant_93 5 rfl ?_
      refine rr_iadd hG dX8_determinant_95 ?_
      refine rr_lald hG dX8_determinant_96 ⟨rfl, by decide⟩ hf (fun b5 hf => ?_)
      refine rr_lmul hG dX8_determinant_97 ?_
      refine rr_lsub hG dX8_determinant_98 ?_
      refine rr_lload_n hG dX8_determinant_99 2 rfl rfl ?_
      refine rr_ldiv hG dX8_determinant_100 hf (fun hf => ?_)
      refine rr_last hG dX8_determinant_101 ⟨rfl, by decide⟩ hf (fun b6 hf => ?_)
      refine rr_bindM hf (fun M7 eM7 hf => ?_)
      refine rr_iinc hG (v := x6 + (1 : Int32)) (lv2 := [(6, .int (x6 + (1 : Int32))), (0, .ref (ph 79)), (1, .int a1), (2, .long x2), (4, .int x4), (5, .int x5)]) (k := 5) dX8_determinant_102 rfl rfl (by decide) rfl ?_
      refine rr_goto hG (tgt := 31) dX8_determinant_105 (by decide) ?_
      exact rr_sub (lv2 := [(0, .ref (ph 79)), (1, .int a1), (2, .long x2), (4, .int x4), (5, .int x5), (6, .int (x6 + (1 : Int32)))]) [1, 2, 3, 4, 5, 0] rfl (ih _ _ _ _ _ hf)
set_option maxHeartbeats 4000000 in
set_option maxRecDepth 100000 in
theorem wX8_determinant_L19 {G : rm_G} {ph : Nat → Nat} {rho : Int64 × rm_M} (a1 : Int32) (hG : rm_k G 96 ph cX8_determinant RX8 wsX8_determinant 7 0 0) (hR : rm_rJ G 96 ph rho)  (q5 : Int64 → Int32 → rm_M → Option (Int64 × rm_M)) (hq5 : ∀ (x2 : Int64) (x4 : Int32) (M : rm_M), q5 x2 x4 M = some rho → rm_L G 96 ph 7 5 [(0, .ref (ph 79)), (1, .int a1), (2, .long x2), (4, .int x4)] [] M) : ∀ (n : Nat) (x2 : Int64) (x4 : Int32) (x5 : Int32) (M : rm_M), fX8_determinant_L19 a1 q5 n x2 x4 x5 M = some rho → rm_L G 96 ph 7 19 [(0, .ref (ph 79)), (1, .int a1), (2, .long x2), (4, .int x4), (5, .int x5)] [] M := by
  intro n
  induction n with
  | zero => intro x2 x4 x5 M hf; rw [fX8_determinant_L19] at hf; cases hf
  | succ n ih =>
    intro x2 x4 x5 M hf
    rw [fX8_determinant_L19] at hf
    refine rr_iload hG dX8_determinant_19 4 rfl ?_
    refine rr_iload_n hG dX8_determinant_21 1 rfl rfl ?_
    refine rr_icmp_ge hG (tgt := 114) dX8_determinant_22 (by decide) hf (fun c8 hf => ?_) (fun c8 hf => ?_)
    · refine rr_aload_n hG dX8_determinant_114 0 rfl rfl ?_
      refine rr_get hG 8 19 (v := .ref (ph 91)) dX8_determinant_115 ⟨rfl, by decide⟩ (by decide) rfl tX8_determinant_X8 (by decide) kX8_determinant_44 rfl rfl ?_
      refine rr_iconst hG (v := 5) dX8_determinant_118 (by decide) ?_
      refine rr_iload hG dX8_determinant_119 3 rfl ?_
      refine rr_imul hG dX8_determinant_121 ?_
      refine rr_iload hG dX8_determinant_122 3 rfl ?_
      refine rr_iadd hG dX8_determinant_124 ?_
      refine rr_lald hG dX8_determinant_125 ⟨rfl, by decide⟩ hf (fun b9 hf => ?_)
      refine rr_bindJ hf (fun v10 ev10 hf => ?_)
      refine rr_lstore_n hG (lv2 := [(2, .long v10), (0, .ref (ph 79)), (1, .int a1), (4, .int x4), (5, .int x5)]) dX8_determinant_126 rfl (by decide) rfl ?_
      refine rr_iinc hG (v := x4 + (1 : Int32)) (lv2 := [(4, .int (x4 + (1 : Int32))), (2, .long v10), (0, .ref (ph 79)), (1, .int a1), (5, .int x5)]) (k := 3) dX8_determinant_127 rfl rfl (by decide) rfl ?_
      refine rr_goto hG (tgt := 5) dX8_determinant_130 (by decide) ?_
      exact rr_sub (lv2 := [(0, .ref (ph 79)), (1, .int a1), (2, .long v10), (4, .int (x4 + (1 : Int32)))]) [2, 3, 1, 0] rfl (hq5 _ _ _ hf)
    · refine rr_iload hG dX8_determinant_25 3 rfl ?_
      refine rr_iconst hG (v := 1) dX8_determinant_27 (by decide) ?_
      refine rr_iadd hG dX8_determinant_28 ?_
      refine rr_bindI hf (fun v11 ev11 hf => ?_)
      refine rr_istore hG (lv2 := [(6, .int v11), (0, .ref (ph 79)), (1, .int a1), (2, .long x2), (4, .int x4), (5, .int x5)]) dX8_determinant_29 (by decide) rfl ?_
      exact rr_sub (lv2 := [(0, .ref (ph 79)), (1, .int a1), (2, .long x2), (4, .int x4), (5, .int x5), (6, .int v11)]) [1, 2, 3, 4, 5, 0] rfl (wX8_determinant_L31 _ hG hR _ _ (hq5) (ih) _ _ _ _ _ _ hf)
set_option maxHeartbeats 4000000 in
set_option maxRecDepth 100000 in
theorem wX8_determinant_L5 {G : rm_G} {ph : Nat → Nat} {rho : Int64 × rm_M} (a1 : Int32) (hG : rm_k G 96 ph cX8_determinant RX8 wsX8_determinant 7 0 0) (hR : rm_rJ G 96 ph rho)    : ∀ (n : Nat) (x2 : Int64) (x4 : Int32) (M : rm_M), fX8_determinant_L5 a1 n x2 x4 M = some rho → rm_L G 96 ph 7 5 [(0, .ref (ph 79)), (1, .int a1), (2, .long x2), (4, .int x4)] [] M := by
  intro n
  induction n with
  | zero => intro x2 x4 M hf; rw [fX8_determinant_L5] at hf; cases hf
  | succ n ih =>
    intro x2 x4 M hf
    rw [fX8_determinant_L5] at hf
    refine rr_iload hG dX8_determinant_5 3 rfl ?_
    refine rr_iconst hG (v := 1) dX8_determinant_7 (by decide) ?_
    refine rr_iadd hG dX8_determinant_8 ?_
    refine rr_iload_n hG dX8_determinant_9 1 rfl rfl ?_
    refine rr_icmp_ge hG (tgt := 133) dX8_determinant_10 (by decide) hf (fun c12 hf => ?_) (fun c12 hf => ?_)
    · refine rr_aload_n hG dX8_determinant_133 0 rfl rfl ?_
      refine rr_get hG 8 19 (v := .ref (ph 91)) dX8_determinant_134 ⟨rfl, by decide⟩ (by decide) rfl tX8_determinant_X8 (by decide) kX8_determinant_44 rfl rfl ?_
      refine rr_iconst hG (v := 5) dX8_determinant_137 (by decide) ?_
      refine rr_iload_n hG dX8_determinant_138 1 rfl rfl ?_
      refine rr_iconst hG (v := 1) dX8_determinant_139 (by decide) ?_
      refine rr_isub hG dX8_determinant_140 ?_
      refine rr_imul hG dX8_determinant_141 ?_
      refine rr_iload_n hG dX8_determinant_142 1 rfl rfl ?_
      refine rr_iadd hG dX8_determinant_143 ?_
      refine rr_iconst hG (v := 1) dX8_determinant_144 (by decide) ?_
      refine rr_isub hG dX8_determinant_145 ?_
      refine rr_lald hG dX8_determinant_146 ⟨rfl, by decide⟩ hf (fun b13 hf => ?_)
      exact rr_lret hG hR dX8_determinant_147 hf
    · refine rr_iload hG dX8_determinant_13 3 rfl ?_
      refine rr_iconst hG (v := 1) dX8_determinant_15 (by decide) ?_
      refine rr_iadd hG dX8_determinant_16 ?_
      refine rr_bindI hf (fun v14 ev14 hf => ?_)
      refine rr_istore hG (lv2 := [(5, .int v14), (0, .ref (ph 79)), (1, .int a1), (2, .long x2), (4, .int x4)]) dX8_determinant_17 (by decide) rfl ?_
      exact rr_sub (lv2 := [(0, .ref (ph 79)), (1, .int a1), (2, .long x2), (4, .int x4), (5, .int v14)]) [1, 2, 3, 4, 0] rfl (wX8_determinant_L19 _ hG hR _ (ih) _ _ _ _ _ hf)
set_option maxHeartbeats 4000000 in
set_option maxRecDepth 100000 in
theorem mX8_determinant (ph : Nat → Nat) (a1 : Int32) (M : rm_M) (rho : Int64 × rm_M)  (hf : fX8_determinant a1 M = some rho) : rm_CJ yX8_determinant wsX8_determinant 0 0 [.ref (ph 79), .int a1] 96 ph M rho := by
  refine rm_metJ (cc := cX8_determinant) (maxL := 7) (by decide +kernel) rfl rfl (Nat.le_of_ble_eq_true rfl) rfl (fun G hG hR => ?_)
  unfold fX8_determinant at hf
  refine rr_lconst hG (v := 1) dX8_determinant_0 (by decide) ?_
  refine rr_lstore_n hG (lv2 := [(2, .long (1 : Int64)), (0, .ref (ph 79)), (1, .int a1)]) dX8_determinant_1 rfl (by decide) rfl ?_
  refine rr_iconst hG (v := 0) dX8_determinant_2 (by decide) ?_
  refine rr_istore hG (lv2 := [(4, .int (0 : Int32)), (2, .long (1 : Int64)), (0, .ref (ph 79)), (1, .int a1)]) dX8_determinant_3 (by decide) rfl ?_
  exact rr_sub (lv2 := [(0, .ref (ph 79)), (1, .int a1), (2, .long (1 : Int64)), (4, .int (0 : Int32))]) [2, 3, 1, 0] rfl (wX8_determinant_L5 _ hG hR _ _ _ _ hf)
/-! X8.grows -/
theorem tX8_grows_X8 : ∀ w ∈ u_ws RX8 TX8 26, w ∈ wsX8_grows := by decide +kernel
theorem kX8_grows_76 : Cond.fieldLink RX8 76 "RingPagesModel" "cells" "I" ∈ wsX8_grows := by decide +kernel
theorem kX8_grows_44 : Cond.fieldLink RX8 44 "RingPagesModel" "table" "[J" ∈ wsX8_grows := by decide +kernel
theorem kX8_grows_13 : Cond.fieldLink RX8 13 "RingPagesModel" "weight" "[I" ∈ wsX8_grows := by decide +kernel
theorem kX8_grows_40 : Cond.fieldLink RX8 40 "RingPagesModel" "trees" "[J" ∈ wsX8_grows := by decide +kernel
set_option maxHeartbeats 4000000 in
set_option maxRecDepth 100000 in
theorem wX8_grows_L91 {G : rm_G} {ph : Nat → Nat} {rho : rm_M}  (hG : rm_k G 96 ph cX8_grows RX8 wsX8_grows 6 1 26) (hR : rm_rV G 96 ph rho)  (q2 : Int32 → rm_M → Option (rm_M)) (q14 : Int32 → Int32 → Int32 → rm_M → Option (rm_M)) (q33 : Int32 → Int32 → Int32 → Int32 → Int32 → rm_M → Option (rm_M)) (hq2 : ∀ (x1 : Int32) (M : rm_M), q2 x1 M = some rho → rm_L G 96 ph 6 2 [(0, .ref (ph 79)), (1, .int x1)] [] M) (hq14 : ∀ (x1 : Int32) (x2 : Int32) (x3 : Int32) (M : rm_M), q14 x1 x2 x3 M = some rho → rm_L G 96 ph 6 14 [(0, .ref (ph 79)), (1, .int x1), (2, .int x2), (3, .int x3)] [] M) (hq33 : ∀ (x1 : Int32) (x2 : Int32) (x3 : Int32) (x4 : Int32) (x5 : Int32) (M : rm_M), q33 x1 x2 x3 x4 x5 M = some rho → rm_L G 96 ph 6 33 [(0, .ref (ph 79)), (1, .int x1), (2, .int x2), (3, .int x3), (4, .int x4), (5, .int x5)] [] M) : ∀ (x1 : Int32) (x2 : Int32) (x3 : Int32) (x4 : Int32) (x5 : Int32) (M : rm_M), fX8_grows_L91 q2 q14 q33 x1 x2 x3 x4 x5 M = some rho → rm_L G 96 ph 6 91 [(0, .ref (ph 79)), (1, .int x1), (2, .int x2), (3, .int x3), (4, .int x4), (5, .int x5)] [] M := by
  intro x1 x2 x3 x4 x5 M hf
  unfold fX8_grows_L91 at hf
  refine rr_iinc hG (v := x5 + (1 : Int32)) (lv2 := [(5, .int (x5 + (1 : Int32))), (0, .ref (ph 79)), (1, .int x1), (2, .int x2), (3, .int x3), (4, .int x4)]) (k := 5) dX8_grows_91 rfl rfl (by decide) rfl ?_
  refine rr_goto hG (tgt := 33) dX8_grows_94 (by decide) ?_
  exact rr_sub (lv2 := [(0, .ref (ph 79)), (1, .int x1), (2, .int x2), (3, .int x3), (4, .int x4), (5, .int (x5 + (1 : Int32)))]) [1, 2, 3, 4, 5, 0] rfl (hq33 _ _ _ _ _ _ hf)
set_option maxHeartbeats 4000000 in
set_option maxRecDepth 100000 in
theorem wX8_grows_L87 {G : rm_G} {ph : Nat → Nat} {rho : rm_M}  (hG : rm_k G 96 ph cX8_grows RX8 wsX8_grows 6 1 26) (hR : rm_rV G 96 ph rho)  (q2 : Int32 → rm_M → Option (rm_M)) (q14 : Int32 → Int32 → Int32 → rm_M → Option (rm_M)) (q33 : Int32 → Int32 → Int32 → Int32 → Int32 → rm_M → Option (rm_M)) (hq2 : ∀ (x1 : Int32) (M : rm_M), q2 x1 M = some rho → rm_L G 96 ph 6 2 [(0, .ref (ph 79)), (1, .int x1)] [] M) (hq14 : ∀ (x1 : Int32) (x2 : Int32) (x3 : Int32) (M : rm_M), q14 x1 x2 x3 M = some rho → rm_L G 96 ph 6 14 [(0, .ref (ph 79)), (1, .int x1), (2, .int x2), (3, .int x3)] [] M) (hq33 : ∀ (x1 : Int32) (x2 : Int32) (x3 : Int32) (x4 : Int32) (x5 : Int32) (M : rm_M), q33 x1 x2 x3 x4 x5 M = some rho → rm_L G 96 ph 6 33 [(0, .ref (ph 79)), (1, .int x1), (2, .int x2), (3, .int x3), (4, .int x4), (5, .int x5)] [] M) : ∀ (x1 : Int32) (x2 : Int32) (x3 : Int32) (x4 : Int32) (x5 : Int32) (s1 : Int32) (s2 : Int64) (M : rm_M), fX8_grows_L87 q2 q14 q33 x1 x2 x3 x4 x5 s1 s2 M = some rho → rm_L G 96 ph 6 87 [(0, .ref (ph 79)), (1, .int x1), (2, .int x2), (3, .int x3), (4, .int x4), (5, .int x5)] [.long s2, .int s1, .ref (ph 91)] M := by
  intro x1 x2 x3 x4 x5 s1 s2 M hf
  unfold fX8_grows_L87 at hf
  refine rr_last hG dX8_grows_87 ⟨rfl, by decide⟩ hf (fun b1 hf => ?_)
  refine rr_bindM hf (fun M2 eM2 hf => ?_)
  refine rr_iinc hG (v := x4 + (1 : Int32)) (lv2 := [(4, .int (x4 + (1 : Int32))), (0, .ref (ph 79)), (1, .int x1), (2, .int x2), (3, .int x3), (5, .int x5)]) (k := 4) dX8_grows_88 rfl rfl (by decide) rfl ?_
  exact rr_sub (lv2 := [(0, .ref (ph 79)), (1, .int x1), (2, .int x2), (3, .int x3), (4, .int (x4 + (1 : Int32))), (5, .int x5)]) [1, 2, 3, 4, 0, 5] rfl (wX8_grows_L91 hG hR _ _ _ (hq2) (hq14) (hq33) _ _ _ _ _ _ hf)
set_option maxHeartbeats 4000000 in
set_option maxRecDepth 100000 in
theorem wX8_grows_L100 {G : rm_G} {ph : Nat → Nat} {rho : rm_M}  (hG : rm_k G 96 ph cX8_grows RX8 wsX8_grows 6 1 26) (hR : rm_rV G 96 ph rho)  (q2 : Int32 → rm_M → Option (rm_M)) (q14 : Int32 → Int32 → Int32 → rm_M → Option (rm_M)) (hq2 : ∀ (x1 : Int32) (M : rm_M), q2 x1 M = some rho → rm_L G 96 ph 6 2 [(0, .ref (ph 79)), (1, .int x1)] [] M) (hq14 : ∀ (x1 : Int32) (x2 : Int32) (x3 : Int32) (M : rm_M), q14 x1 x2 x3 M = some rho → rm_L G 96 ph 6 14 [(0, .ref (ph 79)), (1, .int x1), (2, .int x2), (3, .int x3)] [] M) : ∀ (x1 : Int32) (x2 : Int32) (x3 : Int32) (M : rm_M), fX8_grows_L100 q2 q14 x1 x2 x3 M = some rho → rm_L G 96 ph 6 100 [(0, .ref (ph 79)), (1, .int x1), (2, .int x2), (3, .int x3)] [] M := by
  intro x1 x2 x3 M hf
  unfold fX8_grows_L100 at hf
  refine rr_iinc hG (v := x3 + (1 : Int32)) (lv2 := [(3, .int (x3 + (1 : Int32))), (0, .ref (ph 79)), (1, .int x1), (2, .int x2)]) (k := 3) dX8_grows_100 rfl rfl (by decide) rfl ?_
  refine rr_goto hG (tgt := 14) dX8_grows_103 (by decide) ?_
  exact rr_sub (lv2 := [(0, .ref (ph 79)), (1, .int x1), (2, .int x2), (3, .int (x3 + (1 : Int32)))]) [1, 2, 3, 0] rfl (hq14 _ _ _ _ hf)
set_option maxHeartbeats 4000000 in
set_option maxRecDepth 100000 in
theorem wX8_grows_L33 {G : rm_G} {ph : Nat → Nat} {rho : rm_M}  (hG : rm_k G 96 ph cX8_grows RX8 wsX8_grows 6 1 26) (hR : rm_rV G 96 ph rho)  (q2 : Int32 → rm_M → Option (rm_M)) (q14 : Int32 → Int32 → Int32 → rm_M → Option (rm_M)) (hq2 : ∀ (x1 : Int32) (M : rm_M), q2 x1 M = some rho → rm_L G 96 ph 6 2 [(0, .ref (ph 79)), (1, .int x1)] [] M) (hq14 : ∀ (x1 : Int32) (x2 : Int32) (x3 : Int32) (M : rm_M), q14 x1 x2 x3 M = some rho → rm_L G 96 ph 6 14 [(0, .ref (ph 79)), (1, .int x1), (2, .int x2), (3, .int x3)] [] M) : ∀ (n : Nat) (x1 : Int32) (x2 : Int32) (x3 : Int32) (x4 : Int32) (x5 : Int32) (M : rm_M), fX8_grows_L33 q2 q14 n x1 x2 x3 x4 x5 M = some rho → rm_L G 96 ph 6 33 [(0, .ref (ph 79)), (1, .int x1), (2, .int x2), (3, .int x3), (4, .int x4), (5, .int x5)] [] M := by
  intro n
  induction n with
  | zero => intro x1 x2 x3 x4 x5 M hf; rw [fX8_grows_L33] at hf; cases hf
  | succ n ih =>
    intro x1 x2 x3 x4 x5 M hf
    rw [fX8_grows_L33] at hf
    refine rr_iload hG dX8_grows_33 5 rfl ?_
    refine rr_aload_n hG dX8_grows_35 0 rfl rfl ?_
    refine rr_get hG 8 2 dX8_grows_36 ⟨rfl, by decide⟩ (by decide) rfl tX8_grows_X8 (by decide) kX8_grows_76 rfl rfl ?_
    refine rr_icmp_ge hG (tgt := 97) dX8_grows_39 (by decide) hf (fun c3 hf => ?_) (fun c3 hf => ?_)
    · refine rr_iinc hG (v := x2 + (1 : Int32)) (lv2 := [(2, .int (x2 + (1 : Int32))), (0, .ref (ph 79)), (1, .int x1), (3, .int x3), (4, .int x4), (5, .int x5)]) (k := 2) dX8_grows_97 rfl rfl (by decide) rfl ?_
      exact rr_sub (lv2 := [(0, .ref (ph 79)), (1, .int x1), (2, .int (x2 + (1 : Int32))), (3, .int x3)]) [1, 2, 0, 3] rfl (wX8_grows_L100 hG hR _ _ (hq2) (hq14) _ _ _ _ hf)
    · refine rr_iload hG dX8_grows_42 5 rfl ?_
      refine rr_iload_n hG dX8_grows_44 1 rfl rfl ?_
      refine rr_icmp_eq hG (tgt := 91) dX8_grows_45 (by decide) hf (fun c4 hf => ?_) (fun c4 hf => ?_)
      · exact rr_sub (lv2 := [(0, .ref (ph 79)), (1, .int x1), (2, .int x2), (3, .int x3), (4, .int x4), (5, .int x5)]) [0, 1, 2, 3, 4, 5] rfl (wX8_grows_L91 hG hR _ _ _ (hq2) (hq14) (ih) _ _ _ _ _ _ hf)
      · refine rr_aload_n hG dX8_grows_48 0 rfl rfl ?_
        refine rr_get hG 8 19 (v := .ref (ph 91)) dX8_grows_49 ⟨rfl, by decide⟩ (by decide) rfl tX8_grows_X8 (by decide) kX8_grows_44 rfl rfl ?_
        refine rr_iconst hG (v := 5) dX8_grows_52 (by decide) ?_
        refine rr_iload_n hG dX8_grows_53 2 rfl rfl ?_
        refine rr_imul hG dX8_grows_54 ?_
        refine rr_iload hG dX8_grows_55 4 rfl ?_
        refine rr_iadd hG dX8_grows_57 ?_
        refine rr_iload_n hG dX8_grows_58 3 rfl rfl ?_
        refine rr_iload hG dX8_grows_59 5 rfl ?_
        refine rr_icmp_ne hG (tgt := 73) dX8_grows_61 (by decide) hf (fun c5 hf => ?_) (fun c5 hf => ?_)
        · refine rr_aload_n hG dX8_grows_73 0 rfl rfl ?_
          refine rr_get hG 8 4 (v := .ref (ph 81)) dX8_grows_74 ⟨rfl, by decide⟩ (by decide) rfl tX8_grows_X8 (by decide) kX8_grows_13 rfl rfl ?_
          refine rr_bipush hG (v := 6) dX8_grows_77 (by decide) ?_
          refine rr_iload_n hG dX8_grows_79 3 rfl rfl ?_
          refine rr_imul hG dX8_grows_80 ?_
          refine rr_iload hG dX8_grows_81 5 rfl ?_
          refine rr_iadd hG dX8_grows_83 ?_
          refine rr_iald hG dX8_grows_84 ⟨rfl, by decide⟩ hf (fun b6 hf => ?_)
          refine rr_ineg hG dX8_grows_85 ?_
          refine rr_i2l hG dX8_grows_86 ?_
          exact rr_sub (lv2 := [(0, .ref (ph 79)), (1, .int x1), (2, .int x2), (3, .int x3), (4, .int x4), (5, .int x5)]) [0, 1, 2, 3, 4, 5] rfl (wX8_grows_L87 hG hR _ _ _ (hq2) (hq14) (ih) _ _ _ _ _ _ _ _ hf)
        · refine rr_aload_n hG dX8_grows_64 0 rfl rfl ?_
          refine rr_iload_n hG dX8_grows_65 3 rfl rfl ?_
          refine rr_cVI hG (st := [.int (((5 : Int32) * x2) + x4), .ref (ph 91)]) (n := 1) (ci := 8) (rf := 0) (rl := 0) [.int x3] dX8_grows_66 hf ⟨rfl, by decide⟩ (by decide) rfl gX8_grows_X8_out rfl (by decide +kernel) rfl ⟨by decide, by decide⟩ rfl (Nat.le_of_ble_eq_true rfl) (fun r9 M9 h9 => mX8_out ph _ _ _ h9) (fun r8 M9 h7 hf => ?_)
          refine rr_i2l hG dX8_grows_69 ?_
          refine rr_goto hG (tgt := 87) dX8_grows_70 (by decide) ?_
          exact rr_sub (lv2 := [(0, .ref (ph 79)), (1, .int x1), (2, .int x2), (3, .int x3), (4, .int x4), (5, .int x5)]) [0, 1, 2, 3, 4, 5] rfl (wX8_grows_L87 hG hR _ _ _ (hq2) (hq14) (ih) _ _ _ _ _ _ _ _ hf)
set_option maxHeartbeats 4000000 in
set_option maxRecDepth 100000 in
theorem wX8_grows_L14 {G : rm_G} {ph : Nat → Nat} {rho : rm_M}  (hG : rm_k G 96 ph cX8_grows RX8 wsX8_grows 6 1 26) (hR : rm_rV G 96 ph rho)  (q2 : Int32 → rm_M → Option (rm_M)) (hq2 : ∀ (x1 : Int32) (M : rm_M), q2 x1 M = some rho → rm_L G 96 ph 6 2 [(0, .ref (ph 79)), (1, .int x1)] [] M) : ∀ (n : Nat) (x1 : Int32) (x2 : Int32) (x3 : Int32) (M : rm_M), fX8_grows_L14 q2 n x1 x2 x3 M = some rho → rm_L G 96 ph 6 14 [(0, .ref (ph 79)), (1, .int x1), (2, .int x2), (3, .int x3)] [] M := by
  intro n
  induction n with
  | zero => intro x1 x2 x3 M hf; rw [fX8_grows_L14] at hf; cases hf
  | succ n ih =>
    intro x1 x2 x3 M hf
    rw [fX8_grows_L14] at hf
    refine rr_iload_n hG dX8_grows_14 3 rfl rfl ?_
    refine rr_aload_n hG dX8_grows_15 0 rfl rfl ?_
    refine rr_get hG 8 2 dX8_grows_16 ⟨rfl, by decide⟩ (by decide) rfl tX8_grows_X8 (by decide) kX8_grows_76 rfl rfl ?_
    refine rr_icmp_ge hG (tgt := 106) dX8_grows_19 (by decide) hf (fun c10 hf => ?_) (fun c10 hf => ?_)
    · refine rr_aload_n hG dX8_grows_106 0 rfl rfl ?_
      refine rr_get hG 8 18 (v := .ref (ph 90)) dX8_grows_107 ⟨rfl, by decide⟩ (by decide) rfl tX8_grows_X8 (by decide) kX8_grows_40 rfl rfl ?_
      refine rr_iload_n hG dX8_grows_110 1 rfl rfl ?_
      refine rr_aload_n hG dX8_grows_111 0 rfl rfl ?_
      refine rr_aload_n hG dX8_grows_112 0 rfl rfl ?_
      refine rr_get hG 8 2 dX8_grows_113 ⟨rfl, by decide⟩ (by decide) rfl tX8_grows_X8 (by decide) kX8_grows_76 rfl rfl ?_
      refine rr_iconst hG (v := 1) dX8_grows_116 (by decide) ?_
      refine rr_isub hG dX8_grows_117 ?_
      refine rr_cVJ hG (st := [.int x1, .ref (ph 90)]) (n := 1) (ci := 8) (rf := 0) (rl := 0) [.int ((M.1 79 2) - (1 : Int32))] dX8_grows_118 hf ⟨rfl, by decide⟩ (by decide) rfl gX8_grows_X8_determinant rfl (by decide +kernel) rfl ⟨by decide, by decide⟩ rfl (Nat.le_of_ble_eq_true rfl) (fun r9 M9 h9 => mX8_determinant ph _ _ _ h9) (fun r12 M13 h11 hf => ?_)
      refine rr_last hG dX8_grows_121 ⟨rfl, by decide⟩ hf (fun b14 hf => ?_)
      refine rr_bindM hf (fun M15 eM15 hf => ?_)
      refine rr_iinc hG (v := x1 + (1 : Int32)) (lv2 := [(1, .int (x1 + (1 : Int32))), (0, .ref (ph 79)), (2, .int x2), (3, .int x3)]) (k := 1) dX8_grows_122 rfl rfl (by decide) rfl ?_
      refine rr_goto hG (tgt := 2) dX8_grows_125 (by decide) ?_
      exact rr_sub (lv2 := [(0, .ref (ph 79)), (1, .int (x1 + (1 : Int32)))]) [1, 0] rfl (hq2 _ _ hf)
    · refine rr_iload_n hG dX8_grows_22 3 rfl rfl ?_
      refine rr_iload_n hG dX8_grows_23 1 rfl rfl ?_
      refine rr_icmp_eq hG (tgt := 100) dX8_grows_24 (by decide) hf (fun c16 hf => ?_) (fun c16 hf => ?_)
      · exact rr_sub (lv2 := [(0, .ref (ph 79)), (1, .int x1), (2, .int x2), (3, .int x3)]) [0, 1, 2, 3] rfl (wX8_grows_L100 hG hR _ _ (hq2) (ih) _ _ _ _ hf)
      · refine rr_iconst hG (v := 0) dX8_grows_27 (by decide) ?_
        refine rr_istore hG (lv2 := [(4, .int (0 : Int32)), (0, .ref (ph 79)), (1, .int x1), (2, .int x2), (3, .int x3)]) dX8_grows_28 (by decide) rfl ?_
        refine rr_iconst hG (v := 0) dX8_grows_30 (by decide) ?_
        refine rr_istore hG (lv2 := [(5, .int (0 : Int32)), (4, .int (0 : Int32)), (0, .ref (ph 79)), (1, .int x1), (2, .int x2), (3, .int x3)]) dX8_grows_31 (by decide) rfl ?_
        exact rr_sub (lv2 := [(0, .ref (ph 79)), (1, .int x1), (2, .int x2), (3, .int x3), (4, .int (0 : Int32)), (5, .int (0 : Int32))]) [2, 3, 4, 5, 1, 0] rfl (wX8_grows_L33 hG hR _ _ (hq2) (ih) _ _ _ _ _ _ _ hf)
set_option maxHeartbeats 4000000 in
set_option maxRecDepth 100000 in
theorem wX8_grows_L2 {G : rm_G} {ph : Nat → Nat} {rho : rm_M}  (hG : rm_k G 96 ph cX8_grows RX8 wsX8_grows 6 1 26) (hR : rm_rV G 96 ph rho)    : ∀ (n : Nat) (x1 : Int32) (M : rm_M), fX8_grows_L2 n x1 M = some rho → rm_L G 96 ph 6 2 [(0, .ref (ph 79)), (1, .int x1)] [] M := by
  intro n
  induction n with
  | zero => intro x1 M hf; rw [fX8_grows_L2] at hf; cases hf
  | succ n ih =>
    intro x1 M hf
    rw [fX8_grows_L2] at hf
    refine rr_iload_n hG dX8_grows_2 1 rfl rfl ?_
    refine rr_aload_n hG dX8_grows_3 0 rfl rfl ?_
    refine rr_get hG 8 2 dX8_grows_4 ⟨rfl, by decide⟩ (by decide) rfl tX8_grows_X8 (by decide) kX8_grows_76 rfl rfl ?_
    refine rr_icmp_ge hG (tgt := 128) dX8_grows_7 (by decide) hf (fun c17 hf => ?_) (fun c17 hf => ?_)
    · exact rr_vret hG hR dX8_grows_128 hf
    · refine rr_iconst hG (v := 0) dX8_grows_10 (by decide) ?_
      refine rr_istore_n hG (lv2 := [(2, .int (0 : Int32)), (0, .ref (ph 79)), (1, .int x1)]) dX8_grows_11 rfl (by decide) rfl ?_
      refine rr_iconst hG (v := 0) dX8_grows_12 (by decide) ?_
      refine rr_istore_n hG (lv2 := [(3, .int (0 : Int32)), (2, .int (0 : Int32)), (0, .ref (ph 79)), (1, .int x1)]) dX8_grows_13 rfl (by decide) rfl ?_
      exact rr_sub (lv2 := [(0, .ref (ph 79)), (1, .int x1), (2, .int (0 : Int32)), (3, .int (0 : Int32))]) [2, 3, 1, 0] rfl (wX8_grows_L14 hG hR _ (ih) _ _ _ _ _ hf)
set_option maxHeartbeats 4000000 in
set_option maxRecDepth 100000 in
theorem mX8_grows (ph : Nat → Nat)  (M : rm_M) (rho : rm_M)  (hf : fX8_grows M = some rho) : rm_CV yX8_grows wsX8_grows 1 26 [.ref (ph 79)] 96 ph M rho := by
  refine rm_metV (cc := cX8_grows) (maxL := 6) (by decide +kernel) rfl rfl (Nat.le_of_ble_eq_true rfl) rfl (fun G hG hR => ?_)
  unfold fX8_grows at hf
  refine rr_iconst hG (v := 0) dX8_grows_0 (by decide) ?_
  refine rr_istore_n hG (lv2 := [(1, .int (0 : Int32)), (0, .ref (ph 79))]) dX8_grows_1 rfl (by decide) rfl ?_
  exact rr_sub (lv2 := [(0, .ref (ph 79)), (1, .int (0 : Int32))]) [1, 0] rfl (wX8_grows_L2 hG hR _ _ _ hf)
/-! X8.below -/
theorem tX8_below_X8 : ∀ w ∈ u_ws RX8 TX8 26, w ∈ wsX8_below := by decide +kernel
theorem kX8_below_76 : Cond.fieldLink RX8 76 "RingPagesModel" "cells" "I" ∈ wsX8_below := by decide +kernel
theorem kX8_below_40 : Cond.fieldLink RX8 40 "RingPagesModel" "trees" "[J" ∈ wsX8_below := by decide +kernel
set_option maxHeartbeats 4000000 in
set_option maxRecDepth 100000 in
theorem wX8_below_L4 {G : rm_G} {ph : Nat → Nat} {rho : Int64 × rm_M}  (hG : rm_k G 96 ph cX8_below RX8 wsX8_below 4 2 44) (hR : rm_rJ G 96 ph rho)    : ∀ (n : Nat) (x1 : Int64) (x3 : Int32) (M : rm_M), fX8_below_L4 n x1 x3 M = some rho → rm_L G 96 ph 4 4 [(0, .ref (ph 79)), (1, .long x1), (3, .int x3)] [] M := by
  intro n
  induction n with
  | zero => intro x1 x3 M hf; rw [fX8_below_L4] at hf; cases hf
  | succ n ih =>
    intro x1 x3 M hf
    rw [fX8_below_L4] at hf
    refine rr_iload_n hG dX8_below_4 2 rfl rfl ?_
    refine rr_aload_n hG dX8_below_5 0 rfl rfl ?_
    refine rr_get hG 8 2 dX8_below_6 ⟨rfl, by decide⟩ (by decide) rfl tX8_below_X8 (by decide) kX8_below_76 rfl rfl ?_
    refine rr_icmp_ge hG (tgt := 34) dX8_below_9 (by decide) hf (fun c1 hf => ?_) (fun c1 hf => ?_)
    · refine rr_lload_n hG dX8_below_34 1 rfl rfl ?_
      exact rr_lret hG hR dX8_below_35 hf
    · refine rr_lload_n hG dX8_below_12 1 rfl rfl ?_
      refine rr_aload_n hG dX8_below_13 0 rfl rfl ?_
      refine rr_get hG 8 18 (v := .ref (ph 90)) dX8_below_14 ⟨rfl, by decide⟩ (by decide) rfl tX8_below_X8 (by decide) kX8_below_40 rfl rfl ?_
      refine rr_iload_n hG dX8_below_17 2 rfl rfl ?_
      refine rr_lald hG dX8_below_18 ⟨rfl, by decide⟩ hf (fun b2 hf => ?_)
      refine rr_aload_n hG dX8_below_19 0 rfl rfl ?_
      refine rr_iload_n hG dX8_below_20 2 rfl rfl ?_
      refine rr_cVI hG (st := [.long (M.2.1 90 (x3).toNatClampNeg), .long x1]) (n := 1) (ci := 8) (rf := 1) (rl := 23) [.int x3] dX8_below_21 hf ⟨rfl, by decide⟩ (by decide) rfl gX8_below_X8_sum rfl (by decide +kernel) rfl ⟨by decide, by decide⟩ rfl (Nat.le_of_ble_eq_true rfl) (fun r9 M9 h9 => mX8_sum ph _ _ _ h9) (fun r4 M5 h3 hf => ?_)
      refine rr_i2l hG dX8_below_24 ?_
      refine rr_lmul hG dX8_below_25 ?_
      refine rr_ladd hG dX8_below_26 ?_
      refine rr_bindJ hf (fun v6 ev6 hf => ?_)
      refine rr_lstore_n hG (lv2 := [(1, .long v6), (0, .ref (ph 79)), (3, .int x3)]) dX8_below_27 rfl (by decide) rfl ?_
      refine rr_iinc hG (v := x3 + (1 : Int32)) (lv2 := [(3, .int (x3 + (1 : Int32))), (1, .long v6), (0, .ref (ph 79))]) (k := 2) dX8_below_28 rfl rfl (by decide) rfl ?_
      refine rr_goto hG (tgt := 4) dX8_below_31 (by decide) ?_
      exact rr_sub (lv2 := [(0, .ref (ph 79)), (1, .long v6), (3, .int (x3 + (1 : Int32)))]) [2, 1, 0] rfl (ih _ _ _ hf)
set_option maxHeartbeats 4000000 in
set_option maxRecDepth 100000 in
theorem mX8_below (ph : Nat → Nat)  (M : rm_M) (rho : Int64 × rm_M)  (hf : fX8_below M = some rho) : rm_CJ yX8_below wsX8_below 2 44 [.ref (ph 79)] 96 ph M rho := by
  refine rm_metJ (cc := cX8_below) (maxL := 4) (by decide +kernel) rfl rfl (Nat.le_of_ble_eq_true rfl) rfl (fun G hG hR => ?_)
  unfold fX8_below at hf
  refine rr_lconst hG (v := 0) dX8_below_0 (by decide) ?_
  refine rr_lstore_n hG (lv2 := [(1, .long (0 : Int64)), (0, .ref (ph 79))]) dX8_below_1 rfl (by decide) rfl ?_
  refine rr_iconst hG (v := 0) dX8_below_2 (by decide) ?_
  refine rr_istore_n hG (lv2 := [(3, .int (0 : Int32)), (1, .long (0 : Int64)), (0, .ref (ph 79))]) dX8_below_3 rfl (by decide) rfl ?_
  exact rr_sub (lv2 := [(0, .ref (ph 79)), (1, .long (0 : Int64)), (3, .int (0 : Int32))]) [2, 1, 0] rfl (wX8_below_L4 hG hR _ _ _ _ hf)
/-! X8.common -/
set_option maxHeartbeats 4000000 in
set_option maxRecDepth 100000 in
theorem wX8_common_L6 {G : rm_G} {ph : Nat → Nat} {rho : Int64 × rm_M} (a0 : Int64) (a2 : Int64) (hG : rm_k G 96 ph cX8_common RX8 wsX8_common 10 0 0) (hR : rm_rJ G 96 ph rho)    : ∀ (n : Nat) (x4 : Int64) (x6 : Int64) (M : rm_M), fX8_common_L6 a0 a2 n x4 x6 M = some rho → rm_L G 96 ph 10 6 [(4, .long x4), (6, .long x6)] [] M := by
  intro n
  induction n with
  | zero => intro x4 x6 M hf; rw [fX8_common_L6] at hf; cases hf
  | succ n ih =>
    intro x4 x6 M hf
    rw [fX8_common_L6] at hf
    refine rr_lload hG dX8_common_6 1 rfl ?_
    refine rr_lconst hG (v := 0) dX8_common_8 (by decide) ?_
    refine rr_lcmp hG dX8_common_9 ?_
    refine rr_if_eq hG (tgt := 31) dX8_common_10 (by decide) hf (fun c1 hf => ?_) (fun c1 hf => ?_)
    · refine rr_lload hG dX8_common_31 0 rfl ?_
      exact rr_lret hG hR dX8_common_33 hf
    · refine rr_lload hG dX8_common_13 0 rfl ?_
      refine rr_lload hG dX8_common_15 1 rfl ?_
      refine rr_lrem hG dX8_common_17 hf (fun hf => ?_)
      refine rr_bindJ hf (fun v2 ev2 hf => ?_)
      refine rr_lstore hG (lv2 := [(8, .long v2), (4, .long x4), (6, .long x6)]) dX8_common_18 (by decide) rfl ?_
      refine rr_lload hG dX8_common_20 2 rfl ?_
      refine rr_lstore hG (lv2 := [(4, .long x6), (8, .long v2), (6, .long x6)]) dX8_common_22 (by decide) rfl ?_
      refine rr_lload hG dX8_common_24 1 rfl ?_
      refine rr_lstore hG (lv2 := [(6, .long v2), (4, .long x6), (8, .long v2)]) dX8_common_26 (by decide) rfl ?_
      refine rr_goto hG (tgt := 6) dX8_common_28 (by decide) ?_
      exact rr_sub (lv2 := [(4, .long x6), (6, .long v2)]) [1, 0] rfl (ih _ _ _ hf)
set_option maxHeartbeats 4000000 in
set_option maxRecDepth 100000 in
theorem mX8_common (ph : Nat → Nat) (a0 : Int64) (a2 : Int64) (M : rm_M) (rho : Int64 × rm_M)  (hf : fX8_common a0 a2 M = some rho) : rm_CJ yX8_common wsX8_common 0 0 [.long a0, .long a2] 96 ph M rho := by
  refine rm_metJ (cc := cX8_common) (maxL := 10) (by decide +kernel) rfl rfl (Nat.le_of_ble_eq_true rfl) rfl (fun G hG hR => ?_)
  unfold fX8_common at hf
  refine rr_lload_n hG dX8_common_0 0 rfl rfl ?_
  refine rr_lstore hG (lv2 := [(4, .long a0), (0, .long a0), (2, .long a2)]) dX8_common_1 (by decide) rfl ?_
  refine rr_lload_n hG dX8_common_3 2 rfl rfl ?_
  refine rr_lstore hG (lv2 := [(6, .long a2), (4, .long a0), (0, .long a0), (2, .long a2)]) dX8_common_4 (by decide) rfl ?_
  exact rr_sub (lv2 := [(4, .long a0), (6, .long a2)]) [1, 0] rfl (wX8_common_L6 _ _ hG hR _ _ _ _ hf)
/-! X8.term -/
set_option maxHeartbeats 4000000 in
set_option maxRecDepth 100000 in
theorem mX8_term (ph : Nat → Nat) (a0 : Int64) (a2 : Int64) (a4 : Int32) (M : rm_M) (rho : Int64 × rm_M)  (hf : fX8_term a0 a2 a4 M = some rho) : rm_CJ yX8_term wsX8_term 1 29 [.long a0, .long a2, .int a4] 96 ph M rho := by
  refine rm_metJ (cc := cX8_term) (maxL := 7) (by decide +kernel) rfl rfl (Nat.le_of_ble_eq_true rfl) rfl (fun G hG hR => ?_)
  unfold fX8_term at hf
  refine rr_lload_n hG dX8_term_0 0 rfl rfl ?_
  refine rr_lload_n hG dX8_term_1 1 rfl rfl ?_
  refine rr_cSJ hG (st := []) (n := 2) (rf := 0) (rl := 0) [.long a0, .long a2] dX8_term_2 hf gX8_term_X8_common rfl (by decide +kernel) rfl ⟨by decide, by decide⟩ rfl (Nat.le_of_ble_eq_true rfl) (fun r9 M9 h9 => mX8_common ph _ _ _ _ h9) (fun r2 M3 h1 hf => ?_)
  refine rr_lstore hG (lv2 := [(5, .long r2), (0, .long a0), (2, .long a2), (4, .int a4)]) dX8_term_5 (by decide) rfl ?_
  refine rr_iload hG dX8_term_7 3 rfl ?_
  refine rr_if_ne hG (tgt := 19) dX8_term_9 (by decide) hf (fun c4 hf => ?_) (fun c4 hf => ?_)
  · refine rr_lload_n hG dX8_term_19 2 rfl rfl ?_
    refine rr_lload hG dX8_term_20 0 rfl ?_
    refine rr_ldiv hG dX8_term_22 hf (fun hf => ?_)
    exact rr_lret hG hR dX8_term_23 hf
  · refine rr_lload_n hG dX8_term_12 1 rfl rfl ?_
    refine rr_lload hG dX8_term_13 0 rfl ?_
    refine rr_ldiv hG dX8_term_15 hf (fun hf => ?_)
    refine rr_goto hG (tgt := 23) dX8_term_16 (by decide) ?_
    exact rr_lret hG hR dX8_term_23 hf
