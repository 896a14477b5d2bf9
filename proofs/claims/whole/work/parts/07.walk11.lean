/-! X8.likeArea -/
theorem tX8_likeArea_X8 : ∀ w ∈ u_ws RX8 TX8 26, w ∈ wsX8_likeArea := by decide +kernel
theorem kX8_likeArea_76 : Cond.fieldLink RX8 76 "RingPagesModel" "cells" "I" ∈ wsX8_likeArea := by decide +kernel
theorem kX8_likeArea_19 : Cond.fieldLink RX8 19 "RingPagesModel" "now" "[I" ∈ wsX8_likeArea := by decide +kernel
set_option maxHeartbeats 4000000 in
set_option maxRecDepth 100000 in
theorem wX8_likeArea_L31 {G : rm_G} {ph : Nat → Nat} {rho : Int32 × rm_M} (a1 : Int32) (hG : rm_k G 96 ph cX8_likeArea RX8 wsX8_likeArea 4 0 0) (hR : rm_rI G 96 ph .int rho)  (q4 : Int32 → Int32 → rm_M → Option (Int32 × rm_M)) (hq4 : ∀ (x2 : Int32) (x3 : Int32) (M : rm_M), q4 x2 x3 M = some rho → rm_L G 96 ph 4 4 [(0, .ref (ph 79)), (1, .int a1), (2, .int x2), (3, .int x3)] [] M) : ∀ (x3 : Int32) (s0 : Int32) (s1 : Int32) (M : rm_M), fX8_likeArea_L31 a1 q4 x3 s0 s1 M = some rho → rm_L G 96 ph 4 31 [(0, .ref (ph 79)), (1, .int a1), (3, .int x3)] [.int s1, .int s0] M := by
  intro x3 s0 s1 M hf
  unfold fX8_likeArea_L31 at hf
  refine rr_iadd hG dX8_likeArea_31 ?_
  refine rr_bindI hf (fun v1 ev1 hf => ?_)
  refine rr_istore_n hG (lv2 := [(2, .int v1), (0, .ref (ph 79)), (1, .int a1), (3, .int x3)]) dX8_likeArea_32 rfl (by decide) rfl ?_
  refine rr_iinc hG (v := x3 + (1 : Int32)) (lv2 := [(3, .int (x3 + (1 : Int32))), (2, .int v1), (0, .ref (ph 79)), (1, .int a1)]) (k := 3) dX8_likeArea_33 rfl rfl (by decide) rfl ?_
  refine rr_goto hG (tgt := 4) dX8_likeArea_36 (by decide) ?_
  exact rr_sub (lv2 := [(0, .ref (ph 79)), (1, .int a1), (2, .int v1), (3, .int (x3 + (1 : Int32)))]) [2, 3, 1, 0] rfl (hq4 _ _ _ hf)
set_option maxHeartbeats 4000000 in
set_option maxRecDepth 100000 in
theorem wX8_likeArea_L4 {G : rm_G} {ph : Nat → Nat} {rho : Int32 × rm_M} (a1 : Int32) (hG : rm_k G 96 ph cX8_likeArea RX8 wsX8_likeArea 4 0 0) (hR : rm_rI G 96 ph .int rho)    : ∀ (n : Nat) (x2 : Int32) (x3 : Int32) (M : rm_M), fX8_likeArea_L4 a1 n x2 x3 M = some rho → rm_L G 96 ph 4 4 [(0, .ref (ph 79)), (1, .int a1), (2, .int x2), (3, .int x3)] [] M := by
  intro n
  induction n with
  | zero => intro x2 x3 M hf; rw [fX8_likeArea_L4] at hf; cases hf
  | succ n ih =>
    intro x2 x3 M hf
    rw [fX8_likeArea_L4] at hf
    refine rr_iload_n hG dX8_likeArea_4 3 rfl rfl ?_
    refine rr_aload_n hG dX8_likeArea_5 0 rfl rfl ?_
    refine rr_get hG 8 2 dX8_likeArea_6 ⟨rfl, by decide⟩ (by decide) rfl tX8_likeArea_X8 (by decide) kX8_likeArea_76 rfl rfl ?_
    refine rr_icmp_ge hG (tgt := 39) dX8_likeArea_9 (by decide) hf (fun c2 hf => ?_) (fun c2 hf => ?_)
    · refine rr_iload_n hG dX8_likeArea_39 2 rfl rfl ?_
      exact rr_iret hG hR dX8_likeArea_40 hf
    · refine rr_iload_n hG dX8_likeArea_12 2 rfl rfl ?_
      refine rr_aload_n hG dX8_likeArea_13 0 rfl rfl ?_
      refine rr_get hG 8 6 (v := .ref (ph 83)) dX8_likeArea_14 ⟨rfl, by decide⟩ (by decide) rfl tX8_likeArea_X8 (by decide) kX8_likeArea_19 rfl rfl ?_
      refine rr_bipush hG (v := 6) dX8_likeArea_17 (by decide) ?_
      refine rr_iload_n hG dX8_likeArea_19 3 rfl rfl ?_
      refine rr_iadd hG dX8_likeArea_20 ?_
      refine rr_iald hG dX8_likeArea_21 ⟨rfl, by decide⟩ hf (fun b3 hf => ?_)
      refine rr_iload_n hG dX8_likeArea_22 1 rfl rfl ?_
      refine rr_icmp_ne hG (tgt := 30) dX8_likeArea_23 (by decide) hf (fun c4 hf => ?_) (fun c4 hf => ?_)
      · refine rr_iconst hG (v := 0) dX8_likeArea_30 (by decide) ?_
        exact rr_sub (lv2 := [(0, .ref (ph 79)), (1, .int a1), (3, .int x3)]) [0, 1, 3] rfl (wX8_likeArea_L31 _ hG hR _ (ih) _ _ _ _ hf)
      · refine rr_iconst hG (v := 1) dX8_likeArea_26 (by decide) ?_
        refine rr_goto hG (tgt := 31) dX8_likeArea_27 (by decide) ?_
        exact rr_sub (lv2 := [(0, .ref (ph 79)), (1, .int a1), (3, .int x3)]) [0, 1, 3] rfl (wX8_likeArea_L31 _ hG hR _ (ih) _ _ _ _ hf)
set_option maxHeartbeats 4000000 in
set_option maxRecDepth 100000 in
theorem mX8_likeArea (ph : Nat → Nat) (a1 : Int32) (M : rm_M) (rho : Int32 × rm_M)  (hf : fX8_likeArea a1 M = some rho) : rm_CI yX8_likeArea wsX8_likeArea 0 0 [.ref (ph 79), .int a1] 96 ph M rho := by
  refine rm_metI (cc := cX8_likeArea) (maxL := 4) (by decide +kernel) rfl rfl (Nat.le_of_ble_eq_true rfl) rfl (fun G hG hR => ?_)
  unfold fX8_likeArea at hf
  refine rr_iconst hG (v := 0) dX8_likeArea_0 (by decide) ?_
  refine rr_istore_n hG (lv2 := [(2, .int (0 : Int32)), (0, .ref (ph 79)), (1, .int a1)]) dX8_likeArea_1 rfl (by decide) rfl ?_
  refine rr_iconst hG (v := 0) dX8_likeArea_2 (by decide) ?_
  refine rr_istore_n hG (lv2 := [(3, .int (0 : Int32)), (2, .int (0 : Int32)), (0, .ref (ph 79)), (1, .int a1)]) dX8_likeArea_3 rfl (by decide) rfl ?_
  exact rr_sub (lv2 := [(0, .ref (ph 79)), (1, .int a1), (2, .int (0 : Int32)), (3, .int (0 : Int32))]) [2, 3, 1, 0] rfl (wX8_likeArea_L4 _ hG hR _ _ _ _ hf)
/-! X8.cell -/
theorem tX8_cell_X8 : ∀ w ∈ u_ws RX8 TX8 26, w ∈ wsX8_cell := by decide +kernel
theorem kX8_cell_19 : Cond.fieldLink RX8 19 "RingPagesModel" "now" "[I" ∈ wsX8_cell := by decide +kernel
set_option maxHeartbeats 4000000 in
set_option maxRecDepth 100000 in
theorem mX8_cell (ph : Nat → Nat) (a1 : Int32) (a2 : Int32) (M : rm_M) (rho : Int32 × rm_M)  (hf : fX8_cell a1 a2 M = some rho) : rm_CI yX8_cell wsX8_cell 2 44 [.ref (ph 79), .int a1, .int a2] 96 ph M rho := by
  refine rm_metI (cc := cX8_cell) (maxL := 3) (by decide +kernel) rfl rfl (Nat.le_of_ble_eq_true rfl) rfl (fun G hG hR => ?_)
  unfold fX8_cell at hf
  refine rr_aload_n hG dX8_cell_0 0 rfl rfl ?_
  refine rr_iload_n hG dX8_cell_1 1 rfl rfl ?_
  refine rr_cVI hG (st := []) (n := 1) (ci := 8) (rf := 1) (rl := 22) [.int a1] dX8_cell_2 hf ⟨rfl, by decide⟩ (by decide) rfl gX8_cell_X8_isCell rfl (by decide +kernel) rfl ⟨by decide, by decide⟩ rfl (Nat.le_of_ble_eq_true rfl) (fun r9 M9 h9 => mX8_isCell ph _ _ _ h9) (fun r2 M3 h1 hf => ?_)
  refine rr_if_ne hG (tgt := 10) dX8_cell_5 (by decide) hf (fun c4 hf => ?_) (fun c4 hf => ?_)
  · refine rr_iload_n hG dX8_cell_10 2 rfl rfl ?_
    by_cases c5 : a2 = 0
    · rw [if_pos c5] at hf
      refine rr_tableIn hG (tgt := 44) (0) dX8_cell_11 (by rw [c5]; decide) (by decide) (by decide) rfl (by decide) ?_
      refine rr_aload_n hG dX8_cell_44 0 rfl rfl ?_
      refine rr_get hG 8 6 (v := .ref (ph 83)) dX8_cell_45 ⟨rfl, by decide⟩ (by decide) rfl tX8_cell_X8 (by decide) kX8_cell_19 rfl rfl ?_
      refine rr_iload_n hG dX8_cell_48 1 rfl rfl ?_
      refine rr_iald hG dX8_cell_49 ⟨rfl, by decide⟩ hf (fun b6 hf => ?_)
      exact rr_iret hG hR dX8_cell_50 hf
    · rw [if_neg c5] at hf
      by_cases c7 : a2 = 1
      · rw [if_pos c7] at hf
        refine rr_tableIn hG (tgt := 51) (1) dX8_cell_11 (by rw [c7]; decide) (by decide) (by decide) rfl (by decide) ?_
        refine rr_aload_n hG dX8_cell_51 0 rfl rfl ?_
        refine rr_get hG 8 6 (v := .ref (ph 83)) dX8_cell_52 ⟨rfl, by decide⟩ (by decide) rfl tX8_cell_X8 (by decide) kX8_cell_19 rfl rfl ?_
        refine rr_bipush hG (v := 6) dX8_cell_55 (by decide) ?_
        refine rr_iload_n hG dX8_cell_57 1 rfl rfl ?_
        refine rr_iadd hG dX8_cell_58 ?_
        refine rr_iald hG dX8_cell_59 ⟨rfl, by decide⟩ hf (fun b8 hf => ?_)
        exact rr_iret hG hR dX8_cell_60 hf
      · rw [if_neg c7] at hf
        by_cases c9 : a2 = 2
        · rw [if_pos c9] at hf
          refine rr_tableIn hG (tgt := 61) (2) dX8_cell_11 (by rw [c9]; decide) (by decide) (by decide) rfl (by decide) ?_
          refine rr_aload_n hG dX8_cell_61 0 rfl rfl ?_
          refine rr_iload_n hG dX8_cell_62 1 rfl rfl ?_
          refine rr_cVI hG (st := []) (n := 1) (ci := 8) (rf := 1) (rl := 23) [.int a1] dX8_cell_63 hf ⟨rfl, by decide⟩ (by decide) rfl gX8_cell_X8_sum rfl (by decide +kernel) rfl ⟨by decide, by decide⟩ rfl (Nat.le_of_ble_eq_true rfl) (fun r9 M9 h9 => mX8_sum ph _ _ _ h9) (fun r11 M12 h10 hf => ?_)
          exact rr_iret hG hR dX8_cell_66 hf
        · rw [if_neg c9] at hf
          by_cases c13 : a2 = 3
          · rw [if_pos c13] at hf
            refine rr_tableIn hG (tgt := 67) (3) dX8_cell_11 (by rw [c13]; decide) (by decide) (by decide) rfl (by decide) ?_
            refine rr_aload_n hG dX8_cell_67 0 rfl rfl ?_
            refine rr_iload_n hG dX8_cell_68 1 rfl rfl ?_
            refine rr_cVI hG (st := []) (n := 1) (ci := 8) (rf := 0) (rl := 0) [.int a1] dX8_cell_69 hf ⟨rfl, by decide⟩ (by decide) rfl gX8_cell_X8_joined rfl (by decide +kernel) rfl ⟨by decide, by decide⟩ rfl (Nat.le_of_ble_eq_true rfl) (fun r9 M9 h9 => mX8_joined ph _ _ _ h9) (fun r15 M16 h14 hf => ?_)
            exact rr_iret hG hR dX8_cell_72 hf
          · rw [if_neg c13] at hf
            by_cases c17 : a2 = 4
            · rw [if_pos c17] at hf
              refine rr_tableIn hG (tgt := 73) (4) dX8_cell_11 (by rw [c17]; decide) (by decide) (by decide) rfl (by decide) ?_
              refine rr_aload_n hG dX8_cell_73 0 rfl rfl ?_
              refine rr_aload_n hG dX8_cell_74 0 rfl rfl ?_
              refine rr_get hG 8 6 (v := .ref (ph 83)) dX8_cell_75 ⟨rfl, by decide⟩ (by decide) rfl tX8_cell_X8 (by decide) kX8_cell_19 rfl rfl ?_
              refine rr_bipush hG (v := 6) dX8_cell_78 (by decide) ?_
              refine rr_iload_n hG dX8_cell_80 1 rfl rfl ?_
              refine rr_iadd hG dX8_cell_81 ?_
              refine rr_iald hG dX8_cell_82 ⟨rfl, by decide⟩ hf (fun b18 hf => ?_)
              refine rr_cVI hG (st := []) (n := 1) (ci := 8) (rf := 0) (rl := 0) [.int (M3.1 83 ((6 : Int32) + a1).toNatClampNeg)] dX8_cell_83 hf ⟨rfl, by decide⟩ (by decide) rfl gX8_cell_X8_likeArea rfl (by decide +kernel) rfl ⟨by decide, by decide⟩ rfl (Nat.le_of_ble_eq_true rfl) (fun r9 M9 h9 => mX8_likeArea ph _ _ _ h9) (fun r20 M21 h19 hf => ?_)
              exact rr_iret hG hR dX8_cell_86 hf
            · rw [if_neg c17] at hf
              have kk : rm_L G 96 ph 3 87 [(0, .ref (ph 79)), (1, .int a1), (2, .int a2)] [] M3 := by
                refine rr_iconst hG (v := (-1)) dX8_cell_87 (by decide) ?_
                exact rr_iret hG hR dX8_cell_88 hf
              have hz : a2.toInt < 0 ∨ 4 < a2.toInt := by have n0 := lv_neT c5 (a := 0) (by decide); have n1 := lv_neT c7 (a := 1) (by decide); have n2 := lv_neT c9 (a := 2) (by decide); have n3 := lv_neT c13 (a := 3) (by decide); have n4 := lv_neT c17 (a := 4) (by decide); omega
              rcases hz with hz | hz
              · exact rr_tableOut hG (tgt := 87) dX8_cell_11 (Or.inl hz) (by decide) kk
              · exact rr_tableOut hG (tgt := 87) dX8_cell_11 (Or.inr hz) (by decide) kk
  · refine rr_iconst hG (v := (-1)) dX8_cell_8 (by decide) ?_
    exact rr_iret hG hR dX8_cell_9 hf
/-! X8.weight -/
theorem tX8_weight_X8 : ∀ w ∈ u_ws RX8 TX8 26, w ∈ wsX8_weight := by decide +kernel
theorem kX8_weight_13 : Cond.fieldLink RX8 13 "RingPagesModel" "weight" "[I" ∈ wsX8_weight := by decide +kernel
set_option maxHeartbeats 4000000 in
set_option maxRecDepth 100000 in
theorem mX8_weight (ph : Nat → Nat) (a1 : Int32) (a2 : Int32) (M : rm_M) (rho : Int32 × rm_M)  (hf : fX8_weight a1 a2 M = some rho) : rm_CI yX8_weight wsX8_weight 2 43 [.ref (ph 79), .int a1, .int a2] 96 ph M rho := by
  refine rm_metI (cc := cX8_weight) (maxL := 3) (by decide +kernel) rfl rfl (Nat.le_of_ble_eq_true rfl) rfl (fun G hG hR => ?_)
  unfold fX8_weight at hf
  refine rr_aload_n hG dX8_weight_0 0 rfl rfl ?_
  refine rr_iload_n hG dX8_weight_1 1 rfl rfl ?_
  refine rr_cVI hG (st := []) (n := 1) (ci := 8) (rf := 1) (rl := 22) [.int a1] dX8_weight_2 hf ⟨rfl, by decide⟩ (by decide) rfl gX8_weight_X8_isCell rfl (by decide +kernel) rfl ⟨by decide, by decide⟩ rfl (Nat.le_of_ble_eq_true rfl) (fun r9 M9 h9 => mX8_isCell ph _ _ _ h9) (fun r2 M3 h1 hf => ?_)
  refine rr_if_eq hG (tgt := 35) dX8_weight_5 (by decide) hf (fun c4 hf => ?_) (fun c4 hf => ?_)
  · refine rr_iconst hG (v := (-1)) dX8_weight_35 (by decide) ?_
    exact rr_iret hG hR dX8_weight_36 hf
  · refine rr_aload_n hG dX8_weight_8 0 rfl rfl ?_
    refine rr_iload_n hG dX8_weight_9 2 rfl rfl ?_
    refine rr_cVI hG (st := []) (n := 1) (ci := 8) (rf := 1) (rl := 22) [.int a2] dX8_weight_10 hf ⟨rfl, by decide⟩ (by decide) rfl gX8_weight_X8_isCell rfl (by decide +kernel) rfl ⟨by decide, by decide⟩ rfl (Nat.le_of_ble_eq_true rfl) (fun r9 M9 h9 => mX8_isCell ph _ _ _ h9) (fun r6 M7 h5 hf => ?_)
    refine rr_if_eq hG (tgt := 35) dX8_weight_13 (by decide) hf (fun c8 hf => ?_) (fun c8 hf => ?_)
    · refine rr_iconst hG (v := (-1)) dX8_weight_35 (by decide) ?_
      exact rr_iret hG hR dX8_weight_36 hf
    · refine rr_iload_n hG dX8_weight_16 1 rfl rfl ?_
      refine rr_iload_n hG dX8_weight_17 2 rfl rfl ?_
      refine rr_icmp_eq hG (tgt := 35) dX8_weight_18 (by decide) hf (fun c9 hf => ?_) (fun c9 hf => ?_)
      · refine rr_iconst hG (v := (-1)) dX8_weight_35 (by decide) ?_
        exact rr_iret hG hR dX8_weight_36 hf
      · refine rr_aload_n hG dX8_weight_21 0 rfl rfl ?_
        refine rr_get hG 8 4 (v := .ref (ph 81)) dX8_weight_22 ⟨rfl, by decide⟩ (by decide) rfl tX8_weight_X8 (by decide) kX8_weight_13 rfl rfl ?_
        refine rr_bipush hG (v := 6) dX8_weight_25 (by decide) ?_
        refine rr_iload_n hG dX8_weight_27 1 rfl rfl ?_
        refine rr_imul hG dX8_weight_28 ?_
        refine rr_iload_n hG dX8_weight_29 2 rfl rfl ?_
        refine rr_iadd hG dX8_weight_30 ?_
        refine rr_iald hG dX8_weight_31 ⟨rfl, by decide⟩ hf (fun b10 hf => ?_)
        refine rr_goto hG (tgt := 36) dX8_weight_32 (by decide) ?_
        exact rr_iret hG hR dX8_weight_36 hf
/-! X8.far -/
theorem tX8_far_X8 : ∀ w ∈ u_ws RX8 TX8 26, w ∈ wsX8_far := by decide +kernel
theorem kX8_far_76 : Cond.fieldLink RX8 76 "RingPagesModel" "cells" "I" ∈ wsX8_far := by decide +kernel
set_option maxHeartbeats 4000000 in
set_option maxRecDepth 100000 in
theorem wX8_far_L52 {G : rm_G} {ph : Nat → Nat} {rho : Int32 × rm_M} (a1 : Int32) (a2 : Int32) (hG : rm_k G 96 ph cX8_far RX8 wsX8_far 7 1 23) (hR : rm_rI G 96 ph .int rho)  (q7 : Int32 → Int32 → rm_M → Option (Int32 × rm_M)) (q21 : Int32 → Int32 → Int32 → Int32 → rm_M → Option (Int32 × rm_M)) (hq7 : ∀ (x3 : Int32) (x4 : Int32) (M : rm_M), q7 x3 x4 M = some rho → rm_L G 96 ph 7 7 [(0, .ref (ph 79)), (2, .int a2), (3, .int x3), (4, .int x4)] [] M) (hq21 : ∀ (x3 : Int32) (x4 : Int32) (x5 : Int32) (x6 : Int32) (M : rm_M), q21 x3 x4 x5 x6 M = some rho → rm_L G 96 ph 7 21 [(0, .ref (ph 79)), (2, .int a2), (3, .int x3), (4, .int x4), (5, .int x5), (6, .int x6)] [] M) : ∀ (x3 : Int32) (x4 : Int32) (x6 : Int32) (s0 : Int32) (s1 : Int32) (M : rm_M), fX8_far_L52 a1 a2 q7 q21 x3 x4 x6 s0 s1 M = some rho → rm_L G 96 ph 7 52 [(0, .ref (ph 79)), (2, .int a2), (3, .int x3), (4, .int x4), (6, .int x6)] [.int s1, .int s0] M := by
  intro x3 x4 x6 s0 s1 M hf
  unfold fX8_far_L52 at hf
  refine rr_ior hG dX8_far_52 ?_
  refine rr_bindI hf (fun v1 ev1 hf => ?_)
  refine rr_istore hG (lv2 := [(5, .int v1), (0, .ref (ph 79)), (2, .int a2), (3, .int x3), (4, .int x4), (6, .int x6)]) dX8_far_53 (by decide) rfl ?_
  refine rr_iinc hG (v := x6 + (1 : Int32)) (lv2 := [(6, .int (x6 + (1 : Int32))), (5, .int v1), (0, .ref (ph 79)), (2, .int a2), (3, .int x3), (4, .int x4)]) (k := 5) dX8_far_55 rfl rfl (by decide) rfl ?_
  refine rr_goto hG (tgt := 21) dX8_far_58 (by decide) ?_
  exact rr_sub (lv2 := [(0, .ref (ph 79)), (2, .int a2), (3, .int x3), (4, .int x4), (5, .int v1), (6, .int (x6 + (1 : Int32)))]) [2, 3, 4, 5, 1, 0] rfl (hq21 _ _ _ _ _ hf)
set_option maxHeartbeats 4000000 in
set_option maxRecDepth 100000 in
theorem wX8_far_L21 {G : rm_G} {ph : Nat → Nat} {rho : Int32 × rm_M} (a1 : Int32) (a2 : Int32) (hG : rm_k G 96 ph cX8_far RX8 wsX8_far 7 1 23) (hR : rm_rI G 96 ph .int rho)  (q7 : Int32 → Int32 → rm_M → Option (Int32 × rm_M)) (hq7 : ∀ (x3 : Int32) (x4 : Int32) (M : rm_M), q7 x3 x4 M = some rho → rm_L G 96 ph 7 7 [(0, .ref (ph 79)), (2, .int a2), (3, .int x3), (4, .int x4)] [] M) : ∀ (n : Nat) (x3 : Int32) (x4 : Int32) (x5 : Int32) (x6 : Int32) (M : rm_M), fX8_far_L21 a1 a2 q7 n x3 x4 x5 x6 M = some rho → rm_L G 96 ph 7 21 [(0, .ref (ph 79)), (2, .int a2), (3, .int x3), (4, .int x4), (5, .int x5), (6, .int x6)] [] M := by
  intro n
  induction n with
  | zero => intro x3 x4 x5 x6 M hf; rw [fX8_far_L21] at hf; cases hf
  | succ n ih =>
    intro x3 x4 x5 x6 M hf
    rw [fX8_far_L21] at hf
    refine rr_iload hG dX8_far_21 5 rfl ?_
    refine rr_aload_n hG dX8_far_23 0 rfl rfl ?_
    refine rr_get hG 8 2 dX8_far_24 ⟨rfl, by decide⟩ (by decide) rfl tX8_far_X8 (by decide) kX8_far_76 rfl rfl ?_
    refine rr_icmp_ge hG (tgt := 61) dX8_far_27 (by decide) hf (fun c2 hf => ?_) (fun c2 hf => ?_)
    · refine rr_iload hG dX8_far_61 4 rfl ?_
      refine rr_istore_n hG (lv2 := [(3, .int x5), (0, .ref (ph 79)), (2, .int a2), (4, .int x4), (5, .int x5), (6, .int x6)]) dX8_far_63 rfl (by decide) rfl ?_
      refine rr_iinc hG (v := x4 + (1 : Int32)) (lv2 := [(4, .int (x4 + (1 : Int32))), (3, .int x5), (0, .ref (ph 79)), (2, .int a2), (5, .int x5), (6, .int x6)]) (k := 3) dX8_far_64 rfl rfl (by decide) rfl ?_
      refine rr_goto hG (tgt := 7) dX8_far_67 (by decide) ?_
      exact rr_sub (lv2 := [(0, .ref (ph 79)), (2, .int a2), (3, .int x5), (4, .int (x4 + (1 : Int32)))]) [2, 3, 1, 0] rfl (hq7 _ _ _ hf)
    · refine rr_iload hG dX8_far_30 4 rfl ?_
      refine rr_iload_n hG dX8_far_32 2 rfl rfl ?_
      refine rr_iload hG dX8_far_33 5 rfl ?_
      refine rr_ishr hG dX8_far_35 ?_
      refine rr_iconst hG (v := 1) dX8_far_36 (by decide) ?_
      refine rr_iand hG dX8_far_37 ?_
      refine rr_iconst hG (v := 1) dX8_far_38 (by decide) ?_
      refine rr_icmp_ne hG (tgt := 51) dX8_far_39 (by decide) hf (fun c3 hf => ?_) (fun c3 hf => ?_)
      · refine rr_iconst hG (v := 0) dX8_far_51 (by decide) ?_
        exact rr_sub (lv2 := [(0, .ref (ph 79)), (2, .int a2), (3, .int x3), (4, .int x4), (6, .int x6)]) [0, 1, 2, 3, 5] rfl (wX8_far_L52 _ _ hG hR _ _ (hq7) (ih) _ _ _ _ _ _ hf)
      · refine rr_aload_n hG dX8_far_42 0 rfl rfl ?_
        refine rr_iload hG dX8_far_43 5 rfl ?_
        refine rr_cVI hG (st := [.int x5]) (n := 1) (ci := 8) (rf := 0) (rl := 0) [.int x6] dX8_far_45 hf ⟨rfl, by decide⟩ (by decide) rfl gX8_far_X8_joined rfl (by decide +kernel) rfl ⟨by decide, by decide⟩ rfl (Nat.le_of_ble_eq_true rfl) (fun r9 M9 h9 => mX8_joined ph _ _ _ h9) (fun r5 M6 h4 hf => ?_)
        refine rr_goto hG (tgt := 52) dX8_far_48 (by decide) ?_
        exact rr_sub (lv2 := [(0, .ref (ph 79)), (2, .int a2), (3, .int x3), (4, .int x4), (6, .int x6)]) [0, 1, 2, 3, 5] rfl (wX8_far_L52 _ _ hG hR _ _ (hq7) (ih) _ _ _ _ _ _ hf)
set_option maxHeartbeats 4000000 in
set_option maxRecDepth 100000 in
theorem wX8_far_L7 {G : rm_G} {ph : Nat → Nat} {rho : Int32 × rm_M} (a1 : Int32) (a2 : Int32) (hG : rm_k G 96 ph cX8_far RX8 wsX8_far 7 1 23) (hR : rm_rI G 96 ph .int rho)    : ∀ (n : Nat) (x3 : Int32) (x4 : Int32) (M : rm_M), fX8_far_L7 a1 a2 n x3 x4 M = some rho → rm_L G 96 ph 7 7 [(0, .ref (ph 79)), (2, .int a2), (3, .int x3), (4, .int x4)] [] M := by
  intro n
  induction n with
  | zero => intro x3 x4 M hf; rw [fX8_far_L7] at hf; cases hf
  | succ n ih =>
    intro x3 x4 M hf
    rw [fX8_far_L7] at hf
    refine rr_iload_n hG dX8_far_7 2 rfl rfl ?_
    refine rr_iload_n hG dX8_far_8 1 rfl rfl ?_
    refine rr_ishr hG dX8_far_9 ?_
    refine rr_iconst hG (v := 1) dX8_far_10 (by decide) ?_
    refine rr_iand hG dX8_far_11 ?_
    refine rr_if_ne hG (tgt := 70) dX8_far_12 (by decide) hf (fun c7 hf => ?_) (fun c7 hf => ?_)
    · refine rr_iload hG dX8_far_70 3 rfl ?_
      exact rr_iret hG hR dX8_far_72 hf
    · refine rr_iload_n hG dX8_far_15 2 rfl rfl ?_
      refine rr_istore hG (lv2 := [(5, .int x3), (0, .ref (ph 79)), (2, .int a2), (3, .int x3), (4, .int x4)]) dX8_far_16 (by decide) rfl ?_
      refine rr_iconst hG (v := 0) dX8_far_18 (by decide) ?_
      refine rr_istore hG (lv2 := [(6, .int (0 : Int32)), (5, .int x3), (0, .ref (ph 79)), (2, .int a2), (3, .int x3), (4, .int x4)]) dX8_far_19 (by decide) rfl ?_
      exact rr_sub (lv2 := [(0, .ref (ph 79)), (2, .int a2), (3, .int x3), (4, .int x4), (5, .int x3), (6, .int (0 : Int32))]) [2, 3, 4, 5, 1, 0] rfl (wX8_far_L21 _ _ hG hR _ (ih) _ _ _ _ _ _ hf)
set_option maxHeartbeats 4000000 in
set_option maxRecDepth 100000 in
theorem mX8_far (ph : Nat → Nat) (a1 : Int32) (a2 : Int32) (M : rm_M) (rho : Int32 × rm_M)  (hf : fX8_far a1 a2 M = some rho) : rm_CI yX8_far wsX8_far 1 23 [.ref (ph 79), .int a1, .int a2] 96 ph M rho := by
  refine rm_metI (cc := cX8_far) (maxL := 7) (by decide +kernel) rfl rfl (Nat.le_of_ble_eq_true rfl) rfl (fun G hG hR => ?_)
  unfold fX8_far at hf
  refine rr_iconst hG (v := 1) dX8_far_0 (by decide) ?_
  refine rr_iload_n hG dX8_far_1 1 rfl rfl ?_
  refine rr_ishl hG dX8_far_2 ?_
  refine rr_bindI hf (fun v8 ev8 hf => ?_)
  refine rr_istore_n hG (lv2 := [(3, .int v8), (0, .ref (ph 79)), (1, .int a1), (2, .int a2)]) dX8_far_3 rfl (by decide) rfl ?_
  refine rr_iconst hG (v := 0) dX8_far_4 (by decide) ?_
  refine rr_istore hG (lv2 := [(4, .int (0 : Int32)), (3, .int v8), (0, .ref (ph 79)), (1, .int a1), (2, .int a2)]) dX8_far_5 (by decide) rfl ?_
  exact rr_sub (lv2 := [(0, .ref (ph 79)), (2, .int a2), (3, .int v8), (4, .int (0 : Int32))]) [2, 4, 1, 0] rfl (wX8_far_L7 _ _ hG hR _ _ _ _ hf)
/-! X8.wide -/
set_option maxHeartbeats 4000000 in
set_option maxRecDepth 100000 in
theorem mX8_wide (ph : Nat → Nat) (a1 : Int32) (a2 : Int32) (M : rm_M) (rho : Int32 × rm_M)  (hf : fX8_wide a1 a2 M = some rho) : rm_CI yX8_wide wsX8_wide 2 49 [.ref (ph 79), .int a1, .int a2] 96 ph M rho := by
  refine rm_metI (cc := cX8_wide) (maxL := 3) (by decide +kernel) rfl rfl (Nat.le_of_ble_eq_true rfl) rfl (fun G hG hR => ?_)
  unfold fX8_wide at hf
  refine rr_aload_n hG dX8_wide_0 0 rfl rfl ?_
  refine rr_iload_n hG dX8_wide_1 1 rfl rfl ?_
  refine rr_cVI hG (st := []) (n := 1) (ci := 8) (rf := 1) (rl := 22) [.int a1] dX8_wide_2 hf ⟨rfl, by decide⟩ (by decide) rfl gX8_wide_X8_isCell rfl (by decide +kernel) rfl ⟨by decide, by decide⟩ rfl (Nat.le_of_ble_eq_true rfl) (fun r9 M9 h9 => mX8_isCell ph _ _ _ h9) (fun r2 M3 h1 hf => ?_)
  refine rr_if_eq hG (tgt := 25) dX8_wide_5 (by decide) hf (fun c4 hf => ?_) (fun c4 hf => ?_)
  · refine rr_iconst hG (v := (-1)) dX8_wide_25 (by decide) ?_
    exact rr_iret hG hR dX8_wide_26 hf
  · refine rr_aload_n hG dX8_wide_8 0 rfl rfl ?_
    refine rr_iload_n hG dX8_wide_9 2 rfl rfl ?_
    refine rr_cVI hG (st := []) (n := 1) (ci := 8) (rf := 1) (rl := 22) [.int a2] dX8_wide_10 hf ⟨rfl, by decide⟩ (by decide) rfl gX8_wide_X8_isCell rfl (by decide +kernel) rfl ⟨by decide, by decide⟩ rfl (Nat.le_of_ble_eq_true rfl) (fun r9 M9 h9 => mX8_isCell ph _ _ _ h9) (fun r6 M7 h5 hf => ?_)
    refine rr_if_eq hG (tgt := 25) dX8_wide_13 (by decide) hf (fun c8 hf => ?_) (fun c8 hf => ?_)
    · refine rr_iconst hG (v := (-1)) dX8_wide_25 (by decide) ?_
      exact rr_iret hG hR dX8_wide_26 hf
    · refine rr_aload_n hG dX8_wide_16 0 rfl rfl ?_
      refine rr_iload_n hG dX8_wide_17 1 rfl rfl ?_
      refine rr_iload_n hG dX8_wide_18 2 rfl rfl ?_
      refine rr_cVI hG (st := []) (n := 2) (ci := 8) (rf := 1) (rl := 23) [.int a1, .int a2] dX8_wide_19 hf ⟨rfl, by decide⟩ (by decide) rfl gX8_wide_X8_far rfl (by decide +kernel) rfl ⟨by decide, by decide⟩ rfl (Nat.le_of_ble_eq_true rfl) (fun r9 M9 h9 => mX8_far ph _ _ _ _ h9) (fun r10 M11 h9 hf => ?_)
      refine rr_goto hG (tgt := 26) dX8_wide_22 (by decide) ?_
      exact rr_iret hG hR dX8_wide_26 hf
/-! X8.isDue -/
theorem tX8_isDue_X8 : ∀ w ∈ u_ws RX8 TX8 26, w ∈ wsX8_isDue := by decide +kernel
theorem kX8_isDue_19 : Cond.fieldLink RX8 19 "RingPagesModel" "now" "[I" ∈ wsX8_isDue := by decide +kernel
set_option maxHeartbeats 4000000 in
set_option maxRecDepth 100000 in
theorem mX8_isDue (ph : Nat → Nat) (a1 : Nat) (M : rm_M) (rho : Int32 × rm_M) (ka1 : rm_kq 96 a1 (9, (rm_kd a1).2)) (hf : fX8_isDue a1 M = some rho) : rm_CI yX8_isDue wsX8_isDue 2 49 [.ref (ph 79), .ref (ph a1)] 96 ph M rho := by
  refine rm_metI (cc := cX8_isDue) (maxL := 2) (by decide +kernel) rfl rfl (Nat.le_of_ble_eq_true rfl) rfl (fun G hG hR => ?_)
  unfold fX8_isDue at hf
  refine rr_aload_n hG dX8_isDue_0 0 rfl rfl ?_
  refine rr_get hG 8 6 (v := .ref (ph 83)) dX8_isDue_1 ⟨rfl, by decide⟩ (by decide) rfl tX8_isDue_X8 (by decide) kX8_isDue_19 rfl rfl ?_
  refine rr_bipush hG (v := 12) dX8_isDue_4 (by decide) ?_
  refine rr_iald hG dX8_isDue_6 ⟨rfl, by decide⟩ hf (fun b1 hf => ?_)
  refine rr_bindI hf (fun v2 ev2 hf => ?_)
  by_cases c3 : v2 = 0
  · rw [if_pos c3] at hf
    refine rr_tableIn hG (tgt := 32) (0) dX8_isDue_7 (by rw [c3]; decide) (by decide) (by decide) rfl (by decide) ?_
    refine rr_aload_n hG dX8_isDue_32 0 rfl rfl ?_
    refine rr_get hG 8 6 (v := .ref (ph 83)) dX8_isDue_33 ⟨rfl, by decide⟩ (by decide) rfl tX8_isDue_X8 (by decide) kX8_isDue_19 rfl rfl ?_
    refine rr_bipush hG (v := 6) dX8_isDue_36 (by decide) ?_
    refine rr_aload_n hG dX8_isDue_38 1 rfl rfl ?_
    refine rr_bipush hG (v := 14) dX8_isDue_39 (by decide) ?_
    refine rr_iald hG dX8_isDue_41 ka1 hf (fun b4 hf => ?_)
    refine rr_iadd hG dX8_isDue_42 ?_
    refine rr_iald hG dX8_isDue_43 ⟨rfl, by decide⟩ hf (fun b5 hf => ?_)
    refine rr_aload_n hG dX8_isDue_44 0 rfl rfl ?_
    refine rr_get hG 8 6 (v := .ref (ph 83)) dX8_isDue_45 ⟨rfl, by decide⟩ (by decide) rfl tX8_isDue_X8 (by decide) kX8_isDue_19 rfl rfl ?_
    refine rr_bipush hG (v := 6) dX8_isDue_48 (by decide) ?_
    refine rr_aload_n hG dX8_isDue_50 1 rfl rfl ?_
    refine rr_bipush hG (v := 15) dX8_isDue_51 (by decide) ?_
    refine rr_iald hG dX8_isDue_53 ka1 hf (fun b6 hf => ?_)
    refine rr_iadd hG dX8_isDue_54 ?_
    refine rr_iald hG dX8_isDue_55 ⟨rfl, by decide⟩ hf (fun b7 hf => ?_)
    refine rr_icmp_eq hG (tgt := 63) dX8_isDue_56 (by decide) hf (fun c8 hf => ?_) (fun c8 hf => ?_)
    · refine rr_iconst hG (v := 0) dX8_isDue_63 (by decide) ?_
      exact rr_zret hG hR dX8_isDue_64 hf
    · refine rr_iconst hG (v := 1) dX8_isDue_59 (by decide) ?_
      refine rr_goto hG (tgt := 64) dX8_isDue_60 (by decide) ?_
      exact rr_zret hG hR dX8_isDue_64 hf
  · rw [if_neg c3] at hf
    by_cases c9 : v2 = 1
    · rw [if_pos c9] at hf
      refine rr_tableIn hG (tgt := 65) (1) dX8_isDue_7 (by rw [c9]; decide) (by decide) (by decide) rfl (by decide) ?_
      refine rr_aload_n hG dX8_isDue_65 1 rfl rfl ?_
      refine rr_bipush hG (v := 16) dX8_isDue_66 (by decide) ?_
      refine rr_iald hG dX8_isDue_68 ka1 hf (fun b10 hf => ?_)
      refine rr_aload_n hG dX8_isDue_69 0 rfl rfl ?_
      refine rr_get hG 8 6 (v := .ref (ph 83)) dX8_isDue_70 ⟨rfl, by decide⟩ (by decide) rfl tX8_isDue_X8 (by decide) kX8_isDue_19 rfl rfl ?_
      refine rr_bipush hG (v := 13) dX8_isDue_73 (by decide) ?_
      refine rr_iald hG dX8_isDue_75 ⟨rfl, by decide⟩ hf (fun b11 hf => ?_)
      refine rr_icmp_lt hG (tgt := 83) dX8_isDue_76 (by decide) hf (fun c12 hf => ?_) (fun c12 hf => ?_)
      · refine rr_iconst hG (v := 0) dX8_isDue_83 (by decide) ?_
        exact rr_zret hG hR dX8_isDue_84 hf
      · refine rr_iconst hG (v := 1) dX8_isDue_79 (by decide) ?_
        refine rr_goto hG (tgt := 84) dX8_isDue_80 (by decide) ?_
        exact rr_zret hG hR dX8_isDue_84 hf
    · rw [if_neg c9] at hf
      by_cases c13 : v2 = 2
      · rw [if_pos c13] at hf
        refine rr_tableIn hG (tgt := 85) (2) dX8_isDue_7 (by rw [c13]; decide) (by decide) (by decide) rfl (by decide) ?_
        refine rr_aload_n hG dX8_isDue_85 1 rfl rfl ?_
        refine rr_bipush hG (v := 17) dX8_isDue_86 (by decide) ?_
        refine rr_iald hG dX8_isDue_88 ka1 hf (fun b14 hf => ?_)
        refine rr_aload_n hG dX8_isDue_89 0 rfl rfl ?_
        refine rr_get hG 8 6 (v := .ref (ph 83)) dX8_isDue_90 ⟨rfl, by decide⟩ (by decide) rfl tX8_isDue_X8 (by decide) kX8_isDue_19 rfl rfl ?_
        refine rr_bipush hG (v := 13) dX8_isDue_93 (by decide) ?_
        refine rr_iald hG dX8_isDue_95 ⟨rfl, by decide⟩ hf (fun b15 hf => ?_)
        refine rr_icmp_lt hG (tgt := 103) dX8_isDue_96 (by decide) hf (fun c16 hf => ?_) (fun c16 hf => ?_)
        · refine rr_iconst hG (v := 0) dX8_isDue_103 (by decide) ?_
          exact rr_zret hG hR dX8_isDue_104 hf
        · refine rr_iconst hG (v := 1) dX8_isDue_99 (by decide) ?_
          refine rr_goto hG (tgt := 104) dX8_isDue_100 (by decide) ?_
          exact rr_zret hG hR dX8_isDue_104 hf
      · rw [if_neg c13] at hf
        have kk : rm_L G 96 ph 2 105 [(0, .ref (ph 79)), (1, .ref (ph a1))] [] M := by
          refine rr_aload_n hG dX8_isDue_105 0 rfl rfl ?_
          refine rr_aload_n hG dX8_isDue_106 1 rfl rfl ?_
          refine rr_bipush hG (v := 14) dX8_isDue_107 (by decide) ?_
          refine rr_iald hG dX8_isDue_109 ka1 hf (fun b17 hf => ?_)
          refine rr_aload_n hG dX8_isDue_110 1 rfl rfl ?_
          refine rr_bipush hG (v := 15) dX8_isDue_111 (by decide) ?_
          refine rr_iald hG dX8_isDue_113 ka1 hf (fun b18 hf => ?_)
          refine rr_cVI hG (st := []) (n := 2) (ci := 8) (rf := 1) (rl := 23) [.int (M.1 a1 ((14 : Int32)).toNatClampNeg), .int (M.1 a1 ((15 : Int32)).toNatClampNeg)] dX8_isDue_114 hf ⟨rfl, by decide⟩ (by decide) rfl gX8_isDue_X8_far rfl (by decide +kernel) rfl ⟨by decide, by decide⟩ rfl (Nat.le_of_ble_eq_true rfl) (fun r9 M9 h9 => mX8_far ph _ _ _ _ h9) (fun r20 M21 h19 hf => ?_)
          refine rr_aload_n hG dX8_isDue_117 0 rfl rfl ?_
          refine rr_get hG 8 6 (v := .ref (ph 83)) dX8_isDue_118 ⟨rfl, by decide⟩ (by decide) rfl tX8_isDue_X8 (by decide) kX8_isDue_19 rfl rfl ?_
          refine rr_bipush hG (v := 13) dX8_isDue_121 (by decide) ?_
          refine rr_iald hG dX8_isDue_123 ⟨rfl, by decide⟩ hf (fun b22 hf => ?_)
          refine rr_icmp_lt hG (tgt := 131) dX8_isDue_124 (by decide) hf (fun c23 hf => ?_) (fun c23 hf => ?_)
          · refine rr_iconst hG (v := 0) dX8_isDue_131 (by decide) ?_
            exact rr_zret hG hR dX8_isDue_132 hf
          · refine rr_iconst hG (v := 1) dX8_isDue_127 (by decide) ?_
            refine rr_goto hG (tgt := 132) dX8_isDue_128 (by decide) ?_
            exact rr_zret hG hR dX8_isDue_132 hf
        have hz : v2.toInt < 0 ∨ 2 < v2.toInt := by have n0 := lv_neT c3 (a := 0) (by decide); have n1 := lv_neT c9 (a := 1) (by decide); have n2 := lv_neT c13 (a := 2) (by decide); omega
        rcases hz with hz | hz
        · exact rr_tableOut hG (tgt := 105) dX8_isDue_7 (Or.inl hz) (by decide) kk
        · exact rr_tableOut hG (tgt := 105) dX8_isDue_7 (Or.inr hz) (by decide) kk
/-! X8.goes -/
set_option maxHeartbeats 4000000 in
set_option maxRecDepth 100000 in
theorem wX8_goes_L18 {G : rm_G} {ph : Nat → Nat} {rho : Int32 × rm_M} (a1 : Nat) (a2 : Int32) (hG : rm_k G 96 ph cX8_goes RX8 wsX8_goes 3 3 70) (hR : rm_rI G 96 ph .int rho) (ka1 : rm_kq 96 a1 (9, (rm_kd a1).2))   : ∀ (s1 : Int32) (s2 : Int32) (s3 : Int32) (M : rm_M), fX8_goes_L18 a1 a2 s1 s2 s3 M = some rho → rm_L G 96 ph 3 18 [(0, .ref (ph 79)), (1, .ref (ph a1)), (2, .int a2)] [.int s3, .int s2, .int s1, .ref (ph a1)] M := by
  intro s1 s2 s3 M hf
  unfold fX8_goes_L18 at hf
  refine rr_iadd hG dX8_goes_18 ?_
  refine rr_iast hG dX8_goes_19 ka1 hf (fun b1 hf => ?_)
  refine rr_bindM hf (fun M2 eM2 hf => ?_)
  refine rr_aload_n hG dX8_goes_20 1 rfl rfl ?_
  refine rr_bipush hG (v := 14) dX8_goes_21 (by decide) ?_
  refine rr_iload_n hG dX8_goes_23 2 rfl rfl ?_
  refine rr_iast hG dX8_goes_24 ka1 hf (fun b3 hf => ?_)
  refine rr_bindM hf (fun M4 eM4 hf => ?_)
  refine rr_aload_n hG dX8_goes_25 1 rfl rfl ?_
  refine rr_bipush hG (v := 17) dX8_goes_26 (by decide) ?_
  refine rr_dup2 hG dX8_goes_28 rfl rfl ?_
  refine rr_iald hG dX8_goes_29 ka1 hf (fun b5 hf => ?_)
  refine rr_iconst hG (v := 1) dX8_goes_30 (by decide) ?_
  refine rr_iadd hG dX8_goes_31 ?_
  refine rr_iast hG dX8_goes_32 ka1 hf (fun b6 hf => ?_)
  refine rr_bindM hf (fun M7 eM7 hf => ?_)
  refine rr_aload_n hG dX8_goes_33 0 rfl rfl ?_
  refine rr_aload_n hG dX8_goes_34 1 rfl rfl ?_
  refine rr_cVI hG (st := []) (n := 1) (ci := 8) (rf := 2) (rl := 49) [.ref (ph a1)] dX8_goes_35 hf ⟨rfl, by decide⟩ (by decide) rfl gX8_goes_X8_isDue rfl (by decide +kernel) rfl ⟨by decide, by decide⟩ rfl (Nat.le_of_ble_eq_true rfl) (fun r9 M9 h9 => mX8_isDue ph _ _ _ (rm_kself ka1) h9) (fun r9 M10 h8 hf => ?_)
  refine rr_if_ne hG (tgt := 43) dX8_goes_38 (by decide) hf (fun c11 hf => ?_) (fun c11 hf => ?_)
  · refine rr_aload_n hG dX8_goes_43 1 rfl rfl ?_
    refine rr_bipush hG (v := 18) dX8_goes_44 (by decide) ?_
    refine rr_dup2 hG dX8_goes_46 rfl rfl ?_
    refine rr_iald hG dX8_goes_47 ka1 hf (fun b12 hf => ?_)
    refine rr_iconst hG (v := 1) dX8_goes_48 (by decide) ?_
    refine rr_iadd hG dX8_goes_49 ?_
    refine rr_iast hG dX8_goes_50 ka1 hf (fun b13 hf => ?_)
    refine rr_bindM hf (fun M14 eM14 hf => ?_)
    refine rr_aload_n hG dX8_goes_51 1 rfl rfl ?_
    refine rr_cSV hG (st := []) (n := 1) (rf := 0) (rl := 0) [.ref (ph a1)] dX8_goes_52 hf gX8_goes_X8_registers rfl (by decide +kernel) rfl ⟨by decide, by decide⟩ rfl (Nat.le_of_ble_eq_true rfl) (fun M9 h9 => mX8_registers ph _ _ _ (rm_kself ka1) h9) (fun M16 h15 hf => ?_)
    refine rr_iconst hG (v := 1) dX8_goes_55 (by decide) ?_
    exact rr_iret hG hR dX8_goes_56 hf
  · refine rr_iconst hG (v := 0) dX8_goes_41 (by decide) ?_
    exact rr_iret hG hR dX8_goes_42 hf
set_option maxHeartbeats 4000000 in
set_option maxRecDepth 100000 in
theorem mX8_goes (ph : Nat → Nat) (a1 : Nat) (a2 : Int32) (M : rm_M) (rho : Int32 × rm_M) (ka1 : rm_kq 96 a1 (9, (rm_kd a1).2)) (hf : fX8_goes a1 a2 M = some rho) : rm_CI yX8_goes wsX8_goes 3 70 [.ref (ph 79), .ref (ph a1), .int a2] 96 ph M rho := by
  refine rm_metI (cc := cX8_goes) (maxL := 3) (by decide +kernel) rfl rfl (Nat.le_of_ble_eq_true rfl) rfl (fun G hG hR => ?_)
  unfold fX8_goes at hf
  refine rr_aload_n hG dX8_goes_0 1 rfl rfl ?_
  refine rr_bipush hG (v := 16) dX8_goes_1 (by decide) ?_
  refine rr_dup2 hG dX8_goes_3 rfl rfl ?_
  refine rr_iald hG dX8_goes_4 ka1 hf (fun b17 hf => ?_)
  refine rr_iload_n hG dX8_goes_5 2 rfl rfl ?_
  refine rr_aload_n hG dX8_goes_6 1 rfl rfl ?_
  refine rr_bipush hG (v := 14) dX8_goes_7 (by decide) ?_
  refine rr_iald hG dX8_goes_9 ka1 hf (fun b18 hf => ?_)
  refine rr_icmp_ne hG (tgt := 17) dX8_goes_10 (by decide) hf (fun c19 hf => ?_) (fun c19 hf => ?_)
  · refine rr_iconst hG (v := 1) dX8_goes_17 (by decide) ?_
    exact rr_sub (lv2 := [(0, .ref (ph 79)), (1, .ref (ph a1)), (2, .int a2)]) [0, 1, 2] rfl (wX8_goes_L18 _ _ hG hR ka1 _ _ _ _ hf)
  · refine rr_iconst hG (v := 0) dX8_goes_13 (by decide) ?_
    refine rr_goto hG (tgt := 18) dX8_goes_14 (by decide) ?_
    exact rr_sub (lv2 := [(0, .ref (ph 79)), (1, .ref (ph a1)), (2, .int a2)]) [0, 1, 2] rfl (wX8_goes_L18 _ _ hG hR ka1 _ _ _ _ hf)
/-! X8.tick -/
theorem tX8_tick_X8 : ∀ w ∈ u_ws RX8 TX8 26, w ∈ wsX8_tick := by decide +kernel
theorem kX8_tick_19 : Cond.fieldLink RX8 19 "RingPagesModel" "now" "[I" ∈ wsX8_tick := by decide +kernel
theorem kX8_tick_13 : Cond.fieldLink RX8 13 "RingPagesModel" "weight" "[I" ∈ wsX8_tick := by decide +kernel
set_option maxHeartbeats 4000000 in
set_option maxRecDepth 100000 in
theorem wX8_tick_L52 {G : rm_G} {ph : Nat → Nat} {rho : Int32 × rm_M} (a1 : Int32) (hG : rm_k G 96 ph cX8_tick RX8 wsX8_tick 3 4 92) (hR : rm_rI G 96 ph .int rho)    : ∀  (M : rm_M), fX8_tick_L52 a1 M = some rho → rm_L G 96 ph 3 52 [(0, .ref (ph 79)), (1, .int a1)] [] M := by
  intro M hf
  unfold fX8_tick_L52 at hf
  refine rr_aload_n hG dX8_tick_52 0 rfl rfl ?_
  refine rr_cVV hG (st := []) (n := 0) (ci := 8) (rf := 0) (rl := 0) [] dX8_tick_53 hf ⟨rfl, by decide⟩ (by decide) rfl gX8_tick_X8_keeps rfl (by decide +kernel) rfl ⟨by decide, by decide⟩ rfl (Nat.le_of_ble_eq_true rfl) (fun M9 h9 => mX8_keeps ph _ _ h9) (fun M2 h1 hf => ?_)
  refine rr_aload_n hG dX8_tick_56 0 rfl rfl ?_
  refine rr_aload_n hG dX8_tick_57 0 rfl rfl ?_
  refine rr_get hG 8 6 (v := .ref (ph 83)) dX8_tick_58 ⟨rfl, by decide⟩ (by decide) rfl tX8_tick_X8 (by decide) kX8_tick_19 rfl rfl ?_
  refine rr_iload_n hG dX8_tick_61 1 rfl rfl ?_
  refine rr_cVI hG (st := []) (n := 2) (ci := 8) (rf := 3) (rl := 70) [.ref (ph 83), .int a1] dX8_tick_62 hf ⟨rfl, by decide⟩ (by decide) rfl gX8_tick_X8_goes rfl (by decide +kernel) rfl ⟨by decide, by decide⟩ rfl (Nat.le_of_ble_eq_true rfl) (fun r9 M9 h9 => mX8_goes ph _ _ _ _ (rm_kself ⟨rfl, by decide⟩) h9) (fun r4 M5 h3 hf => ?_)
  exact rr_iret hG hR dX8_tick_65 hf
set_option maxHeartbeats 4000000 in
set_option maxRecDepth 100000 in
theorem mX8_tick (ph : Nat → Nat) (a1 : Int32) (M : rm_M) (rho : Int32 × rm_M)  (hf : fX8_tick a1 M = some rho) : rm_CI yX8_tick wsX8_tick 4 92 [.ref (ph 79), .int a1] 96 ph M rho := by
  refine rm_metI (cc := cX8_tick) (maxL := 3) (by decide +kernel) rfl rfl (Nat.le_of_ble_eq_true rfl) rfl (fun G hG hR => ?_)
  unfold fX8_tick at hf
  refine rr_aload_n hG dX8_tick_0 0 rfl rfl ?_
  refine rr_iload_n hG dX8_tick_1 1 rfl rfl ?_
  refine rr_cVI hG (st := []) (n := 1) (ci := 8) (rf := 1) (rl := 22) [.int a1] dX8_tick_2 hf ⟨rfl, by decide⟩ (by decide) rfl gX8_tick_X8_isCell rfl (by decide +kernel) rfl ⟨by decide, by decide⟩ rfl (Nat.le_of_ble_eq_true rfl) (fun r9 M9 h9 => mX8_isCell ph _ _ _ h9) (fun r7 M8 h6 hf => ?_)
  refine rr_if_ne hG (tgt := 10) dX8_tick_5 (by decide) hf (fun c9 hf => ?_) (fun c9 hf => ?_)
  · refine rr_aload_n hG dX8_tick_10 0 rfl rfl ?_
    refine rr_get hG 8 6 (v := .ref (ph 83)) dX8_tick_11 ⟨rfl, by decide⟩ (by decide) rfl tX8_tick_X8 (by decide) kX8_tick_19 rfl rfl ?_
    refine rr_bipush hG (v := 14) dX8_tick_14 (by decide) ?_
    refine rr_iald hG dX8_tick_16 ⟨rfl, by decide⟩ hf (fun b10 hf => ?_)
    refine rr_bindI hf (fun v11 ev11 hf => ?_)
    refine rr_istore_n hG (lv2 := [(2, .int v11), (0, .ref (ph 79)), (1, .int a1)]) dX8_tick_17 rfl (by decide) rfl ?_
    refine rr_iload_n hG dX8_tick_18 2 rfl rfl ?_
    refine rr_iload_n hG dX8_tick_19 0 rfl rfl ?_
    refine rr_icmp_ne hG (tgt := 35) dX8_tick_20 (by decide) hf (fun c12 hf => ?_) (fun c12 hf => ?_)
    · refine rr_aload_n hG dX8_tick_35 1 rfl rfl ?_
      refine rr_get hG 8 4 (v := .ref (ph 81)) dX8_tick_36 ⟨rfl, by decide⟩ (by decide) rfl tX8_tick_X8 (by decide) kX8_tick_13 rfl rfl ?_
      refine rr_bipush hG (v := 6) dX8_tick_39 (by decide) ?_
      refine rr_iload_n hG dX8_tick_41 0 rfl rfl ?_
      refine rr_imul hG dX8_tick_42 ?_
      refine rr_iload_n hG dX8_tick_43 2 rfl rfl ?_
      refine rr_iadd hG dX8_tick_44 ?_
      refine rr_iald hG dX8_tick_45 ⟨rfl, by decide⟩ hf (fun b13 hf => ?_)
      refine rr_if_ne hG (tgt := 52) dX8_tick_46 (by decide) hf (fun c14 hf => ?_) (fun c14 hf => ?_)
      · exact rr_sub (lv2 := [(0, .ref (ph 79)), (1, .int a1)]) [1, 2] rfl (wX8_tick_L52 _ hG hR _ hf)
      · refine rr_bipush hG (v := (-2)) dX8_tick_49 (by decide) ?_
        exact rr_iret hG hR dX8_tick_51 hf
    · refine rr_aload_n hG dX8_tick_23 1 rfl rfl ?_
      refine rr_get hG 8 6 (v := .ref (ph 83)) dX8_tick_24 ⟨rfl, by decide⟩ (by decide) rfl tX8_tick_X8 (by decide) kX8_tick_19 rfl rfl ?_
      refine rr_iload_n hG dX8_tick_27 2 rfl rfl ?_
      refine rr_iald hG dX8_tick_28 ⟨rfl, by decide⟩ hf (fun b15 hf => ?_)
      refine rr_if_ne hG (tgt := 52) dX8_tick_29 (by decide) hf (fun c16 hf => ?_) (fun c16 hf => ?_)
      · exact rr_sub (lv2 := [(0, .ref (ph 79)), (1, .int a1)]) [1, 2] rfl (wX8_tick_L52 _ hG hR _ hf)
      · refine rr_goto hG (tgt := 49) dX8_tick_32 (by decide) ?_
        refine rr_bipush hG (v := (-2)) dX8_tick_49 (by decide) ?_
        exact rr_iret hG hR dX8_tick_51 hf
  · refine rr_iconst hG (v := (-1)) dX8_tick_8 (by decide) ?_
    exact rr_iret hG hR dX8_tick_9 hf
/-! X8.handset -/
theorem tX8_handset_X8 : ∀ w ∈ u_ws RX8 TX8 26, w ∈ wsX8_handset := by decide +kernel
theorem kX8_handset_16 : Cond.fieldLink RX8 16 "RingPagesModel" "price" "[I" ∈ wsX8_handset := by decide +kernel
theorem kX8_handset_19 : Cond.fieldLink RX8 19 "RingPagesModel" "now" "[I" ∈ wsX8_handset := by decide +kernel
set_option maxHeartbeats 4000000 in
set_option maxRecDepth 100000 in
theorem mX8_handset (ph : Nat → Nat) (a1 : Int32) (M : rm_M) (rho : Int32 × rm_M)  (hf : fX8_handset a1 M = some rho) : rm_CI yX8_handset wsX8_handset 1 22 [.ref (ph 79), .int a1] 96 ph M rho := by
  refine rm_metI (cc := cX8_handset) (maxL := 2) (by decide +kernel) rfl rfl (Nat.le_of_ble_eq_true rfl) rfl (fun G hG hR => ?_)
  unfold fX8_handset at hf
  refine rr_iload_n hG dX8_handset_0 1 rfl rfl ?_
  refine rr_iconst hG (v := 0) dX8_handset_1 (by decide) ?_
  refine rr_bipush hG (v := 6) dX8_handset_2 (by decide) ?_
  refine rr_cSI hG (st := []) (n := 3) (rf := 0) (rl := 0) [.int a1, .int (0 : Int32), .int (6 : Int32)] dX8_handset_4 hf gX8_handset_X8_isIn rfl (by decide +kernel) rfl ⟨by decide, by decide⟩ rfl (Nat.le_of_ble_eq_true rfl) (fun r9 M9 h9 => mX8_isIn ph _ _ _ _ _ h9) (fun r2 M3 h1 hf => ?_)
  refine rr_if_ne hG (tgt := 12) dX8_handset_7 (by decide) hf (fun c4 hf => ?_) (fun c4 hf => ?_)
  · refine rr_iload_n hG dX8_handset_12 1 rfl rfl ?_
    refine rr_bipush hG (v := 6) dX8_handset_13 (by decide) ?_
    refine rr_icmp_ge hG (tgt := 30) dX8_handset_15 (by decide) hf (fun c5 hf => ?_) (fun c5 hf => ?_)
    · refine rr_aload_n hG dX8_handset_30 0 rfl rfl ?_
      refine rr_get hG 8 5 (v := .ref (ph 82)) dX8_handset_31 ⟨rfl, by decide⟩ (by decide) rfl tX8_handset_X8 (by decide) kX8_handset_16 rfl rfl ?_
      refine rr_iconst hG (v := 1) dX8_handset_34 (by decide) ?_
      refine rr_iald hG dX8_handset_35 ⟨rfl, by decide⟩ hf (fun b6 hf => ?_)
      refine rr_aload_n hG dX8_handset_36 0 rfl rfl ?_
      refine rr_get hG 8 6 (v := .ref (ph 83)) dX8_handset_37 ⟨rfl, by decide⟩ (by decide) rfl tX8_handset_X8 (by decide) kX8_handset_19 rfl rfl ?_
      refine rr_bipush hG (v := 19) dX8_handset_40 (by decide) ?_
      refine rr_iald hG dX8_handset_42 ⟨rfl, by decide⟩ hf (fun b7 hf => ?_)
      refine rr_imul hG dX8_handset_43 ?_
      refine rr_aload_n hG dX8_handset_44 0 rfl rfl ?_
      refine rr_get hG 8 5 (v := .ref (ph 82)) dX8_handset_45 ⟨rfl, by decide⟩ (by decide) rfl tX8_handset_X8 (by decide) kX8_handset_16 rfl rfl ?_
      refine rr_iconst hG (v := 2) dX8_handset_48 (by decide) ?_
      refine rr_iald hG dX8_handset_49 ⟨rfl, by decide⟩ hf (fun b8 hf => ?_)
      refine rr_aload_n hG dX8_handset_50 0 rfl rfl ?_
      refine rr_get hG 8 6 (v := .ref (ph 83)) dX8_handset_51 ⟨rfl, by decide⟩ (by decide) rfl tX8_handset_X8 (by decide) kX8_handset_19 rfl rfl ?_
      refine rr_bipush hG (v := 18) dX8_handset_54 (by decide) ?_
      refine rr_iald hG dX8_handset_56 ⟨rfl, by decide⟩ hf (fun b9 hf => ?_)
      refine rr_imul hG dX8_handset_57 ?_
      refine rr_iadd hG dX8_handset_58 ?_
      exact rr_iret hG hR dX8_handset_59 hf
    · refine rr_aload_n hG dX8_handset_18 0 rfl rfl ?_
      refine rr_get hG 8 6 (v := .ref (ph 83)) dX8_handset_19 ⟨rfl, by decide⟩ (by decide) rfl tX8_handset_X8 (by decide) kX8_handset_19 rfl rfl ?_
      refine rr_bipush hG (v := 14) dX8_handset_22 (by decide) ?_
      refine rr_iload_n hG dX8_handset_24 1 rfl rfl ?_
      refine rr_iadd hG dX8_handset_25 ?_
      refine rr_iald hG dX8_handset_26 ⟨rfl, by decide⟩ hf (fun b10 hf => ?_)
      refine rr_goto hG (tgt := 59) dX8_handset_27 (by decide) ?_
      exact rr_iret hG hR dX8_handset_59 hf
  · refine rr_iconst hG (v := (-1)) dX8_handset_10 (by decide) ?_
    exact rr_iret hG hR dX8_handset_11 hf
/-! X8.allowed -/
theorem tX8_allowed_X8 : ∀ w ∈ u_ws RX8 TX8 26, w ∈ wsX8_allowed := by decide +kernel
theorem kX8_allowed_76 : Cond.fieldLink RX8 76 "RingPagesModel" "cells" "I" ∈ wsX8_allowed := by decide +kernel
theorem kX8_allowed_19 : Cond.fieldLink RX8 19 "RingPagesModel" "now" "[I" ∈ wsX8_allowed := by decide +kernel
set_option maxHeartbeats 4000000 in
set_option maxRecDepth 100000 in
theorem wX8_allowed_L106 {G : rm_G} {ph : Nat → Nat} {rho : Int32 × rm_M}  (hG : rm_k G 96 ph cX8_allowed RX8 wsX8_allowed 5 2 49) (hR : rm_rI G 96 ph .int rho)  (q12 : Int32 → Int32 → Int32 → rm_M → Option (Int32 × rm_M)) (hq12 : ∀ (x1 : Int32) (x2 : Int32) (x3 : Int32) (M : rm_M), q12 x1 x2 x3 M = some rho → rm_L G 96 ph 5 12 [(0, .ref (ph 79)), (1, .int x1), (2, .int x2), (3, .int x3)] [] M) : ∀ (x1 : Int32) (x3 : Int32) (s0 : Int32) (s1 : Int32) (M : rm_M), fX8_allowed_L106 q12 x1 x3 s0 s1 M = some rho → rm_L G 96 ph 5 106 [(0, .ref (ph 79)), (1, .int x1), (3, .int x3)] [.int s1, .int s0] M := by
  intro x1 x3 s0 s1 M hf
  unfold fX8_allowed_L106 at hf
  refine rr_ior hG dX8_allowed_106 ?_
  refine rr_bindI hf (fun v1 ev1 hf => ?_)
  refine rr_istore_n hG (lv2 := [(2, .int v1), (0, .ref (ph 79)), (1, .int x1), (3, .int x3)]) dX8_allowed_107 rfl (by decide) rfl ?_
  refine rr_iinc hG (v := x3 + (1 : Int32)) (lv2 := [(3, .int (x3 + (1 : Int32))), (2, .int v1), (0, .ref (ph 79)), (1, .int x1)]) (k := 3) dX8_allowed_108 rfl rfl (by decide) rfl ?_
  refine rr_goto hG (tgt := 12) dX8_allowed_111 (by decide) ?_
  exact rr_sub (lv2 := [(0, .ref (ph 79)), (1, .int x1), (2, .int v1), (3, .int (x3 + (1 : Int32)))]) [2, 3, 1, 0] rfl (hq12 _ _ _ _ hf)
set_option maxHeartbeats 4000000 in
set_option maxRecDepth 100000 in
theorem wX8_allowed_L91 {G : rm_G} {ph : Nat → Nat} {rho : Int32 × rm_M}  (hG : rm_k G 96 ph cX8_allowed RX8 wsX8_allowed 5 2 49) (hR : rm_rI G 96 ph .int rho)  (q12 : Int32 → Int32 → Int32 → rm_M → Option (Int32 × rm_M)) (hq12 : ∀ (x1 : Int32) (x2 : Int32) (x3 : Int32) (M : rm_M), q12 x1 x2 x3 M = some rho → rm_L G 96 ph 5 12 [(0, .ref (ph 79)), (1, .int x1), (2, .int x2), (3, .int x3)] [] M) : ∀ (x1 : Int32) (x2 : Int32) (x3 : Int32) (s0 : Int32) (M : rm_M), fX8_allowed_L91 q12 x1 x2 x3 s0 M = some rho → rm_L G 96 ph 5 91 [(0, .ref (ph 79)), (1, .int x1), (2, .int x2), (3, .int x3)] [.int s0] M := by
  intro x1 x2 x3 s0 M hf
  unfold fX8_allowed_L91 at hf
  refine rr_istore hG (lv2 := [(4, .int s0), (0, .ref (ph 79)), (1, .int x1), (2, .int x2), (3, .int x3)]) dX8_allowed_91 (by decide) rfl ?_
  refine rr_iload_n hG dX8_allowed_93 3 rfl rfl ?_
  refine rr_iload hG dX8_allowed_94 0 rfl ?_
  refine rr_if_eq hG (tgt := 105) dX8_allowed_96 (by decide) hf (fun c2 hf => ?_) (fun c2 hf => ?_)
  · refine rr_iconst hG (v := 0) dX8_allowed_105 (by decide) ?_
    exact rr_sub (lv2 := [(0, .ref (ph 79)), (1, .int x1), (3, .int x3)]) [1, 2, 4] rfl (wX8_allowed_L106 hG hR _ (hq12) _ _ _ _ _ hf)
  · refine rr_iconst hG (v := 1) dX8_allowed_99 (by decide) ?_
    refine rr_iload_n hG dX8_allowed_100 4 rfl rfl ?_
    refine rr_ishl hG dX8_allowed_101 ?_
    refine rr_goto hG (tgt := 106) dX8_allowed_102 (by decide) ?_
    exact rr_sub (lv2 := [(0, .ref (ph 79)), (1, .int x1), (3, .int x3)]) [1, 2, 4] rfl (wX8_allowed_L106 hG hR _ (hq12) _ _ _ _ _ hf)
set_option maxHeartbeats 4000000 in
set_option maxRecDepth 100000 in
theorem wX8_allowed_L86 {G : rm_G} {ph : Nat → Nat} {rho : Int32 × rm_M}  (hG : rm_k G 96 ph cX8_allowed RX8 wsX8_allowed 5 2 49) (hR : rm_rI G 96 ph .int rho)  (q12 : Int32 → Int32 → Int32 → rm_M → Option (Int32 × rm_M)) (hq12 : ∀ (x1 : Int32) (x2 : Int32) (x3 : Int32) (M : rm_M), q12 x1 x2 x3 M = some rho → rm_L G 96 ph 5 12 [(0, .ref (ph 79)), (1, .int x1), (2, .int x2), (3, .int x3)] [] M) : ∀ (x1 : Int32) (x2 : Int32) (x3 : Int32) (M : rm_M), fX8_allowed_L86 q12 x1 x2 x3 M = some rho → rm_L G 96 ph 5 86 [(0, .ref (ph 79)), (1, .int x1), (2, .int x2), (3, .int x3)] [] M := by
  intro x1 x2 x3 M hf
  unfold fX8_allowed_L86 at hf
  refine rr_iconst hG (v := 1) dX8_allowed_86 (by decide) ?_
  refine rr_goto hG (tgt := 91) dX8_allowed_87 (by decide) ?_
  exact rr_sub (lv2 := [(0, .ref (ph 79)), (1, .int x1), (2, .int x2), (3, .int x3)]) [0, 1, 2, 3] rfl (wX8_allowed_L91 hG hR _ (hq12) _ _ _ _ _ hf)
set_option maxHeartbeats 4000000 in
set_option maxRecDepth 100000 in
theorem wX8_allowed_L12 {G : rm_G} {ph : Nat → Nat} {rho : Int32 × rm_M}  (hG : rm_k G 96 ph cX8_allowed RX8 wsX8_allowed 5 2 49) (hR : rm_rI G 96 ph .int rho)    : ∀ (n : Nat) (x1 : Int32) (x2 : Int32) (x3 : Int32) (M : rm_M), fX8_allowed_L12 n x1 x2 x3 M = some rho → rm_L G 96 ph 5 12 [(0, .ref (ph 79)), (1, .int x1), (2, .int x2), (3, .int x3)] [] M := by
  intro n
  induction n with
  | zero => intro x1 x2 x3 M hf; rw [fX8_allowed_L12] at hf; cases hf
  | succ n ih =>
    intro x1 x2 x3 M hf
    rw [fX8_allowed_L12] at hf
    refine rr_iload_n hG dX8_allowed_12 3 rfl rfl ?_
    refine rr_aload_n hG dX8_allowed_13 0 rfl rfl ?_
    refine rr_get hG 8 2 dX8_allowed_14 ⟨rfl, by decide⟩ (by decide) rfl tX8_allowed_X8 (by decide) kX8_allowed_76 rfl rfl ?_
    refine rr_icmp_ge hG (tgt := 114) dX8_allowed_17 (by decide) hf (fun c3 hf => ?_) (fun c3 hf => ?_)
    · refine rr_iload_n hG dX8_allowed_114 2 rfl rfl ?_
      exact rr_iret hG hR dX8_allowed_115 hf
    · refine rr_aload_n hG dX8_allowed_20 0 rfl rfl ?_
      refine rr_get hG 8 6 (v := .ref (ph 83)) dX8_allowed_21 ⟨rfl, by decide⟩ (by decide) rfl tX8_allowed_X8 (by decide) kX8_allowed_19 rfl rfl ?_
      refine rr_bipush hG (v := 12) dX8_allowed_24 (by decide) ?_
      refine rr_iald hG dX8_allowed_26 ⟨rfl, by decide⟩ hf (fun b4 hf => ?_)
      refine rr_if_ne hG (tgt := 59) dX8_allowed_27 (by decide) hf (fun c5 hf => ?_) (fun c5 hf => ?_)
      · refine rr_aload_n hG dX8_allowed_59 0 rfl rfl ?_
        refine rr_get hG 8 6 (v := .ref (ph 83)) dX8_allowed_60 ⟨rfl, by decide⟩ (by decide) rfl tX8_allowed_X8 (by decide) kX8_allowed_19 rfl rfl ?_
        refine rr_bipush hG (v := 12) dX8_allowed_63 (by decide) ?_
        refine rr_iald hG dX8_allowed_65 ⟨rfl, by decide⟩ hf (fun b6 hf => ?_)
        refine rr_iconst hG (v := 3) dX8_allowed_66 (by decide) ?_
        refine rr_icmp_ne hG (tgt := 86) dX8_allowed_67 (by decide) hf (fun c7 hf => ?_) (fun c7 hf => ?_)
        · exact rr_sub (lv2 := [(0, .ref (ph 79)), (1, .int x1), (2, .int x2), (3, .int x3)]) [0, 1, 2, 3] rfl (wX8_allowed_L86 hG hR _ (ih) _ _ _ _ hf)
        · refine rr_aload_n hG dX8_allowed_70 0 rfl rfl ?_
          refine rr_iload_n hG dX8_allowed_71 3 rfl rfl ?_
          refine rr_iload_n hG dX8_allowed_72 1 rfl rfl ?_
          refine rr_cVI hG (st := []) (n := 2) (ci := 8) (rf := 1) (rl := 23) [.int x3, .int x1] dX8_allowed_73 hf ⟨rfl, by decide⟩ (by decide) rfl gX8_allowed_X8_far rfl (by decide +kernel) rfl ⟨by decide, by decide⟩ rfl (Nat.le_of_ble_eq_true rfl) (fun r9 M9 h9 => mX8_far ph _ _ _ _ h9) (fun r9 M10 h8 hf => ?_)
          refine rr_aload_n hG dX8_allowed_76 0 rfl rfl ?_
          refine rr_get hG 8 6 (v := .ref (ph 83)) dX8_allowed_77 ⟨rfl, by decide⟩ (by decide) rfl tX8_allowed_X8 (by decide) kX8_allowed_19 rfl rfl ?_
          refine rr_bipush hG (v := 13) dX8_allowed_80 (by decide) ?_
          refine rr_iald hG dX8_allowed_82 ⟨rfl, by decide⟩ hf (fun b11 hf => ?_)
          refine rr_icmp_ge hG (tgt := 90) dX8_allowed_83 (by decide) hf (fun c12 hf => ?_) (fun c12 hf => ?_)
          · refine rr_iconst hG (v := 0) dX8_allowed_90 (by decide) ?_
            exact rr_sub (lv2 := [(0, .ref (ph 79)), (1, .int x1), (2, .int x2), (3, .int x3)]) [0, 1, 2, 3] rfl (wX8_allowed_L91 hG hR _ (ih) _ _ _ _ _ hf)
          · exact rr_sub (lv2 := [(0, .ref (ph 79)), (1, .int x1), (2, .int x2), (3, .int x3)]) [0, 1, 2, 3] rfl (wX8_allowed_L86 hG hR _ (ih) _ _ _ _ hf)
      · refine rr_aload_n hG dX8_allowed_30 0 rfl rfl ?_
        refine rr_get hG 8 6 (v := .ref (ph 83)) dX8_allowed_31 ⟨rfl, by decide⟩ (by decide) rfl tX8_allowed_X8 (by decide) kX8_allowed_19 rfl rfl ?_
        refine rr_bipush hG (v := 6) dX8_allowed_34 (by decide) ?_
        refine rr_iload_n hG dX8_allowed_36 3 rfl rfl ?_
        refine rr_iadd hG dX8_allowed_37 ?_
        refine rr_iald hG dX8_allowed_38 ⟨rfl, by decide⟩ hf (fun b13 hf => ?_)
        refine rr_aload_n hG dX8_allowed_39 0 rfl rfl ?_
        refine rr_get hG 8 6 (v := .ref (ph 83)) dX8_allowed_40 ⟨rfl, by decide⟩ (by decide) rfl tX8_allowed_X8 (by decide) kX8_allowed_19 rfl rfl ?_
        refine rr_bipush hG (v := 6) dX8_allowed_43 (by decide) ?_
        refine rr_iload_n hG dX8_allowed_45 1 rfl rfl ?_
        refine rr_iadd hG dX8_allowed_46 ?_
        refine rr_iald hG dX8_allowed_47 ⟨rfl, by decide⟩ hf (fun b14 hf => ?_)
        refine rr_icmp_ne hG (tgt := 55) dX8_allowed_48 (by decide) hf (fun c15 hf => ?_) (fun c15 hf => ?_)
        · refine rr_iconst hG (v := 0) dX8_allowed_55 (by decide) ?_
          refine rr_goto hG (tgt := 91) dX8_allowed_56 (by decide) ?_
          exact rr_sub (lv2 := [(0, .ref (ph 79)), (1, .int x1), (2, .int x2), (3, .int x3)]) [0, 1, 2, 3] rfl (wX8_allowed_L91 hG hR _ (ih) _ _ _ _ _ hf)
        · refine rr_iconst hG (v := 1) dX8_allowed_51 (by decide) ?_
          refine rr_goto hG (tgt := 91) dX8_allowed_52 (by decide) ?_
          exact rr_sub (lv2 := [(0, .ref (ph 79)), (1, .int x1), (2, .int x2), (3, .int x3)]) [0, 1, 2, 3] rfl (wX8_allowed_L91 hG hR _ (ih) _ _ _ _ _ hf)
set_option maxHeartbeats 4000000 in
set_option maxRecDepth 100000 in
theorem mX8_allowed (ph : Nat → Nat)  (M : rm_M) (rho : Int32 × rm_M)  (hf : fX8_allowed M = some rho) : rm_CI yX8_allowed wsX8_allowed 2 49 [.ref (ph 79)] 96 ph M rho := by
  refine rm_metI (cc := cX8_allowed) (maxL := 5) (by decide +kernel) rfl rfl (Nat.le_of_ble_eq_true rfl) rfl (fun G hG hR => ?_)
  unfold fX8_allowed at hf
  refine rr_aload_n hG dX8_allowed_0 0 rfl rfl ?_
  refine rr_get hG 8 6 (v := .ref (ph 83)) dX8_allowed_1 ⟨rfl, by decide⟩ (by decide) rfl tX8_allowed_X8 (by decide) kX8_allowed_19 rfl rfl ?_
  refine rr_bipush hG (v := 15) dX8_allowed_4 (by decide) ?_
  refine rr_iald hG dX8_allowed_6 ⟨rfl, by decide⟩ hf (fun b16 hf => ?_)
  refine rr_bindI hf (fun v17 ev17 hf => ?_)
  refine rr_istore_n hG (lv2 := [(1, .int v17), (0, .ref (ph 79))]) dX8_allowed_7 rfl (by decide) rfl ?_
  refine rr_iconst hG (v := 0) dX8_allowed_8 (by decide) ?_
  refine rr_istore_n hG (lv2 := [(2, .int (0 : Int32)), (1, .int v17), (0, .ref (ph 79))]) dX8_allowed_9 rfl (by decide) rfl ?_
  refine rr_iconst hG (v := 0) dX8_allowed_10 (by decide) ?_
  refine rr_istore_n hG (lv2 := [(3, .int (0 : Int32)), (2, .int (0 : Int32)), (1, .int v17), (0, .ref (ph 79))]) dX8_allowed_11 rfl (by decide) rfl ?_
  exact rr_sub (lv2 := [(0, .ref (ph 79)), (1, .int v17), (2, .int (0 : Int32)), (3, .int (0 : Int32))]) [3, 2, 1, 0] rfl (wX8_allowed_L12 hG hR _ _ _ _ _ hf)
