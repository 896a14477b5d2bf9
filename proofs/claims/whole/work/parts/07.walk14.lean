/-! X8.give -/
theorem tX8_give_X8 : ∀ w ∈ u_ws RX8 TX8 26, w ∈ wsX8_give := by decide +kernel
theorem kX8_give_19 : Cond.fieldLink RX8 19 "RingPagesModel" "now" "[I" ∈ wsX8_give := by decide +kernel
theorem kX8_give_50 : Cond.fieldLink RX8 50 "RingPagesModel" "best" "[I" ∈ wsX8_give := by decide +kernel
theorem kX8_give_76 : Cond.fieldLink RX8 76 "RingPagesModel" "cells" "I" ∈ wsX8_give := by decide +kernel
set_option maxHeartbeats 4000000 in
set_option maxRecDepth 100000 in
theorem wX8_give_L45 {G : rm_G} {ph : Nat → Nat} {rho : Int32 × rm_M}  (hG : rm_k G 96 ph cX8_give RX8 wsX8_give 3 4 95) (hR : rm_rI G 96 ph .int rho)  (q13 : Int32 → Int32 → rm_M → Option (Int32 × rm_M)) (hq13 : ∀ (x1 : Int32) (x2 : Int32) (M : rm_M), q13 x1 x2 M = some rho → rm_L G 96 ph 3 13 [(0, .ref (ph 79)), (1, .int x1), (2, .int x2)] [] M) : ∀ (x2 : Int32) (s0 : Int32) (s1 : Int32) (M : rm_M), fX8_give_L45 q13 x2 s0 s1 M = some rho → rm_L G 96 ph 3 45 [(0, .ref (ph 79)), (2, .int x2)] [.int s1, .int s0] M := by
  intro x2 s0 s1 M hf
  unfold fX8_give_L45 at hf
  refine rr_iadd hG dX8_give_45 ?_
  refine rr_bindI hf (fun v1 ev1 hf => ?_)
  refine rr_istore_n hG (lv2 := [(1, .int v1), (0, .ref (ph 79)), (2, .int x2)]) dX8_give_46 rfl (by decide) rfl ?_
  refine rr_aload_n hG dX8_give_47 1 rfl rfl ?_
  refine rr_get hG 8 6 (v := .ref (ph 83)) dX8_give_48 ⟨rfl, by decide⟩ (by decide) rfl tX8_give_X8 (by decide) kX8_give_19 rfl rfl ?_
  refine rr_bipush hG (v := 6) dX8_give_51 (by decide) ?_
  refine rr_iload_n hG dX8_give_53 2 rfl rfl ?_
  refine rr_iadd hG dX8_give_54 ?_
  refine rr_aload_n hG dX8_give_55 1 rfl rfl ?_
  refine rr_get hG 8 21 (v := .ref (ph 93)) dX8_give_56 ⟨rfl, by decide⟩ (by decide) rfl tX8_give_X8 (by decide) kX8_give_50 rfl rfl ?_
  refine rr_iload_n hG dX8_give_59 2 rfl rfl ?_
  refine rr_iald hG dX8_give_60 ⟨rfl, by decide⟩ hf (fun b2 hf => ?_)
  refine rr_iast hG dX8_give_61 ⟨rfl, by decide⟩ hf (fun b3 hf => ?_)
  refine rr_bindM hf (fun M4 eM4 hf => ?_)
  refine rr_iinc hG (v := x2 + (1 : Int32)) (lv2 := [(2, .int (x2 + (1 : Int32))), (1, .int v1), (0, .ref (ph 79))]) (k := 2) dX8_give_62 rfl rfl (by decide) rfl ?_
  refine rr_goto hG (tgt := 13) dX8_give_65 (by decide) ?_
  exact rr_sub (lv2 := [(0, .ref (ph 79)), (1, .int v1), (2, .int (x2 + (1 : Int32)))]) [2, 1, 0] rfl (hq13 _ _ _ hf)
set_option maxHeartbeats 4000000 in
set_option maxRecDepth 100000 in
theorem wX8_give_L13 {G : rm_G} {ph : Nat → Nat} {rho : Int32 × rm_M}  (hG : rm_k G 96 ph cX8_give RX8 wsX8_give 3 4 95) (hR : rm_rI G 96 ph .int rho)    : ∀ (n : Nat) (x1 : Int32) (x2 : Int32) (M : rm_M), fX8_give_L13 n x1 x2 M = some rho → rm_L G 96 ph 3 13 [(0, .ref (ph 79)), (1, .int x1), (2, .int x2)] [] M := by
  intro n
  induction n with
  | zero => intro x1 x2 M hf; rw [fX8_give_L13] at hf; cases hf
  | succ n ih =>
    intro x1 x2 M hf
    rw [fX8_give_L13] at hf
    refine rr_iload_n hG dX8_give_13 2 rfl rfl ?_
    refine rr_aload_n hG dX8_give_14 0 rfl rfl ?_
    refine rr_get hG 8 2 dX8_give_15 ⟨rfl, by decide⟩ (by decide) rfl tX8_give_X8 (by decide) kX8_give_76 rfl rfl ?_
    refine rr_icmp_ge hG (tgt := 68) dX8_give_18 (by decide) hf (fun c5 hf => ?_) (fun c5 hf => ?_)
    · refine rr_aload_n hG dX8_give_68 0 rfl rfl ?_
      refine rr_get hG 8 6 (v := .ref (ph 83)) dX8_give_69 ⟨rfl, by decide⟩ (by decide) rfl tX8_give_X8 (by decide) kX8_give_19 rfl rfl ?_
      refine rr_cSV hG (st := []) (n := 1) (rf := 0) (rl := 0) [.ref (ph 83)] dX8_give_72 hf gX8_give_X8_registers rfl (by decide +kernel) rfl ⟨by decide, by decide⟩ rfl (Nat.le_of_ble_eq_true rfl) (fun M9 h9 => mX8_registers ph _ _ _ (rm_kself ⟨rfl, by decide⟩) h9) (fun M7 h6 hf => ?_)
      refine rr_iload_n hG dX8_give_75 1 rfl rfl ?_
      exact rr_iret hG hR dX8_give_76 hf
    · refine rr_iload_n hG dX8_give_21 1 rfl rfl ?_
      refine rr_aload_n hG dX8_give_22 0 rfl rfl ?_
      refine rr_get hG 8 6 (v := .ref (ph 83)) dX8_give_23 ⟨rfl, by decide⟩ (by decide) rfl tX8_give_X8 (by decide) kX8_give_19 rfl rfl ?_
      refine rr_bipush hG (v := 6) dX8_give_26 (by decide) ?_
      refine rr_iload_n hG dX8_give_28 2 rfl rfl ?_
      refine rr_iadd hG dX8_give_29 ?_
      refine rr_iald hG dX8_give_30 ⟨rfl, by decide⟩ hf (fun b8 hf => ?_)
      refine rr_aload_n hG dX8_give_31 0 rfl rfl ?_
      refine rr_get hG 8 21 (v := .ref (ph 93)) dX8_give_32 ⟨rfl, by decide⟩ (by decide) rfl tX8_give_X8 (by decide) kX8_give_50 rfl rfl ?_
      refine rr_iload_n hG dX8_give_35 2 rfl rfl ?_
      refine rr_iald hG dX8_give_36 ⟨rfl, by decide⟩ hf (fun b9 hf => ?_)
      refine rr_icmp_ne hG (tgt := 44) dX8_give_37 (by decide) hf (fun c10 hf => ?_) (fun c10 hf => ?_)
      · refine rr_iconst hG (v := 1) dX8_give_44 (by decide) ?_
        exact rr_sub (lv2 := [(0, .ref (ph 79)), (2, .int x2)]) [0, 2] rfl (wX8_give_L45 hG hR _ (ih) _ _ _ _ hf)
      · refine rr_iconst hG (v := 0) dX8_give_40 (by decide) ?_
        refine rr_goto hG (tgt := 45) dX8_give_41 (by decide) ?_
        exact rr_sub (lv2 := [(0, .ref (ph 79)), (2, .int x2)]) [0, 2] rfl (wX8_give_L45 hG hR _ (ih) _ _ _ _ hf)
set_option maxHeartbeats 4000000 in
set_option maxRecDepth 100000 in
theorem mX8_give (ph : Nat → Nat)  (M : rm_M) (rho : Int32 × rm_M)  (hf : fX8_give M = some rho) : rm_CI yX8_give wsX8_give 4 95 [.ref (ph 79)] 96 ph M rho := by
  refine rm_metI (cc := cX8_give) (maxL := 3) (by decide +kernel) rfl rfl (Nat.le_of_ble_eq_true rfl) rfl (fun G hG hR => ?_)
  unfold fX8_give at hf
  refine rr_aload_n hG dX8_give_0 0 rfl rfl ?_
  refine rr_cVJ hG (st := []) (n := 0) (ci := 8) (rf := 3) (rl := 70) [] dX8_give_1 hf ⟨rfl, by decide⟩ (by decide) rfl gX8_give_X8_finds rfl (by decide +kernel) rfl ⟨by decide, by decide⟩ rfl (Nat.le_of_ble_eq_true rfl) (fun r9 M9 h9 => mX8_finds ph _ _ h9) (fun r12 M13 h11 hf => ?_)
  refine rr_pop2 hG dX8_give_4 rfl ?_
  refine rr_aload_n hG dX8_give_5 0 rfl rfl ?_
  refine rr_cVV hG (st := []) (n := 0) (ci := 8) (rf := 0) (rl := 0) [] dX8_give_6 hf ⟨rfl, by decide⟩ (by decide) rfl gX8_give_X8_keeps rfl (by decide +kernel) rfl ⟨by decide, by decide⟩ rfl (Nat.le_of_ble_eq_true rfl) (fun M9 h9 => mX8_keeps ph _ _ h9) (fun M15 h14 hf => ?_)
  refine rr_iconst hG (v := 0) dX8_give_9 (by decide) ?_
  refine rr_istore_n hG (lv2 := [(1, .int (0 : Int32)), (0, .ref (ph 79))]) dX8_give_10 rfl (by decide) rfl ?_
  refine rr_iconst hG (v := 0) dX8_give_11 (by decide) ?_
  refine rr_istore_n hG (lv2 := [(2, .int (0 : Int32)), (1, .int (0 : Int32)), (0, .ref (ph 79))]) dX8_give_12 rfl (by decide) rfl ?_
  exact rr_sub (lv2 := [(0, .ref (ph 79)), (1, .int (0 : Int32)), (2, .int (0 : Int32))]) [2, 1, 0] rfl (wX8_give_L13 hG hR _ _ _ _ hf)
/-! X8.ranks -/
theorem tX8_ranks_X8 : ∀ w ∈ u_ws RX8 TX8 26, w ∈ wsX8_ranks := by decide +kernel
theorem kX8_ranks_53 : Cond.fieldLink RX8 53 "RingPagesModel" "row" "[I" ∈ wsX8_ranks := by decide +kernel
theorem kX8_ranks_215 : Cond.fieldLink RX8 215 "RingPagesModel" "rows" "I" ∈ wsX8_ranks := by decide +kernel
theorem kX8_ranks_40 : Cond.fieldLink RX8 40 "RingPagesModel" "trees" "[J" ∈ wsX8_ranks := by decide +kernel
theorem kX8_ranks_76 : Cond.fieldLink RX8 76 "RingPagesModel" "cells" "I" ∈ wsX8_ranks := by decide +kernel
set_option maxHeartbeats 4000000 in
set_option maxRecDepth 100000 in
theorem wX8_ranks_L123 {G : rm_G} {ph : Nat → Nat} {rho : rm_M}  (hG : rm_k G 96 ph cX8_ranks RX8 wsX8_ranks 4 4 99) (hR : rm_rV G 96 ph rho)  (q16 : Int32 → Int32 → rm_M → Option (rm_M)) (hq16 : ∀ (x1 : Int32) (x2 : Int32) (M : rm_M), q16 x1 x2 M = some rho → rm_L G 96 ph 4 16 [(0, .ref (ph 79)), (1, .int x1), (2, .int x2)] [] M) : ∀ (x1 : Int32) (x2 : Int32) (M : rm_M), fX8_ranks_L123 q16 x1 x2 M = some rho → rm_L G 96 ph 4 123 [(0, .ref (ph 79)), (1, .int x1), (2, .int x2)] [] M := by
  intro x1 x2 M hf
  unfold fX8_ranks_L123 at hf
  refine rr_iinc hG (v := x2 + (1 : Int32)) (lv2 := [(2, .int (x2 + (1 : Int32))), (0, .ref (ph 79)), (1, .int x1)]) (k := 2) dX8_ranks_123 rfl rfl (by decide) rfl ?_
  refine rr_goto hG (tgt := 16) dX8_ranks_126 (by decide) ?_
  exact rr_sub (lv2 := [(0, .ref (ph 79)), (1, .int x1), (2, .int (x2 + (1 : Int32)))]) [1, 2, 0] rfl (hq16 _ _ _ hf)
set_option maxHeartbeats 4000000 in
set_option maxRecDepth 100000 in
theorem wX8_ranks_L106 {G : rm_G} {ph : Nat → Nat} {rho : rm_M}  (hG : rm_k G 96 ph cX8_ranks RX8 wsX8_ranks 4 4 99) (hR : rm_rV G 96 ph rho)  (q16 : Int32 → Int32 → rm_M → Option (rm_M)) (hq16 : ∀ (x1 : Int32) (x2 : Int32) (M : rm_M), q16 x1 x2 M = some rho → rm_L G 96 ph 4 16 [(0, .ref (ph 79)), (1, .int x1), (2, .int x2)] [] M) : ∀ (x1 : Int32) (x2 : Int32) (x3 : Int32) (M : rm_M), fX8_ranks_L106 q16 x1 x2 x3 M = some rho → rm_L G 96 ph 4 106 [(0, .ref (ph 79)), (1, .int x1), (2, .int x2), (3, .int x3)] [] M := by
  intro x1 x2 x3 M hf
  unfold fX8_ranks_L106 at hf
  refine rr_aload_n hG dX8_ranks_106 0 rfl rfl ?_
  refine rr_get hG 8 22 (v := .ref (ph 94)) dX8_ranks_107 ⟨rfl, by decide⟩ (by decide) rfl tX8_ranks_X8 (by decide) kX8_ranks_53 rfl rfl ?_
  refine rr_iload_n hG dX8_ranks_110 3 rfl rfl ?_
  refine rr_iload_n hG dX8_ranks_111 2 rfl rfl ?_
  refine rr_iast hG dX8_ranks_112 ⟨rfl, by decide⟩ hf (fun b1 hf => ?_)
  refine rr_bindM hf (fun M2 eM2 hf => ?_)
  refine rr_aload_n hG dX8_ranks_113 0 rfl rfl ?_
  refine rr_dup hG dX8_ranks_114 rfl ?_
  refine rr_get hG 8 23 dX8_ranks_115 ⟨rfl, by decide⟩ (by decide) rfl tX8_ranks_X8 (by decide) kX8_ranks_215 rfl rfl ?_
  refine rr_iconst hG (v := 1) dX8_ranks_118 (by decide) ?_
  refine rr_iadd hG dX8_ranks_119 ?_
  refine rr_putI hG 8 23 dX8_ranks_120 ⟨rfl, by decide⟩ (by decide) rfl tX8_ranks_X8 tyX8_ok nmX8 (by decide) kX8_ranks_215 rfl rfl rfl rfl rfl (Nat.le_of_ble_eq_true rfl) rfl ?_
  refine rr_bindM hf (fun M3 eM3 hf => ?_)
  exact rr_sub (lv2 := [(0, .ref (ph 79)), (1, .int x1), (2, .int x2)]) [0, 1, 2] rfl (wX8_ranks_L123 hG hR _ (hq16) _ _ _ hf)
set_option maxHeartbeats 4000000 in
set_option maxRecDepth 100000 in
theorem wX8_ranks_L38 {G : rm_G} {ph : Nat → Nat} {rho : rm_M}  (hG : rm_k G 96 ph cX8_ranks RX8 wsX8_ranks 4 4 99) (hR : rm_rV G 96 ph rho)  (q16 : Int32 → Int32 → rm_M → Option (rm_M)) (hq16 : ∀ (x1 : Int32) (x2 : Int32) (M : rm_M), q16 x1 x2 M = some rho → rm_L G 96 ph 4 16 [(0, .ref (ph 79)), (1, .int x1), (2, .int x2)] [] M) : ∀ (n : Nat) (x1 : Int32) (x2 : Int32) (x3 : Int32) (M : rm_M), fX8_ranks_L38 q16 n x1 x2 x3 M = some rho → rm_L G 96 ph 4 38 [(0, .ref (ph 79)), (1, .int x1), (2, .int x2), (3, .int x3)] [] M := by
  intro n
  induction n with
  | zero => intro x1 x2 x3 M hf; rw [fX8_ranks_L38] at hf; cases hf
  | succ n ih =>
    intro x1 x2 x3 M hf
    rw [fX8_ranks_L38] at hf
    refine rr_iload_n hG dX8_ranks_38 3 rfl rfl ?_
    refine rr_if_le hG (tgt := 106) dX8_ranks_39 (by decide) hf (fun c4 hf => ?_) (fun c4 hf => ?_)
    · exact rr_sub (lv2 := [(0, .ref (ph 79)), (1, .int x1), (2, .int x2), (3, .int x3)]) [0, 1, 2, 3] rfl (wX8_ranks_L106 hG hR _ (hq16) _ _ _ _ hf)
    · refine rr_aload_n hG dX8_ranks_42 0 rfl rfl ?_
      refine rr_get hG 8 18 (v := .ref (ph 90)) dX8_ranks_43 ⟨rfl, by decide⟩ (by decide) rfl tX8_ranks_X8 (by decide) kX8_ranks_40 rfl rfl ?_
      refine rr_aload_n hG dX8_ranks_46 0 rfl rfl ?_
      refine rr_get hG 8 22 (v := .ref (ph 94)) dX8_ranks_47 ⟨rfl, by decide⟩ (by decide) rfl tX8_ranks_X8 (by decide) kX8_ranks_53 rfl rfl ?_
      refine rr_iload_n hG dX8_ranks_50 3 rfl rfl ?_
      refine rr_iconst hG (v := 1) dX8_ranks_51 (by decide) ?_
      refine rr_isub hG dX8_ranks_52 ?_
      refine rr_iald hG dX8_ranks_53 ⟨rfl, by decide⟩ hf (fun b5 hf => ?_)
      refine rr_lald hG dX8_ranks_54 ⟨rfl, by decide⟩ hf (fun b6 hf => ?_)
      refine rr_aload_n hG dX8_ranks_55 0 rfl rfl ?_
      refine rr_aload_n hG dX8_ranks_56 0 rfl rfl ?_
      refine rr_get hG 8 22 (v := .ref (ph 94)) dX8_ranks_57 ⟨rfl, by decide⟩ (by decide) rfl tX8_ranks_X8 (by decide) kX8_ranks_53 rfl rfl ?_
      refine rr_iload_n hG dX8_ranks_60 3 rfl rfl ?_
      refine rr_iconst hG (v := 1) dX8_ranks_61 (by decide) ?_
      refine rr_isub hG dX8_ranks_62 ?_
      refine rr_iald hG dX8_ranks_63 ⟨rfl, by decide⟩ hf (fun b7 hf => ?_)
      refine rr_cVI hG (st := [.long (M.2.1 90 (M.1 94 (x3 - (1 : Int32)).toNatClampNeg).toNatClampNeg)]) (n := 1) (ci := 8) (rf := 1) (rl := 23) [.int (M.1 94 (x3 - (1 : Int32)).toNatClampNeg)] dX8_ranks_64 hf ⟨rfl, by decide⟩ (by decide) rfl gX8_ranks_X8_sum rfl (by decide +kernel) rfl ⟨by decide, by decide⟩ rfl (Nat.le_of_ble_eq_true rfl) (fun r9 M9 h9 => mX8_sum ph _ _ _ h9) (fun r9 M10 h8 hf => ?_)
      refine rr_i2l hG dX8_ranks_67 ?_
      refine rr_lmul hG dX8_ranks_68 ?_
      refine rr_aload_n hG dX8_ranks_69 0 rfl rfl ?_
      refine rr_get hG 8 18 (v := .ref (ph 90)) dX8_ranks_70 ⟨rfl, by decide⟩ (by decide) rfl tX8_ranks_X8 (by decide) kX8_ranks_40 rfl rfl ?_
      refine rr_iload_n hG dX8_ranks_73 2 rfl rfl ?_
      refine rr_lald hG dX8_ranks_74 ⟨rfl, by decide⟩ hf (fun b11 hf => ?_)
      refine rr_aload_n hG dX8_ranks_75 0 rfl rfl ?_
      refine rr_iload_n hG dX8_ranks_76 2 rfl rfl ?_
      refine rr_cVI hG (st := [.long (M10.2.1 90 (x2).toNatClampNeg), .long ((M.2.1 90 (M.1 94 (x3 - (1 : Int32)).toNatClampNeg).toNatClampNeg) * ((r9).toInt64))]) (n := 1) (ci := 8) (rf := 1) (rl := 23) [.int x2] dX8_ranks_77 hf ⟨rfl, by decide⟩ (by decide) rfl gX8_ranks_X8_sum rfl (by decide +kernel) rfl ⟨by decide, by decide⟩ rfl (Nat.le_of_ble_eq_true rfl) (fun r9 M9 h9 => mX8_sum ph _ _ _ h9) (fun r13 M14 h12 hf => ?_)
      refine rr_i2l hG dX8_ranks_80 ?_
      refine rr_lmul hG dX8_ranks_81 ?_
      refine rr_lcmp hG dX8_ranks_82 ?_
      refine rr_if_ge hG (tgt := 106) dX8_ranks_83 (by decide) hf (fun c15 hf => ?_) (fun c15 hf => ?_)
      · exact rr_sub (lv2 := [(0, .ref (ph 79)), (1, .int x1), (2, .int x2), (3, .int x3)]) [0, 1, 2, 3] rfl (wX8_ranks_L106 hG hR _ (hq16) _ _ _ _ hf)
      · refine rr_aload_n hG dX8_ranks_86 0 rfl rfl ?_
        refine rr_get hG 8 22 (v := .ref (ph 94)) dX8_ranks_87 ⟨rfl, by decide⟩ (by decide) rfl tX8_ranks_X8 (by decide) kX8_ranks_53 rfl rfl ?_
        refine rr_iload_n hG dX8_ranks_90 3 rfl rfl ?_
        refine rr_aload_n hG dX8_ranks_91 0 rfl rfl ?_
        refine rr_get hG 8 22 (v := .ref (ph 94)) dX8_ranks_92 ⟨rfl, by decide⟩ (by decide) rfl tX8_ranks_X8 (by decide) kX8_ranks_53 rfl rfl ?_
        refine rr_iload_n hG dX8_ranks_95 3 rfl rfl ?_
        refine rr_iconst hG (v := 1) dX8_ranks_96 (by decide) ?_
        refine rr_isub hG dX8_ranks_97 ?_
        refine rr_iald hG dX8_ranks_98 ⟨rfl, by decide⟩ hf (fun b16 hf => ?_)
        refine rr_iast hG dX8_ranks_99 ⟨rfl, by decide⟩ hf (fun b17 hf => ?_)
        refine rr_bindM hf (fun M18 eM18 hf => ?_)
        refine rr_iinc hG (v := x3 + (-1 : Int32)) (lv2 := [(3, .int (x3 + (-1 : Int32))), (0, .ref (ph 79)), (1, .int x1), (2, .int x2)]) (k := 3) dX8_ranks_100 rfl rfl (by decide) rfl ?_
        refine rr_goto hG (tgt := 38) dX8_ranks_103 (by decide) ?_
        exact rr_sub (lv2 := [(0, .ref (ph 79)), (1, .int x1), (2, .int x2), (3, .int (x3 + (-1 : Int32)))]) [1, 2, 3, 0] rfl (ih _ _ _ _ hf)
set_option maxHeartbeats 4000000 in
set_option maxRecDepth 100000 in
theorem wX8_ranks_L16 {G : rm_G} {ph : Nat → Nat} {rho : rm_M}  (hG : rm_k G 96 ph cX8_ranks RX8 wsX8_ranks 4 4 99) (hR : rm_rV G 96 ph rho)    : ∀ (n : Nat) (x1 : Int32) (x2 : Int32) (M : rm_M), fX8_ranks_L16 n x1 x2 M = some rho → rm_L G 96 ph 4 16 [(0, .ref (ph 79)), (1, .int x1), (2, .int x2)] [] M := by
  intro n
  induction n with
  | zero => intro x1 x2 M hf; rw [fX8_ranks_L16] at hf; cases hf
  | succ n ih =>
    intro x1 x2 M hf
    rw [fX8_ranks_L16] at hf
    refine rr_iload_n hG dX8_ranks_16 2 rfl rfl ?_
    refine rr_aload_n hG dX8_ranks_17 0 rfl rfl ?_
    refine rr_get hG 8 2 dX8_ranks_18 ⟨rfl, by decide⟩ (by decide) rfl tX8_ranks_X8 (by decide) kX8_ranks_76 rfl rfl ?_
    refine rr_icmp_ge hG (tgt := 129) dX8_ranks_21 (by decide) hf (fun c19 hf => ?_) (fun c19 hf => ?_)
    · exact rr_vret hG hR dX8_ranks_129 hf
    · refine rr_iload_n hG dX8_ranks_24 1 rfl rfl ?_
      refine rr_iload_n hG dX8_ranks_25 2 rfl rfl ?_
      refine rr_ishr hG dX8_ranks_26 ?_
      refine rr_iconst hG (v := 1) dX8_ranks_27 (by decide) ?_
      refine rr_iand hG dX8_ranks_28 ?_
      refine rr_iconst hG (v := 1) dX8_ranks_29 (by decide) ?_
      refine rr_icmp_ne hG (tgt := 123) dX8_ranks_30 (by decide) hf (fun c20 hf => ?_) (fun c20 hf => ?_)
      · exact rr_sub (lv2 := [(0, .ref (ph 79)), (1, .int x1), (2, .int x2)]) [0, 1, 2] rfl (wX8_ranks_L123 hG hR _ (ih) _ _ _ hf)
      · refine rr_aload_n hG dX8_ranks_33 0 rfl rfl ?_
        refine rr_get hG 8 23 dX8_ranks_34 ⟨rfl, by decide⟩ (by decide) rfl tX8_ranks_X8 (by decide) kX8_ranks_215 rfl rfl ?_
        refine rr_bindI hf (fun v21 ev21 hf => ?_)
        refine rr_istore_n hG (lv2 := [(3, .int v21), (0, .ref (ph 79)), (1, .int x1), (2, .int x2)]) dX8_ranks_37 rfl (by decide) rfl ?_
        exact rr_sub (lv2 := [(0, .ref (ph 79)), (1, .int x1), (2, .int x2), (3, .int v21)]) [1, 2, 3, 0] rfl (wX8_ranks_L38 hG hR _ (ih) _ _ _ _ _ hf)
set_option maxHeartbeats 4000000 in
set_option maxRecDepth 100000 in
theorem mX8_ranks (ph : Nat → Nat)  (M : rm_M) (rho : rm_M)  (hf : fX8_ranks M = some rho) : rm_CV yX8_ranks wsX8_ranks 4 99 [.ref (ph 79)] 96 ph M rho := by
  refine rm_metV (cc := cX8_ranks) (maxL := 4) (by decide +kernel) rfl rfl (Nat.le_of_ble_eq_true rfl) rfl (fun G hG hR => ?_)
  unfold fX8_ranks at hf
  refine rr_aload_n hG dX8_ranks_0 0 rfl rfl ?_
  refine rr_cVI hG (st := []) (n := 0) (ci := 8) (rf := 3) (rl := 73) [] dX8_ranks_1 hf ⟨rfl, by decide⟩ (by decide) rfl gX8_ranks_X8_whereIs rfl (by decide +kernel) rfl ⟨by decide, by decide⟩ rfl (Nat.le_of_ble_eq_true rfl) (fun r9 M9 h9 => mX8_whereIs ph _ _ h9) (fun r23 M24 h22 hf => ?_)
  refine rr_istore_n hG (lv2 := [(1, .int r23), (0, .ref (ph 79))]) dX8_ranks_4 rfl (by decide) rfl ?_
  refine rr_aload_n hG dX8_ranks_5 1 rfl rfl ?_
  refine rr_cVV hG (st := []) (n := 0) (ci := 8) (rf := 1) (rl := 26) [] dX8_ranks_6 hf ⟨rfl, by decide⟩ (by decide) rfl gX8_ranks_X8_grows rfl (by decide +kernel) rfl ⟨by decide, by decide⟩ rfl (Nat.le_of_ble_eq_true rfl) (fun M9 h9 => mX8_grows ph _ _ h9) (fun M26 h25 hf => ?_)
  refine rr_aload_n hG dX8_ranks_9 1 rfl rfl ?_
  refine rr_iconst hG (v := 0) dX8_ranks_10 (by decide) ?_
  refine rr_putI hG 8 23 dX8_ranks_11 ⟨rfl, by decide⟩ (by decide) rfl tX8_ranks_X8 tyX8_ok nmX8 (by decide) kX8_ranks_215 rfl rfl rfl rfl rfl (Nat.le_of_ble_eq_true rfl) rfl ?_
  refine rr_bindM hf (fun M27 eM27 hf => ?_)
  refine rr_iconst hG (v := 0) dX8_ranks_14 (by decide) ?_
  refine rr_istore_n hG (lv2 := [(2, .int (0 : Int32)), (1, .int r23), (0, .ref (ph 79))]) dX8_ranks_15 rfl (by decide) rfl ?_
  exact rr_sub (lv2 := [(0, .ref (ph 79)), (1, .int r23), (2, .int (0 : Int32))]) [2, 1, 0] rfl (wX8_ranks_L16 hG hR _ _ _ _ hf)
/-! X8.bits -/
set_option maxHeartbeats 4000000 in
set_option maxRecDepth 100000 in
theorem wX8_bits_L4 {G : rm_G} {ph : Nat → Nat} {rho : Int32 × rm_M} (a0 : Int32) (hG : rm_k G 96 ph cX8_bits RX8 wsX8_bits 3 0 0) (hR : rm_rI G 96 ph .int rho)    : ∀ (n : Nat) (x1 : Int32) (x2 : Int32) (M : rm_M), fX8_bits_L4 a0 n x1 x2 M = some rho → rm_L G 96 ph 3 4 [(0, .int a0), (1, .int x1), (2, .int x2)] [] M := by
  intro n
  induction n with
  | zero => intro x1 x2 M hf; rw [fX8_bits_L4] at hf; cases hf
  | succ n ih =>
    intro x1 x2 M hf
    rw [fX8_bits_L4] at hf
    refine rr_iload_n hG dX8_bits_4 2 rfl rfl ?_
    refine rr_bipush hG (v := 6) dX8_bits_5 (by decide) ?_
    refine rr_icmp_ge hG (tgt := 24) dX8_bits_7 (by decide) hf (fun c1 hf => ?_) (fun c1 hf => ?_)
    · refine rr_iload_n hG dX8_bits_24 1 rfl rfl ?_
      exact rr_iret hG hR dX8_bits_25 hf
    · refine rr_iload_n hG dX8_bits_10 1 rfl rfl ?_
      refine rr_iload_n hG dX8_bits_11 0 rfl rfl ?_
      refine rr_iload_n hG dX8_bits_12 2 rfl rfl ?_
      refine rr_ishr hG dX8_bits_13 ?_
      refine rr_iconst hG (v := 1) dX8_bits_14 (by decide) ?_
      refine rr_iand hG dX8_bits_15 ?_
      refine rr_iadd hG dX8_bits_16 ?_
      refine rr_bindI hf (fun v2 ev2 hf => ?_)
      refine rr_istore_n hG (lv2 := [(1, .int v2), (0, .int a0), (2, .int x2)]) dX8_bits_17 rfl (by decide) rfl ?_
      refine rr_iinc hG (v := x2 + (1 : Int32)) (lv2 := [(2, .int (x2 + (1 : Int32))), (1, .int v2), (0, .int a0)]) (k := 2) dX8_bits_18 rfl rfl (by decide) rfl ?_
      refine rr_goto hG (tgt := 4) dX8_bits_21 (by decide) ?_
      exact rr_sub (lv2 := [(0, .int a0), (1, .int v2), (2, .int (x2 + (1 : Int32)))]) [2, 1, 0] rfl (ih _ _ _ hf)
set_option maxHeartbeats 4000000 in
set_option maxRecDepth 100000 in
theorem mX8_bits (ph : Nat → Nat) (a0 : Int32) (M : rm_M) (rho : Int32 × rm_M)  (hf : fX8_bits a0 M = some rho) : rm_CI yX8_bits wsX8_bits 0 0 [.int a0] 96 ph M rho := by
  refine rm_metI (cc := cX8_bits) (maxL := 3) (by decide +kernel) rfl rfl (Nat.le_of_ble_eq_true rfl) rfl (fun G hG hR => ?_)
  unfold fX8_bits at hf
  refine rr_iconst hG (v := 0) dX8_bits_0 (by decide) ?_
  refine rr_istore_n hG (lv2 := [(1, .int (0 : Int32)), (0, .int a0)]) dX8_bits_1 rfl (by decide) rfl ?_
  refine rr_iconst hG (v := 0) dX8_bits_2 (by decide) ?_
  refine rr_istore_n hG (lv2 := [(2, .int (0 : Int32)), (1, .int (0 : Int32)), (0, .int a0)]) dX8_bits_3 rfl (by decide) rfl ?_
  exact rr_sub (lv2 := [(0, .int a0), (1, .int (0 : Int32)), (2, .int (0 : Int32))]) [2, 1, 0] rfl (wX8_bits_L4 _ hG hR _ _ _ _ hf)
/-! X8.paged -/
theorem tX8_paged_X8 : ∀ w ∈ u_ws RX8 TX8 26, w ∈ wsX8_paged := by decide +kernel
theorem kX8_paged_40 : Cond.fieldLink RX8 40 "RingPagesModel" "trees" "[J" ∈ wsX8_paged := by decide +kernel
theorem kX8_paged_53 : Cond.fieldLink RX8 53 "RingPagesModel" "row" "[I" ∈ wsX8_paged := by decide +kernel
theorem kX8_paged_215 : Cond.fieldLink RX8 215 "RingPagesModel" "rows" "I" ∈ wsX8_paged := by decide +kernel
set_option maxHeartbeats 4000000 in
set_option maxRecDepth 100000 in
theorem wX8_paged_L18 {G : rm_G} {ph : Nat → Nat} {rho : Int64 × rm_M} (a1 : Int32) (hG : rm_k G 96 ph cX8_paged RX8 wsX8_paged 6 2 44) (hR : rm_rJ G 96 ph rho)  (q5 : Int64 → Int32 → rm_M → Option (Int64 × rm_M)) (hq5 : ∀ (x2 : Int64) (x4 : Int32) (M : rm_M), q5 x2 x4 M = some rho → rm_L G 96 ph 6 5 [(0, .ref (ph 79)), (1, .int a1), (2, .long x2), (4, .int x4)] [] M) : ∀ (n : Nat) (x2 : Int64) (x4 : Int32) (x5 : Int32) (M : rm_M), fX8_paged_L18 a1 q5 n x2 x4 x5 M = some rho → rm_L G 96 ph 6 18 [(0, .ref (ph 79)), (1, .int a1), (2, .long x2), (4, .int x4), (5, .int x5)] [] M := by
  intro n
  induction n with
  | zero => intro x2 x4 x5 M hf; rw [fX8_paged_L18] at hf; cases hf
  | succ n ih =>
    intro x2 x4 x5 M hf
    rw [fX8_paged_L18] at hf
    refine rr_iload_n hG dX8_paged_18 1 rfl rfl ?_
    refine rr_iload hG dX8_paged_19 4 rfl ?_
    refine rr_ishr hG dX8_paged_21 ?_
    refine rr_iconst hG (v := 1) dX8_paged_22 (by decide) ?_
    refine rr_iand hG dX8_paged_23 ?_
    refine rr_if_ne hG (tgt := 33) dX8_paged_24 (by decide) hf (fun c1 hf => ?_) (fun c1 hf => ?_)
    · refine rr_lload_n hG dX8_paged_33 2 rfl rfl ?_
      refine rr_aload_n hG dX8_paged_34 0 rfl rfl ?_
      refine rr_get hG 8 18 (v := .ref (ph 90)) dX8_paged_35 ⟨rfl, by decide⟩ (by decide) rfl tX8_paged_X8 (by decide) kX8_paged_40 rfl rfl ?_
      refine rr_aload_n hG dX8_paged_38 0 rfl rfl ?_
      refine rr_get hG 8 22 (v := .ref (ph 94)) dX8_paged_39 ⟨rfl, by decide⟩ (by decide) rfl tX8_paged_X8 (by decide) kX8_paged_53 rfl rfl ?_
      refine rr_iload hG dX8_paged_42 3 rfl ?_
      refine rr_iald hG dX8_paged_44 ⟨rfl, by decide⟩ hf (fun b2 hf => ?_)
      refine rr_lald hG dX8_paged_45 ⟨rfl, by decide⟩ hf (fun b3 hf => ?_)
      refine rr_aload_n hG dX8_paged_46 0 rfl rfl ?_
      refine rr_aload_n hG dX8_paged_47 0 rfl rfl ?_
      refine rr_get hG 8 22 (v := .ref (ph 94)) dX8_paged_48 ⟨rfl, by decide⟩ (by decide) rfl tX8_paged_X8 (by decide) kX8_paged_53 rfl rfl ?_
      refine rr_iload hG dX8_paged_51 3 rfl ?_
      refine rr_iald hG dX8_paged_53 ⟨rfl, by decide⟩ hf (fun b4 hf => ?_)
      refine rr_cVI hG (st := [.long (M.2.1 90 (M.1 94 (x4).toNatClampNeg).toNatClampNeg), .long x2]) (n := 1) (ci := 8) (rf := 1) (rl := 23) [.int (M.1 94 (x4).toNatClampNeg)] dX8_paged_54 hf ⟨rfl, by decide⟩ (by decide) rfl gX8_paged_X8_sum rfl (by decide +kernel) rfl ⟨by decide, by decide⟩ rfl (Nat.le_of_ble_eq_true rfl) (fun r9 M9 h9 => mX8_sum ph _ _ _ h9) (fun r6 M7 h5 hf => ?_)
      refine rr_i2l hG dX8_paged_57 ?_
      refine rr_lmul hG dX8_paged_58 ?_
      refine rr_iload hG dX8_paged_59 4 rfl ?_
      refine rr_iconst hG (v := 1) dX8_paged_61 (by decide) ?_
      refine rr_iadd hG dX8_paged_62 ?_
      refine rr_i2l hG dX8_paged_63 ?_
      refine rr_lmul hG dX8_paged_64 ?_
      refine rr_ladd hG dX8_paged_65 ?_
      refine rr_bindJ hf (fun v8 ev8 hf => ?_)
      refine rr_lstore_n hG (lv2 := [(2, .long v8), (0, .ref (ph 79)), (1, .int a1), (4, .int x4), (5, .int x5)]) dX8_paged_66 rfl (by decide) rfl ?_
      refine rr_iinc hG (v := x4 + (1 : Int32)) (lv2 := [(4, .int (x4 + (1 : Int32))), (2, .long v8), (0, .ref (ph 79)), (1, .int a1), (5, .int x5)]) (k := 3) dX8_paged_67 rfl rfl (by decide) rfl ?_
      refine rr_goto hG (tgt := 5) dX8_paged_70 (by decide) ?_
      exact rr_sub (lv2 := [(0, .ref (ph 79)), (1, .int a1), (2, .long v8), (4, .int (x4 + (1 : Int32)))]) [2, 3, 1, 0] rfl (hq5 _ _ _ hf)
    · refine rr_iinc hG (v := x5 + (1 : Int32)) (lv2 := [(5, .int (x5 + (1 : Int32))), (0, .ref (ph 79)), (1, .int a1), (2, .long x2), (4, .int x4)]) (k := 4) dX8_paged_27 rfl rfl (by decide) rfl ?_
      refine rr_goto hG (tgt := 18) dX8_paged_30 (by decide) ?_
      exact rr_sub (lv2 := [(0, .ref (ph 79)), (1, .int a1), (2, .long x2), (4, .int x4), (5, .int (x5 + (1 : Int32)))]) [1, 2, 3, 4, 0] rfl (ih _ _ _ _ hf)
set_option maxHeartbeats 4000000 in
set_option maxRecDepth 100000 in
theorem wX8_paged_L5 {G : rm_G} {ph : Nat → Nat} {rho : Int64 × rm_M} (a1 : Int32) (hG : rm_k G 96 ph cX8_paged RX8 wsX8_paged 6 2 44) (hR : rm_rJ G 96 ph rho)    : ∀ (n : Nat) (x2 : Int64) (x4 : Int32) (M : rm_M), fX8_paged_L5 a1 n x2 x4 M = some rho → rm_L G 96 ph 6 5 [(0, .ref (ph 79)), (1, .int a1), (2, .long x2), (4, .int x4)] [] M := by
  intro n
  induction n with
  | zero => intro x2 x4 M hf; rw [fX8_paged_L5] at hf; cases hf
  | succ n ih =>
    intro x2 x4 M hf
    rw [fX8_paged_L5] at hf
    refine rr_iload hG dX8_paged_5 3 rfl ?_
    refine rr_aload_n hG dX8_paged_7 0 rfl rfl ?_
    refine rr_get hG 8 23 dX8_paged_8 ⟨rfl, by decide⟩ (by decide) rfl tX8_paged_X8 (by decide) kX8_paged_215 rfl rfl ?_
    refine rr_icmp_ge hG (tgt := 73) dX8_paged_11 (by decide) hf (fun c9 hf => ?_) (fun c9 hf => ?_)
    · refine rr_lload_n hG dX8_paged_73 2 rfl rfl ?_
      exact rr_lret hG hR dX8_paged_74 hf
    · refine rr_iload hG dX8_paged_14 3 rfl ?_
      refine rr_istore hG (lv2 := [(5, .int x4), (0, .ref (ph 79)), (1, .int a1), (2, .long x2), (4, .int x4)]) dX8_paged_16 (by decide) rfl ?_
      exact rr_sub (lv2 := [(0, .ref (ph 79)), (1, .int a1), (2, .long x2), (4, .int x4), (5, .int x4)]) [1, 2, 3, 4, 0] rfl (wX8_paged_L18 _ hG hR _ (ih) _ _ _ _ _ hf)
set_option maxHeartbeats 4000000 in
set_option maxRecDepth 100000 in
theorem mX8_paged (ph : Nat → Nat) (a1 : Int32) (M : rm_M) (rho : Int64 × rm_M)  (hf : fX8_paged a1 M = some rho) : rm_CJ yX8_paged wsX8_paged 2 44 [.ref (ph 79), .int a1] 96 ph M rho := by
  refine rm_metJ (cc := cX8_paged) (maxL := 6) (by decide +kernel) rfl rfl (Nat.le_of_ble_eq_true rfl) rfl (fun G hG hR => ?_)
  unfold fX8_paged at hf
  refine rr_lconst hG (v := 0) dX8_paged_0 (by decide) ?_
  refine rr_lstore_n hG (lv2 := [(2, .long (0 : Int64)), (0, .ref (ph 79)), (1, .int a1)]) dX8_paged_1 rfl (by decide) rfl ?_
  refine rr_iconst hG (v := 0) dX8_paged_2 (by decide) ?_
  refine rr_istore hG (lv2 := [(4, .int (0 : Int32)), (2, .long (0 : Int64)), (0, .ref (ph 79)), (1, .int a1)]) dX8_paged_3 (by decide) rfl ?_
  exact rr_sub (lv2 := [(0, .ref (ph 79)), (1, .int a1), (2, .long (0 : Int64)), (4, .int (0 : Int32))]) [2, 3, 1, 0] rfl (wX8_paged_L5 _ hG hR _ _ _ _ hf)
/-! X8.isFirst -/
set_option maxHeartbeats 4000000 in
set_option maxRecDepth 100000 in
theorem mX8_isFirst (ph : Nat → Nat) (a0 : Int32) (a1 : Int32) (M : rm_M) (rho : Int32 × rm_M)  (hf : fX8_isFirst a0 a1 M = some rho) : rm_CI yX8_isFirst wsX8_isFirst 0 0 [.int a0, .int a1] 96 ph M rho := by
  refine rm_metI (cc := cX8_isFirst) (maxL := 4) (by decide +kernel) rfl rfl (Nat.le_of_ble_eq_true rfl) rfl (fun G hG hR => ?_)
  unfold fX8_isFirst at hf
  refine rr_iload_n hG dX8_isFirst_0 0 rfl rfl ?_
  refine rr_iload_n hG dX8_isFirst_1 1 rfl rfl ?_
  refine rr_ixor hG dX8_isFirst_2 ?_
  refine rr_bindI hf (fun v1 ev1 hf => ?_)
  refine rr_istore_n hG (lv2 := [(2, .int v1), (0, .int a0), (1, .int a1)]) dX8_isFirst_3 rfl (by decide) rfl ?_
  refine rr_iload_n hG dX8_isFirst_4 0 rfl rfl ?_
  refine rr_iload_n hG dX8_isFirst_5 0 rfl rfl ?_
  refine rr_ineg hG dX8_isFirst_6 ?_
  refine rr_iand hG dX8_isFirst_7 ?_
  refine rr_bindI hf (fun v2 ev2 hf => ?_)
  refine rr_istore_n hG (lv2 := [(3, .int v2), (2, .int v1), (0, .int a0), (1, .int a1)]) dX8_isFirst_8 rfl (by decide) rfl ?_
  refine rr_iload_n hG dX8_isFirst_9 2 rfl rfl ?_
  refine rr_iload_n hG dX8_isFirst_10 0 rfl rfl ?_
  refine rr_iand hG dX8_isFirst_11 ?_
  refine rr_if_eq hG (tgt := 19) dX8_isFirst_12 (by decide) hf (fun c3 hf => ?_) (fun c3 hf => ?_)
  · refine rr_iconst hG (v := 0) dX8_isFirst_19 (by decide) ?_
    exact rr_zret hG hR dX8_isFirst_20 hf
  · refine rr_iconst hG (v := 1) dX8_isFirst_15 (by decide) ?_
    refine rr_goto hG (tgt := 20) dX8_isFirst_16 (by decide) ?_
    exact rr_zret hG hR dX8_isFirst_20 hf
/-! X8.splits -/
theorem tX8_splits_X8 : ∀ w ∈ u_ws RX8 TX8 26, w ∈ wsX8_splits := by decide +kernel
theorem kX8_splits_221 : Cond.fieldLink RX8 221 "RingPagesModel" "cuts" "I" ∈ wsX8_splits := by decide +kernel
theorem kX8_splits_16 : Cond.fieldLink RX8 16 "RingPagesModel" "price" "[I" ∈ wsX8_splits := by decide +kernel
theorem kX8_splits_215 : Cond.fieldLink RX8 215 "RingPagesModel" "rows" "I" ∈ wsX8_splits := by decide +kernel
set_option maxHeartbeats 4000000 in
set_option maxRecDepth 100000 in
theorem wX8_splits_L155 {G : rm_G} {ph : Nat → Nat} {rho : rm_M}  (hG : rm_k G 96 ph cX8_splits RX8 wsX8_splits 8 5 122) (hR : rm_rV G 96 ph rho)  (q29 : Int32 → Int64 → Int32 → rm_M → Option (rm_M)) (hq29 : ∀ (x1 : Int32) (x2 : Int64) (x4 : Int32) (M : rm_M), q29 x1 x2 x4 M = some rho → rm_L G 96 ph 8 29 [(0, .ref (ph 79)), (1, .int x1), (2, .long x2), (4, .int x4)] [] M) : ∀ (x1 : Int32) (x2 : Int64) (x4 : Int32) (s1 : Int32) (M : rm_M), fX8_splits_L155 q29 x1 x2 x4 s1 M = some rho → rm_L G 96 ph 8 155 [(0, .ref (ph 79)), (1, .int x1), (2, .long x2), (4, .int x4)] [.int s1, .ref (ph 79)] M := by
  intro x1 x2 x4 s1 M hf
  unfold fX8_splits_L155 at hf
  refine rr_putI hG 8 24 dX8_splits_155 ⟨rfl, by decide⟩ (by decide) rfl tX8_splits_X8 tyX8_ok nmX8 (by decide) kX8_splits_221 rfl rfl rfl rfl rfl (Nat.le_of_ble_eq_true rfl) rfl ?_
  refine rr_bindM hf (fun M1 eM1 hf => ?_)
  refine rr_iinc hG (v := x4 + (1 : Int32)) (lv2 := [(4, .int (x4 + (1 : Int32))), (0, .ref (ph 79)), (1, .int x1), (2, .long x2)]) (k := 3) dX8_splits_158 rfl rfl (by decide) rfl ?_
  refine rr_goto hG (tgt := 29) dX8_splits_161 (by decide) ?_
  exact rr_sub (lv2 := [(0, .ref (ph 79)), (1, .int x1), (2, .long x2), (4, .int (x4 + (1 : Int32)))]) [1, 2, 3, 0] rfl (hq29 _ _ _ _ hf)
set_option maxHeartbeats 4000000 in
set_option maxRecDepth 100000 in
theorem wX8_splits_L139 {G : rm_G} {ph : Nat → Nat} {rho : rm_M}  (hG : rm_k G 96 ph cX8_splits RX8 wsX8_splits 8 5 122) (hR : rm_rV G 96 ph rho)  (q29 : Int32 → Int64 → Int32 → rm_M → Option (rm_M)) (hq29 : ∀ (x1 : Int32) (x2 : Int64) (x4 : Int32) (M : rm_M), q29 x1 x2 x4 M = some rho → rm_L G 96 ph 8 29 [(0, .ref (ph 79)), (1, .int x1), (2, .long x2), (4, .int x4)] [] M) : ∀ (x1 : Int32) (x4 : Int32) (x7 : Int32) (s0 : Int64) (M : rm_M), fX8_splits_L139 q29 x1 x4 x7 s0 M = some rho → rm_L G 96 ph 8 139 [(0, .ref (ph 79)), (1, .int x1), (4, .int x4), (7, .int x7)] [.long s0] M := by
  intro x1 x4 x7 s0 M hf
  unfold fX8_splits_L139 at hf
  refine rr_lstore_n hG (lv2 := [(2, .long s0), (0, .ref (ph 79)), (1, .int x1), (4, .int x4), (7, .int x7)]) dX8_splits_139 rfl (by decide) rfl ?_
  refine rr_aload_n hG dX8_splits_140 1 rfl rfl ?_
  refine rr_iload hG dX8_splits_141 4 rfl ?_
  refine rr_if_eq hG (tgt := 151) dX8_splits_143 (by decide) hf (fun c2 hf => ?_) (fun c2 hf => ?_)
  · refine rr_aload_n hG dX8_splits_151 1 rfl rfl ?_
    refine rr_get hG 8 24 dX8_splits_152 ⟨rfl, by decide⟩ (by decide) rfl tX8_splits_X8 (by decide) kX8_splits_221 rfl rfl ?_
    exact rr_sub (lv2 := [(0, .ref (ph 79)), (1, .int x1), (2, .long s0), (4, .int x4)]) [1, 2, 0, 3] rfl (wX8_splits_L155 hG hR _ (hq29) _ _ _ _ _ hf)
  · refine rr_iload hG dX8_splits_146 3 rfl ?_
    refine rr_goto hG (tgt := 155) dX8_splits_148 (by decide) ?_
    exact rr_sub (lv2 := [(0, .ref (ph 79)), (1, .int x1), (2, .long s0), (4, .int x4)]) [1, 2, 0, 3] rfl (wX8_splits_L155 hG hR _ (hq29) _ _ _ _ _ hf)
set_option maxHeartbeats 4000000 in
set_option maxRecDepth 100000 in
theorem wX8_splits_L126 {G : rm_G} {ph : Nat → Nat} {rho : rm_M}  (hG : rm_k G 96 ph cX8_splits RX8 wsX8_splits 8 5 122) (hR : rm_rV G 96 ph rho)  (q29 : Int32 → Int64 → Int32 → rm_M → Option (rm_M)) (hq29 : ∀ (x1 : Int32) (x2 : Int64) (x4 : Int32) (M : rm_M), q29 x1 x2 x4 M = some rho → rm_L G 96 ph 8 29 [(0, .ref (ph 79)), (1, .int x1), (2, .long x2), (4, .int x4)] [] M) : ∀ (x1 : Int32) (x2 : Int64) (x4 : Int32) (x5 : Int64) (s0 : Int32) (M : rm_M), fX8_splits_L126 q29 x1 x2 x4 x5 s0 M = some rho → rm_L G 96 ph 8 126 [(0, .ref (ph 79)), (1, .int x1), (2, .long x2), (4, .int x4), (5, .long x5)] [.int s0] M := by
  intro x1 x2 x4 x5 s0 M hf
  unfold fX8_splits_L126 at hf
  refine rr_istore hG (lv2 := [(7, .int s0), (0, .ref (ph 79)), (1, .int x1), (2, .long x2), (4, .int x4), (5, .long x5)]) dX8_splits_126 (by decide) rfl ?_
  refine rr_iload hG dX8_splits_128 0 rfl ?_
  refine rr_if_eq hG (tgt := 138) dX8_splits_130 (by decide) hf (fun c3 hf => ?_) (fun c3 hf => ?_)
  · refine rr_lload_n hG dX8_splits_138 3 rfl rfl ?_
    exact rr_sub (lv2 := [(0, .ref (ph 79)), (1, .int x1), (4, .int x4), (7, .int s0)]) [1, 2, 4, 0] rfl (wX8_splits_L139 hG hR _ (hq29) _ _ _ _ _ hf)
  · refine rr_lload hG dX8_splits_133 5 rfl ?_
    refine rr_goto hG (tgt := 139) dX8_splits_135 (by decide) ?_
    exact rr_sub (lv2 := [(0, .ref (ph 79)), (1, .int x1), (4, .int x4), (7, .int s0)]) [1, 2, 4, 0] rfl (wX8_splits_L139 hG hR _ (hq29) _ _ _ _ _ hf)
set_option maxHeartbeats 4000000 in
set_option maxRecDepth 100000 in
theorem wX8_splits_L121 {G : rm_G} {ph : Nat → Nat} {rho : rm_M}  (hG : rm_k G 96 ph cX8_splits RX8 wsX8_splits 8 5 122) (hR : rm_rV G 96 ph rho)  (q29 : Int32 → Int64 → Int32 → rm_M → Option (rm_M)) (hq29 : ∀ (x1 : Int32) (x2 : Int64) (x4 : Int32) (M : rm_M), q29 x1 x2 x4 M = some rho → rm_L G 96 ph 8 29 [(0, .ref (ph 79)), (1, .int x1), (2, .long x2), (4, .int x4)] [] M) : ∀ (x1 : Int32) (x2 : Int64) (x4 : Int32) (x5 : Int64) (M : rm_M), fX8_splits_L121 q29 x1 x2 x4 x5 M = some rho → rm_L G 96 ph 8 121 [(0, .ref (ph 79)), (1, .int x1), (2, .long x2), (4, .int x4), (5, .long x5)] [] M := by
  intro x1 x2 x4 x5 M hf
  unfold fX8_splits_L121 at hf
  refine rr_iconst hG (v := 1) dX8_splits_121 (by decide) ?_
  refine rr_goto hG (tgt := 126) dX8_splits_122 (by decide) ?_
  exact rr_sub (lv2 := [(0, .ref (ph 79)), (1, .int x1), (2, .long x2), (4, .int x4), (5, .long x5)]) [0, 1, 2, 3, 4] rfl (wX8_splits_L126 hG hR _ (hq29) _ _ _ _ _ _ hf)
set_option maxHeartbeats 4000000 in
set_option maxRecDepth 100000 in
theorem wX8_splits_L125 {G : rm_G} {ph : Nat → Nat} {rho : rm_M}  (hG : rm_k G 96 ph cX8_splits RX8 wsX8_splits 8 5 122) (hR : rm_rV G 96 ph rho)  (q29 : Int32 → Int64 → Int32 → rm_M → Option (rm_M)) (hq29 : ∀ (x1 : Int32) (x2 : Int64) (x4 : Int32) (M : rm_M), q29 x1 x2 x4 M = some rho → rm_L G 96 ph 8 29 [(0, .ref (ph 79)), (1, .int x1), (2, .long x2), (4, .int x4)] [] M) : ∀ (x1 : Int32) (x2 : Int64) (x4 : Int32) (x5 : Int64) (M : rm_M), fX8_splits_L125 q29 x1 x2 x4 x5 M = some rho → rm_L G 96 ph 8 125 [(0, .ref (ph 79)), (1, .int x1), (2, .long x2), (4, .int x4), (5, .long x5)] [] M := by
  intro x1 x2 x4 x5 M hf
  unfold fX8_splits_L125 at hf
  refine rr_iconst hG (v := 0) dX8_splits_125 (by decide) ?_
  exact rr_sub (lv2 := [(0, .ref (ph 79)), (1, .int x1), (2, .long x2), (4, .int x4), (5, .long x5)]) [0, 1, 2, 3, 4] rfl (wX8_splits_L126 hG hR _ (hq29) _ _ _ _ _ _ hf)
set_option maxHeartbeats 4000000 in
set_option maxRecDepth 100000 in
theorem wX8_splits_L63 {G : rm_G} {ph : Nat → Nat} {rho : rm_M}  (hG : rm_k G 96 ph cX8_splits RX8 wsX8_splits 8 5 122) (hR : rm_rV G 96 ph rho)  (q29 : Int32 → Int64 → Int32 → rm_M → Option (rm_M)) (hq29 : ∀ (x1 : Int32) (x2 : Int64) (x4 : Int32) (M : rm_M), q29 x1 x2 x4 M = some rho → rm_L G 96 ph 8 29 [(0, .ref (ph 79)), (1, .int x1), (2, .long x2), (4, .int x4)] [] M) : ∀ (x1 : Int32) (x2 : Int64) (x4 : Int32) (s0 : Int64) (M : rm_M), fX8_splits_L63 q29 x1 x2 x4 s0 M = some rho → rm_L G 96 ph 8 63 [(0, .ref (ph 79)), (1, .int x1), (2, .long x2), (4, .int x4)] [.long s0] M := by
  intro x1 x2 x4 s0 M hf
  unfold fX8_splits_L63 at hf
  refine rr_lstore hG (lv2 := [(5, .long s0), (0, .ref (ph 79)), (1, .int x1), (2, .long x2), (4, .int x4)]) dX8_splits_63 (by decide) rfl ?_
  refine rr_lload hG dX8_splits_65 0 rfl ?_
  refine rr_lload_n hG dX8_splits_67 3 rfl rfl ?_
  refine rr_lcmp hG dX8_splits_68 ?_
  refine rr_if_lt hG (tgt := 121) dX8_splits_69 (by decide) hf (fun c4 hf => ?_) (fun c4 hf => ?_)
  · exact rr_sub (lv2 := [(0, .ref (ph 79)), (1, .int x1), (2, .long x2), (4, .int x4), (5, .long s0)]) [1, 2, 3, 4, 0] rfl (wX8_splits_L121 hG hR _ (hq29) _ _ _ _ _ hf)
  · refine rr_lload hG dX8_splits_72 0 rfl ?_
    refine rr_lload_n hG dX8_splits_74 3 rfl rfl ?_
    refine rr_lcmp hG dX8_splits_75 ?_
    refine rr_if_ne hG (tgt := 125) dX8_splits_76 (by decide) hf (fun c5 hf => ?_) (fun c5 hf => ?_)
    · exact rr_sub (lv2 := [(0, .ref (ph 79)), (1, .int x1), (2, .long x2), (4, .int x4), (5, .long s0)]) [1, 2, 3, 4, 0] rfl (wX8_splits_L125 hG hR _ (hq29) _ _ _ _ _ hf)
    · refine rr_iload hG dX8_splits_79 4 rfl ?_
      refine rr_cSI hG (st := []) (n := 1) (rf := 0) (rl := 0) [.int x4] dX8_splits_81 hf gX8_splits_X8_bits rfl (by decide +kernel) rfl ⟨by decide, by decide⟩ rfl (Nat.le_of_ble_eq_true rfl) (fun r9 M9 h9 => mX8_bits ph _ _ _ h9) (fun r7 M8 h6 hf => ?_)
      refine rr_aload_n hG dX8_splits_84 1 rfl rfl ?_
      refine rr_get hG 8 24 dX8_splits_85 ⟨rfl, by decide⟩ (by decide) rfl tX8_splits_X8 (by decide) kX8_splits_221 rfl rfl ?_
      refine rr_cSI hG (st := [.int r7]) (n := 1) (rf := 0) (rl := 0) [.int (M8.1 79 24)] dX8_splits_88 hf gX8_splits_X8_bits rfl (by decide +kernel) rfl ⟨by decide, by decide⟩ rfl (Nat.le_of_ble_eq_true rfl) (fun r9 M9 h9 => mX8_bits ph _ _ _ h9) (fun r10 M11 h9 hf => ?_)
      refine rr_icmp_lt hG (tgt := 121) dX8_splits_91 (by decide) hf (fun c12 hf => ?_) (fun c12 hf => ?_)
      · exact rr_sub (lv2 := [(0, .ref (ph 79)), (1, .int x1), (2, .long x2), (4, .int x4), (5, .long s0)]) [1, 2, 3, 4, 0] rfl (wX8_splits_L121 hG hR _ (hq29) _ _ _ _ _ hf)
      · refine rr_iload hG dX8_splits_94 4 rfl ?_
        refine rr_cSI hG (st := []) (n := 1) (rf := 0) (rl := 0) [.int x4] dX8_splits_96 hf gX8_splits_X8_bits rfl (by decide +kernel) rfl ⟨by decide, by decide⟩ rfl (Nat.le_of_ble_eq_true rfl) (fun r9 M9 h9 => mX8_bits ph _ _ _ h9) (fun r14 M15 h13 hf => ?_)
        refine rr_aload_n hG dX8_splits_99 1 rfl rfl ?_
        refine rr_get hG 8 24 dX8_splits_100 ⟨rfl, by decide⟩ (by decide) rfl tX8_splits_X8 (by decide) kX8_splits_221 rfl rfl ?_
        refine rr_cSI hG (st := [.int r14]) (n := 1) (rf := 0) (rl := 0) [.int (M15.1 79 24)] dX8_splits_103 hf gX8_splits_X8_bits rfl (by decide +kernel) rfl ⟨by decide, by decide⟩ rfl (Nat.le_of_ble_eq_true rfl) (fun r9 M9 h9 => mX8_bits ph _ _ _ h9) (fun r17 M18 h16 hf => ?_)
        refine rr_icmp_ne hG (tgt := 125) dX8_splits_106 (by decide) hf (fun c19 hf => ?_) (fun c19 hf => ?_)
        · exact rr_sub (lv2 := [(0, .ref (ph 79)), (1, .int x1), (2, .long x2), (4, .int x4), (5, .long s0)]) [1, 2, 3, 4, 0] rfl (wX8_splits_L125 hG hR _ (hq29) _ _ _ _ _ hf)
        · refine rr_iload hG dX8_splits_109 4 rfl ?_
          refine rr_aload_n hG dX8_splits_111 1 rfl rfl ?_
          refine rr_get hG 8 24 dX8_splits_112 ⟨rfl, by decide⟩ (by decide) rfl tX8_splits_X8 (by decide) kX8_splits_221 rfl rfl ?_
          refine rr_cSI hG (st := []) (n := 2) (rf := 0) (rl := 0) [.int x4, .int (M18.1 79 24)] dX8_splits_115 hf gX8_splits_X8_isFirst rfl (by decide +kernel) rfl ⟨by decide, by decide⟩ rfl (Nat.le_of_ble_eq_true rfl) (fun r9 M9 h9 => mX8_isFirst ph _ _ _ _ h9) (fun r21 M22 h20 hf => ?_)
          refine rr_if_eq hG (tgt := 125) dX8_splits_118 (by decide) hf (fun c23 hf => ?_) (fun c23 hf => ?_)
          · exact rr_sub (lv2 := [(0, .ref (ph 79)), (1, .int x1), (2, .long x2), (4, .int x4), (5, .long s0)]) [1, 2, 3, 4, 0] rfl (wX8_splits_L125 hG hR _ (hq29) _ _ _ _ _ hf)
          · exact rr_sub (lv2 := [(0, .ref (ph 79)), (1, .int x1), (2, .long x2), (4, .int x4), (5, .long s0)]) [1, 2, 3, 4, 0] rfl (wX8_splits_L121 hG hR _ (hq29) _ _ _ _ _ hf)
set_option maxHeartbeats 4000000 in
set_option maxRecDepth 100000 in
theorem wX8_splits_L29 {G : rm_G} {ph : Nat → Nat} {rho : rm_M}  (hG : rm_k G 96 ph cX8_splits RX8 wsX8_splits 8 5 122) (hR : rm_rV G 96 ph rho)    : ∀ (n : Nat) (x1 : Int32) (x2 : Int64) (x4 : Int32) (M : rm_M), fX8_splits_L29 n x1 x2 x4 M = some rho → rm_L G 96 ph 8 29 [(0, .ref (ph 79)), (1, .int x1), (2, .long x2), (4, .int x4)] [] M := by
  intro n
  induction n with
  | zero => intro x1 x2 x4 M hf; rw [fX8_splits_L29] at hf; cases hf
  | succ n ih =>
    intro x1 x2 x4 M hf
    rw [fX8_splits_L29] at hf
    refine rr_iload hG dX8_splits_29 3 rfl ?_
    refine rr_iconst hG (v := 2) dX8_splits_31 (by decide) ?_
    refine rr_iload_n hG dX8_splits_32 1 rfl rfl ?_
    refine rr_imul hG dX8_splits_33 ?_
    refine rr_icmp_ge hG (tgt := 164) dX8_splits_34 (by decide) hf (fun c24 hf => ?_) (fun c24 hf => ?_)
    · exact rr_vret hG hR dX8_splits_164 hf
    · refine rr_iload hG dX8_splits_37 3 rfl ?_
      refine rr_cSI hG (st := []) (n := 1) (rf := 0) (rl := 0) [.int x4] dX8_splits_39 hf gX8_splits_X8_bits rfl (by decide +kernel) rfl ⟨by decide, by decide⟩ rfl (Nat.le_of_ble_eq_true rfl) (fun r9 M9 h9 => mX8_bits ph _ _ _ h9) (fun r26 M27 h25 hf => ?_)
      refine rr_aload_n hG dX8_splits_42 0 rfl rfl ?_
      refine rr_get hG 8 5 (v := .ref (ph 82)) dX8_splits_43 ⟨rfl, by decide⟩ (by decide) rfl tX8_splits_X8 (by decide) kX8_splits_16 rfl rfl ?_
      refine rr_iconst hG (v := 0) dX8_splits_46 (by decide) ?_
      refine rr_iald hG dX8_splits_47 ⟨rfl, by decide⟩ hf (fun b28 hf => ?_)
      refine rr_icmp_gt hG (tgt := 60) dX8_splits_48 (by decide) hf (fun c29 hf => ?_) (fun c29 hf => ?_)
      · refine rr_lload_n hG dX8_splits_60 2 rfl rfl ?_
        refine rr_lconst hG (v := 1) dX8_splits_61 (by decide) ?_
        refine rr_ladd hG dX8_splits_62 ?_
        exact rr_sub (lv2 := [(0, .ref (ph 79)), (1, .int x1), (2, .long x2), (4, .int x4)]) [0, 1, 2, 3] rfl (wX8_splits_L63 hG hR _ (ih) _ _ _ _ _ hf)
      · refine rr_aload_n hG dX8_splits_51 0 rfl rfl ?_
        refine rr_iload hG dX8_splits_52 3 rfl ?_
        refine rr_cVJ hG (st := []) (n := 1) (ci := 8) (rf := 2) (rl := 44) [.int x4] dX8_splits_54 hf ⟨rfl, by decide⟩ (by decide) rfl gX8_splits_X8_paged rfl (by decide +kernel) rfl ⟨by decide, by decide⟩ rfl (Nat.le_of_ble_eq_true rfl) (fun r9 M9 h9 => mX8_paged ph _ _ _ h9) (fun r31 M32 h30 hf => ?_)
        refine rr_goto hG (tgt := 63) dX8_splits_57 (by decide) ?_
        exact rr_sub (lv2 := [(0, .ref (ph 79)), (1, .int x1), (2, .long x2), (4, .int x4)]) [0, 1, 2, 3] rfl (wX8_splits_L63 hG hR _ (ih) _ _ _ _ _ hf)
set_option maxHeartbeats 4000000 in
set_option maxRecDepth 100000 in
theorem mX8_splits (ph : Nat → Nat)  (M : rm_M) (rho : rm_M)  (hf : fX8_splits M = some rho) : rm_CV yX8_splits wsX8_splits 5 122 [.ref (ph 79)] 96 ph M rho := by
  refine rm_metV (cc := cX8_splits) (maxL := 8) (by decide +kernel) rfl rfl (Nat.le_of_ble_eq_true rfl) rfl (fun G hG hR => ?_)
  unfold fX8_splits at hf
  refine rr_aload_n hG dX8_splits_0 0 rfl rfl ?_
  refine rr_cVV hG (st := []) (n := 0) (ci := 8) (rf := 4) (rl := 99) [] dX8_splits_1 hf ⟨rfl, by decide⟩ (by decide) rfl gX8_splits_X8_ranks rfl (by decide +kernel) rfl ⟨by decide, by decide⟩ rfl (Nat.le_of_ble_eq_true rfl) (fun M9 h9 => mX8_ranks ph _ _ h9) (fun M34 h33 hf => ?_)
  refine rr_iconst hG (v := 1) dX8_splits_4 (by decide) ?_
  refine rr_aload_n hG dX8_splits_5 0 rfl rfl ?_
  refine rr_get hG 8 23 dX8_splits_6 ⟨rfl, by decide⟩ (by decide) rfl tX8_splits_X8 (by decide) kX8_splits_215 rfl rfl ?_
  refine rr_iconst hG (v := 1) dX8_splits_9 (by decide) ?_
  refine rr_isub hG dX8_splits_10 ?_
  refine rr_ishl hG dX8_splits_11 ?_
  refine rr_bindI hf (fun v35 ev35 hf => ?_)
  refine rr_istore_n hG (lv2 := [(1, .int v35), (0, .ref (ph 79))]) dX8_splits_12 rfl (by decide) rfl ?_
  refine rr_aload_n hG dX8_splits_13 1 rfl rfl ?_
  refine rr_iload_n hG dX8_splits_14 0 rfl rfl ?_
  refine rr_putI hG 8 24 dX8_splits_15 ⟨rfl, by decide⟩ (by decide) rfl tX8_splits_X8 tyX8_ok nmX8 (by decide) kX8_splits_221 rfl rfl rfl rfl rfl (Nat.le_of_ble_eq_true rfl) rfl ?_
  refine rr_bindM hf (fun M36 eM36 hf => ?_)
  refine rr_aload_n hG dX8_splits_18 1 rfl rfl ?_
  refine rr_iload_n hG dX8_splits_19 0 rfl rfl ?_
  refine rr_cVJ hG (st := []) (n := 1) (ci := 8) (rf := 2) (rl := 44) [.int v35] dX8_splits_20 hf ⟨rfl, by decide⟩ (by decide) rfl gX8_splits_X8_paged rfl (by decide +kernel) rfl ⟨by decide, by decide⟩ rfl (Nat.le_of_ble_eq_true rfl) (fun r9 M9 h9 => mX8_paged ph _ _ _ h9) (fun r38 M39 h37 hf => ?_)
  refine rr_lstore_n hG (lv2 := [(2, .long r38), (1, .int v35), (0, .ref (ph 79))]) dX8_splits_23 rfl (by decide) rfl ?_
  refine rr_iload_n hG dX8_splits_24 1 rfl rfl ?_
  refine rr_iconst hG (v := 1) dX8_splits_25 (by decide) ?_
  refine rr_iadd hG dX8_splits_26 ?_
  refine rr_bindI hf (fun v40 ev40 hf => ?_)
  refine rr_istore hG (lv2 := [(4, .int v40), (2, .long r38), (1, .int v35), (0, .ref (ph 79))]) dX8_splits_27 (by decide) rfl ?_
  exact rr_sub (lv2 := [(0, .ref (ph 79)), (1, .int v35), (2, .long r38), (4, .int v40)]) [3, 2, 1, 0] rfl (wX8_splits_L29 hG hR _ _ _ _ _ hf)
/-! X8.round -/
theorem tX8_round_X8 : ∀ w ∈ u_ws RX8 TX8 26, w ∈ wsX8_round := by decide +kernel
theorem kX8_round_221 : Cond.fieldLink RX8 221 "RingPagesModel" "cuts" "I" ∈ wsX8_round := by decide +kernel
theorem kX8_round_215 : Cond.fieldLink RX8 215 "RingPagesModel" "rows" "I" ∈ wsX8_round := by decide +kernel
theorem kX8_round_53 : Cond.fieldLink RX8 53 "RingPagesModel" "row" "[I" ∈ wsX8_round := by decide +kernel
set_option maxHeartbeats 4000000 in
set_option maxRecDepth 100000 in
theorem wX8_round_L58 {G : rm_G} {ph : Nat → Nat} {rho : Int32 × rm_M} (a1 : Int32) (hG : rm_k G 96 ph cX8_round RX8 wsX8_round 5 6 149) (hR : rm_rI G 96 ph .int rho)  (q30 : Int32 → Int32 → Int32 → rm_M → Option (Int32 × rm_M)) (hq30 : ∀ (x2 : Int32) (x3 : Int32) (x4 : Int32) (M : rm_M), q30 x2 x3 x4 M = some rho → rm_L G 96 ph 5 30 [(0, .ref (ph 79)), (1, .int a1), (2, .int x2), (3, .int x3), (4, .int x4)] [] M) : ∀ (x2 : Int32) (x4 : Int32) (s0 : Int32) (s1 : Int32) (M : rm_M), fX8_round_L58 a1 q30 x2 x4 s0 s1 M = some rho → rm_L G 96 ph 5 58 [(0, .ref (ph 79)), (1, .int a1), (2, .int x2), (4, .int x4)] [.int s1, .int s0] M := by
  intro x2 x4 s0 s1 M hf
  unfold fX8_round_L58 at hf
  refine rr_ior hG dX8_round_58 ?_
  refine rr_bindI hf (fun v1 ev1 hf => ?_)
  refine rr_istore_n hG (lv2 := [(3, .int v1), (0, .ref (ph 79)), (1, .int a1), (2, .int x2), (4, .int x4)]) dX8_round_59 rfl (by decide) rfl ?_
  refine rr_iload_n hG dX8_round_60 3 rfl rfl ?_
  refine rr_aload_n hG dX8_round_61 1 rfl rfl ?_
  refine rr_get hG 8 24 dX8_round_62 ⟨rfl, by decide⟩ (by decide) rfl tX8_round_X8 (by decide) kX8_round_221 rfl rfl ?_
  refine rr_iload hG dX8_round_65 4 rfl ?_
  refine rr_ishr hG dX8_round_67 ?_
  refine rr_iconst hG (v := 1) dX8_round_68 (by decide) ?_
  refine rr_iand hG dX8_round_69 ?_
  refine rr_iadd hG dX8_round_70 ?_
  refine rr_bindI hf (fun v2 ev2 hf => ?_)
  refine rr_istore_n hG (lv2 := [(2, .int v2), (3, .int v1), (0, .ref (ph 79)), (1, .int a1), (4, .int x4)]) dX8_round_71 rfl (by decide) rfl ?_
  refine rr_iinc hG (v := x4 + (1 : Int32)) (lv2 := [(4, .int (x4 + (1 : Int32))), (2, .int v2), (3, .int v1), (0, .ref (ph 79)), (1, .int a1)]) (k := 4) dX8_round_72 rfl rfl (by decide) rfl ?_
  refine rr_goto hG (tgt := 30) dX8_round_75 (by decide) ?_
  exact rr_sub (lv2 := [(0, .ref (ph 79)), (1, .int a1), (2, .int v2), (3, .int v1), (4, .int (x4 + (1 : Int32)))]) [3, 4, 1, 2, 0] rfl (hq30 _ _ _ _ hf)
set_option maxHeartbeats 4000000 in
set_option maxRecDepth 100000 in
theorem wX8_round_L30 {G : rm_G} {ph : Nat → Nat} {rho : Int32 × rm_M} (a1 : Int32) (hG : rm_k G 96 ph cX8_round RX8 wsX8_round 5 6 149) (hR : rm_rI G 96 ph .int rho)    : ∀ (n : Nat) (x2 : Int32) (x3 : Int32) (x4 : Int32) (M : rm_M), fX8_round_L30 a1 n x2 x3 x4 M = some rho → rm_L G 96 ph 5 30 [(0, .ref (ph 79)), (1, .int a1), (2, .int x2), (3, .int x3), (4, .int x4)] [] M := by
  intro n
  induction n with
  | zero => intro x2 x3 x4 M hf; rw [fX8_round_L30] at hf; cases hf
  | succ n ih =>
    intro x2 x3 x4 M hf
    rw [fX8_round_L30] at hf
    refine rr_iload hG dX8_round_30 4 rfl ?_
    refine rr_aload_n hG dX8_round_32 0 rfl rfl ?_
    refine rr_get hG 8 23 dX8_round_33 ⟨rfl, by decide⟩ (by decide) rfl tX8_round_X8 (by decide) kX8_round_215 rfl rfl ?_
    refine rr_icmp_ge hG (tgt := 78) dX8_round_36 (by decide) hf (fun c3 hf => ?_) (fun c3 hf => ?_)
    · refine rr_iload_n hG dX8_round_78 3 rfl rfl ?_
      refine rr_if_ne hG (tgt := 87) dX8_round_79 (by decide) hf (fun c4 hf => ?_) (fun c4 hf => ?_)
      · refine rr_iload_n hG dX8_round_87 3 rfl rfl ?_
        exact rr_iret hG hR dX8_round_88 hf
      · refine rr_bipush hG (v := (-4)) dX8_round_82 (by decide) ?_
        refine rr_goto hG (tgt := 88) dX8_round_84 (by decide) ?_
        exact rr_iret hG hR dX8_round_88 hf
    · refine rr_iload_n hG dX8_round_39 3 rfl rfl ?_
      refine rr_iload_n hG dX8_round_40 2 rfl rfl ?_
      refine rr_iload_n hG dX8_round_41 1 rfl rfl ?_
      refine rr_icmp_ne hG (tgt := 57) dX8_round_42 (by decide) hf (fun c5 hf => ?_) (fun c5 hf => ?_)
      · refine rr_iconst hG (v := 0) dX8_round_57 (by decide) ?_
        exact rr_sub (lv2 := [(0, .ref (ph 79)), (1, .int a1), (2, .int x2), (4, .int x4)]) [0, 1, 2, 4] rfl (wX8_round_L58 _ hG hR _ (ih) _ _ _ _ _ hf)
      · refine rr_iconst hG (v := 1) dX8_round_45 (by decide) ?_
        refine rr_aload_n hG dX8_round_46 0 rfl rfl ?_
        refine rr_get hG 8 22 (v := .ref (ph 94)) dX8_round_47 ⟨rfl, by decide⟩ (by decide) rfl tX8_round_X8 (by decide) kX8_round_53 rfl rfl ?_
        refine rr_iload hG dX8_round_50 4 rfl ?_
        refine rr_iald hG dX8_round_52 ⟨rfl, by decide⟩ hf (fun b6 hf => ?_)
        refine rr_ishl hG dX8_round_53 ?_
        refine rr_goto hG (tgt := 58) dX8_round_54 (by decide) ?_
        exact rr_sub (lv2 := [(0, .ref (ph 79)), (1, .int a1), (2, .int x2), (4, .int x4)]) [0, 1, 2, 4] rfl (wX8_round_L58 _ hG hR _ (ih) _ _ _ _ _ hf)
set_option maxHeartbeats 4000000 in
set_option maxRecDepth 100000 in
theorem mX8_round (ph : Nat → Nat) (a1 : Int32) (M : rm_M) (rho : Int32 × rm_M)  (hf : fX8_round a1 M = some rho) : rm_CI yX8_round wsX8_round 6 149 [.ref (ph 79), .int a1] 96 ph M rho := by
  refine rm_metI (cc := cX8_round) (maxL := 5) (by decide +kernel) rfl rfl (Nat.le_of_ble_eq_true rfl) rfl (fun G hG hR => ?_)
  unfold fX8_round at hf
  refine rr_iload_n hG dX8_round_0 1 rfl rfl ?_
  refine rr_iconst hG (v := (-1)) dX8_round_1 (by decide) ?_
  refine rr_icmp_ge hG (tgt := 7) dX8_round_2 (by decide) hf (fun c7 hf => ?_) (fun c7 hf => ?_)
  · refine rr_aload_n hG dX8_round_7 0 rfl rfl ?_
    refine rr_cVV hG (st := []) (n := 0) (ci := 8) (rf := 5) (rl := 122) [] dX8_round_8 hf ⟨rfl, by decide⟩ (by decide) rfl gX8_round_X8_splits rfl (by decide +kernel) rfl ⟨by decide, by decide⟩ rfl (Nat.le_of_ble_eq_true rfl) (fun M9 h9 => mX8_splits ph _ _ h9) (fun M9 h8 hf => ?_)
    refine rr_iload_n hG dX8_round_11 1 rfl rfl ?_
    refine rr_if_ge hG (tgt := 23) dX8_round_12 (by decide) hf (fun c10 hf => ?_) (fun c10 hf => ?_)
    · refine rr_iconst hG (v := 0) dX8_round_23 (by decide) ?_
      refine rr_istore_n hG (lv2 := [(2, .int (0 : Int32)), (0, .ref (ph 79)), (1, .int a1)]) dX8_round_24 rfl (by decide) rfl ?_
      refine rr_iconst hG (v := 0) dX8_round_25 (by decide) ?_
      refine rr_istore_n hG (lv2 := [(3, .int (0 : Int32)), (2, .int (0 : Int32)), (0, .ref (ph 79)), (1, .int a1)]) dX8_round_26 rfl (by decide) rfl ?_
      refine rr_iconst hG (v := 0) dX8_round_27 (by decide) ?_
      refine rr_istore hG (lv2 := [(4, .int (0 : Int32)), (3, .int (0 : Int32)), (2, .int (0 : Int32)), (0, .ref (ph 79)), (1, .int a1)]) dX8_round_28 (by decide) rfl ?_
      exact rr_sub (lv2 := [(0, .ref (ph 79)), (1, .int a1), (2, .int (0 : Int32)), (3, .int (0 : Int32)), (4, .int (0 : Int32))]) [3, 4, 2, 1, 0] rfl (wX8_round_L30 _ hG hR _ _ _ _ _ hf)
    · refine rr_aload_n hG dX8_round_15 0 rfl rfl ?_
      refine rr_get hG 8 24 dX8_round_16 ⟨rfl, by decide⟩ (by decide) rfl tX8_round_X8 (by decide) kX8_round_221 rfl rfl ?_
      refine rr_cSI hG (st := []) (n := 1) (rf := 0) (rl := 0) [.int (M9.1 79 24)] dX8_round_19 hf gX8_round_X8_bits rfl (by decide +kernel) rfl ⟨by decide, by decide⟩ rfl (Nat.le_of_ble_eq_true rfl) (fun r9 M9 h9 => mX8_bits ph _ _ _ h9) (fun r12 M13 h11 hf => ?_)
      exact rr_iret hG hR dX8_round_22 hf
  · refine rr_iconst hG (v := (-1)) dX8_round_5 (by decide) ?_
    exact rr_iret hG hR dX8_round_6 hf
/-! X8.page -/
theorem tX8_page_X8 : ∀ w ∈ u_ws RX8 TX8 26, w ∈ wsX8_page := by decide +kernel
theorem kX8_page_221 : Cond.fieldLink RX8 221 "RingPagesModel" "cuts" "I" ∈ wsX8_page := by decide +kernel
theorem kX8_page_19 : Cond.fieldLink RX8 19 "RingPagesModel" "now" "[I" ∈ wsX8_page := by decide +kernel
theorem kX8_page_53 : Cond.fieldLink RX8 53 "RingPagesModel" "row" "[I" ∈ wsX8_page := by decide +kernel
set_option maxHeartbeats 4000000 in
set_option maxRecDepth 100000 in
theorem wX8_page_L28 {G : rm_G} {ph : Nat → Nat} {rho : Int32 × rm_M}  (hG : rm_k G 96 ph cX8_page RX8 wsX8_page 2 6 149) (hR : rm_rI G 96 ph .int rho)    : ∀ (n : Nat) (x1 : Int32) (M : rm_M), fX8_page_L28 n x1 M = some rho → rm_L G 96 ph 2 28 [(0, .ref (ph 79)), (1, .int x1)] [] M := by
  intro n
  induction n with
  | zero => intro x1 M hf; rw [fX8_page_L28] at hf; cases hf
  | succ n ih =>
    intro x1 M hf
    rw [fX8_page_L28] at hf
    refine rr_aload_n hG dX8_page_28 0 rfl rfl ?_
    refine rr_get hG 8 24 dX8_page_29 ⟨rfl, by decide⟩ (by decide) rfl tX8_page_X8 (by decide) kX8_page_221 rfl rfl ?_
    refine rr_iload_n hG dX8_page_32 1 rfl rfl ?_
    refine rr_ishr hG dX8_page_33 ?_
    refine rr_iconst hG (v := 1) dX8_page_34 (by decide) ?_
    refine rr_iand hG dX8_page_35 ?_
    refine rr_if_ne hG (tgt := 45) dX8_page_36 (by decide) hf (fun c1 hf => ?_) (fun c1 hf => ?_)
    · refine rr_aload_n hG dX8_page_45 0 rfl rfl ?_
      refine rr_cVV hG (st := []) (n := 0) (ci := 8) (rf := 0) (rl := 0) [] dX8_page_46 hf ⟨rfl, by decide⟩ (by decide) rfl gX8_page_X8_keeps rfl (by decide +kernel) rfl ⟨by decide, by decide⟩ rfl (Nat.le_of_ble_eq_true rfl) (fun M9 h9 => mX8_keeps ph _ _ h9) (fun M3 h2 hf => ?_)
      refine rr_aload_n hG dX8_page_49 0 rfl rfl ?_
      refine rr_get hG 8 6 (v := .ref (ph 83)) dX8_page_50 ⟨rfl, by decide⟩ (by decide) rfl tX8_page_X8 (by decide) kX8_page_19 rfl rfl ?_
      refine rr_bipush hG (v := 19) dX8_page_53 (by decide) ?_
      refine rr_dup2 hG dX8_page_55 rfl rfl ?_
      refine rr_iald hG dX8_page_56 ⟨rfl, by decide⟩ hf (fun b4 hf => ?_)
      refine rr_iload_n hG dX8_page_57 1 rfl rfl ?_
      refine rr_iconst hG (v := 1) dX8_page_58 (by decide) ?_
      refine rr_iadd hG dX8_page_59 ?_
      refine rr_iadd hG dX8_page_60 ?_
      refine rr_iast hG dX8_page_61 ⟨rfl, by decide⟩ hf (fun b5 hf => ?_)
      refine rr_bindM hf (fun M6 eM6 hf => ?_)
      refine rr_aload_n hG dX8_page_62 0 rfl rfl ?_
      refine rr_get hG 8 6 (v := .ref (ph 83)) dX8_page_63 ⟨rfl, by decide⟩ (by decide) rfl tX8_page_X8 (by decide) kX8_page_19 rfl rfl ?_
      refine rr_cSV hG (st := []) (n := 1) (rf := 0) (rl := 0) [.ref (ph 83)] dX8_page_66 hf gX8_page_X8_registers rfl (by decide +kernel) rfl ⟨by decide, by decide⟩ rfl (Nat.le_of_ble_eq_true rfl) (fun M9 h9 => mX8_registers ph _ _ _ (rm_kself ⟨rfl, by decide⟩) h9) (fun M8 h7 hf => ?_)
      refine rr_iload_n hG dX8_page_69 1 rfl rfl ?_
      refine rr_iconst hG (v := 1) dX8_page_70 (by decide) ?_
      refine rr_iadd hG dX8_page_71 ?_
      exact rr_iret hG hR dX8_page_72 hf
    · refine rr_iinc hG (v := x1 + (1 : Int32)) (lv2 := [(1, .int (x1 + (1 : Int32))), (0, .ref (ph 79))]) (k := 1) dX8_page_39 rfl rfl (by decide) rfl ?_
      refine rr_goto hG (tgt := 28) dX8_page_42 (by decide) ?_
      exact rr_sub (lv2 := [(0, .ref (ph 79)), (1, .int (x1 + (1 : Int32)))]) [1, 0] rfl (ih _ _ hf)
set_option maxHeartbeats 4000000 in
set_option maxRecDepth 100000 in
theorem wX8_page_L6 {G : rm_G} {ph : Nat → Nat} {rho : Int32 × rm_M}  (hG : rm_k G 96 ph cX8_page RX8 wsX8_page 2 6 149) (hR : rm_rI G 96 ph .int rho)    : ∀ (n : Nat) (x1 : Int32) (M : rm_M), fX8_page_L6 n x1 M = some rho → rm_L G 96 ph 2 6 [(0, .ref (ph 79)), (1, .int x1)] [] M := by
  intro n
  induction n with
  | zero => intro x1 M hf; rw [fX8_page_L6] at hf; cases hf
  | succ n ih =>
    intro x1 M hf
    rw [fX8_page_L6] at hf
    refine rr_aload_n hG dX8_page_6 0 rfl rfl ?_
    refine rr_get hG 8 22 (v := .ref (ph 94)) dX8_page_7 ⟨rfl, by decide⟩ (by decide) rfl tX8_page_X8 (by decide) kX8_page_53 rfl rfl ?_
    refine rr_iload_n hG dX8_page_10 1 rfl rfl ?_
    refine rr_iald hG dX8_page_11 ⟨rfl, by decide⟩ hf (fun b9 hf => ?_)
    refine rr_aload_n hG dX8_page_12 0 rfl rfl ?_
    refine rr_get hG 8 6 (v := .ref (ph 83)) dX8_page_13 ⟨rfl, by decide⟩ (by decide) rfl tX8_page_X8 (by decide) kX8_page_19 rfl rfl ?_
    refine rr_bipush hG (v := 14) dX8_page_16 (by decide) ?_
    refine rr_iald hG dX8_page_18 ⟨rfl, by decide⟩ hf (fun b10 hf => ?_)
    refine rr_icmp_eq hG (tgt := 28) dX8_page_19 (by decide) hf (fun c11 hf => ?_) (fun c11 hf => ?_)
    · exact rr_sub (lv2 := [(0, .ref (ph 79)), (1, .int x1)]) [0, 1] rfl (wX8_page_L28 hG hR _ _ _ hf)
    · refine rr_iinc hG (v := x1 + (1 : Int32)) (lv2 := [(1, .int (x1 + (1 : Int32))), (0, .ref (ph 79))]) (k := 1) dX8_page_22 rfl rfl (by decide) rfl ?_
      refine rr_goto hG (tgt := 6) dX8_page_25 (by decide) ?_
      exact rr_sub (lv2 := [(0, .ref (ph 79)), (1, .int (x1 + (1 : Int32)))]) [1, 0] rfl (ih _ _ hf)
set_option maxHeartbeats 4000000 in
set_option maxRecDepth 100000 in
theorem mX8_page (ph : Nat → Nat)  (M : rm_M) (rho : Int32 × rm_M)  (hf : fX8_page M = some rho) : rm_CI yX8_page wsX8_page 6 149 [.ref (ph 79)] 96 ph M rho := by
  refine rm_metI (cc := cX8_page) (maxL := 2) (by decide +kernel) rfl rfl (Nat.le_of_ble_eq_true rfl) rfl (fun G hG hR => ?_)
  unfold fX8_page at hf
  refine rr_aload_n hG dX8_page_0 0 rfl rfl ?_
  refine rr_cVV hG (st := []) (n := 0) (ci := 8) (rf := 5) (rl := 122) [] dX8_page_1 hf ⟨rfl, by decide⟩ (by decide) rfl gX8_page_X8_splits rfl (by decide +kernel) rfl ⟨by decide, by decide⟩ rfl (Nat.le_of_ble_eq_true rfl) (fun M9 h9 => mX8_splits ph _ _ h9) (fun M13 h12 hf => ?_)
  refine rr_iconst hG (v := 0) dX8_page_4 (by decide) ?_
  refine rr_istore_n hG (lv2 := [(1, .int (0 : Int32)), (0, .ref (ph 79))]) dX8_page_5 rfl (by decide) rfl ?_
  exact rr_sub (lv2 := [(0, .ref (ph 79)), (1, .int (0 : Int32))]) [1, 0] rfl (wX8_page_L6 hG hR _ _ _ hf)
