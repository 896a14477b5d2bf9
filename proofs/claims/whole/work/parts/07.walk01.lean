/-! X0.reckon -/
theorem tX0_reckon_X0 : ∀ w ∈ u_ws RX0 TX0 6, w ∈ wsX0_reckon := by decide +kernel
theorem tX0_reckon_X1 : ∀ w ∈ u_ws RX1 TX1 12, w ∈ wsX0_reckon := by decide +kernel
theorem tX0_reckon_X4 : ∀ w ∈ u_ws RX4 TX4 10, w ∈ wsX0_reckon := by decide +kernel
theorem kX0_reckon_26 : Cond.fieldLink RX0 26 "RingPages$Net" "cells" "I" ∈ wsX0_reckon := by decide +kernel
theorem kX0_reckon_43 : Cond.fieldLink RX0 43 "RingPages$LongRun" "bestKnown" "Z" ∈ wsX0_reckon := by decide +kernel
theorem kX0_reckon_9 : Cond.fieldLink RX0 9 "RingPages$LongRun" "above" "[J" ∈ wsX0_reckon := by decide +kernel
theorem kX0_reckon_32 : Cond.fieldLink RX0 32 "RingPages$State" "stay" "[I" ∈ wsX0_reckon := by decide +kernel
theorem kX0_reckon_37 : Cond.fieldLink RX0 37 "RingPages$Net" "out" "[I" ∈ wsX0_reckon := by decide +kernel
theorem kX0_reckon_40 : Cond.fieldLink RX0 40 "RingPages$Net" "trees" "[J" ∈ wsX0_reckon := by decide +kernel
theorem kX0_reckon_22 : Cond.fieldLink RX0 22 "RingPages$LongRun" "below" "J" ∈ wsX0_reckon := by decide +kernel
set_option maxHeartbeats 4000000 in
set_option maxRecDepth 100000 in
theorem wX0_reckon_L7 {G : rm_G} {NC : Nat} (hN : 79 ≤ NC) {ph : Nat → Nat} {rho : rm_M} (a1 : Nat) (a2 : Nat) (hG : rm_k G NC ph cX0_reckon RX0 wsX0_reckon 4 0 0) (hR : rm_rV G NC ph rho) (ka1 : rm_kq NC a1 (1, 0)) (ka2 : rm_kq NC a2 (4, 0))   : ∀ (n : Nat) (x3 : Int32) (M : rm_M), fX0_reckon_L7 a1 a2 n x3 M = some rho → rm_L G NC ph 4 7 [(0, .ref (ph 6)), (1, .ref (ph a1)), (2, .ref (ph a2)), (3, .int x3)] [] M := by
  intro n
  induction n with
  | zero => intro x3 M hf; rw [fX0_reckon_L7] at hf; cases hf
  | succ n ih =>
    intro x3 M hf
    rw [fX0_reckon_L7] at hf
    refine rr_iload_n hG dX0_reckon_7 3 rfl rfl ?_
    refine rr_aload_n hG dX0_reckon_8 1 rfl rfl ?_
    refine rr_get hG 1 0 dX0_reckon_9 ka1 (by decide) rfl tX0_reckon_X1 (by decide) kX0_reckon_26 rfl rfl ?_
    refine rr_icmp_ge hG (tgt := 63) dX0_reckon_12 (by decide) hf (fun c1 hf => ?_) (fun c1 hf => ?_)
    · refine rr_aload_n hG dX0_reckon_63 0 rfl rfl ?_
      refine rr_iconst hG (v := 0) dX0_reckon_64 (by decide) ?_
      refine rr_putI hG 0 4 dX0_reckon_65 (rm_c hN rfl (by decide)) (by decide) rfl tX0_reckon_X0 tyX0_ok nmX0 (by decide) kX0_reckon_43 rfl rfl rfl rfl rfl (Nat.le_of_ble_eq_true rfl) rfl ?_
      refine rr_bindM hf (fun M2 eM2 hf => ?_)
      exact rr_vret hG hR dX0_reckon_68 hf
    · refine rr_aload_n hG dX0_reckon_15 0 rfl rfl ?_
      refine rr_get hG 0 0 (v := .ref (ph 7)) dX0_reckon_16 (rm_c hN rfl (by decide)) (by decide) rfl tX0_reckon_X0 (by decide) kX0_reckon_9 rfl rfl ?_
      refine rr_iload_n hG dX0_reckon_19 3 rfl rfl ?_
      refine rr_aload_n hG dX0_reckon_20 2 rfl rfl ?_
      refine rr_get hG 4 0 (v := .ref (ph (a2 + 1))) dX0_reckon_21 ka2 (by decide) rfl tX0_reckon_X4 (by decide) kX0_reckon_32 rfl rfl ?_
      refine rr_iload_n hG dX0_reckon_24 3 rfl rfl ?_
      refine rr_iald hG dX0_reckon_25 (rm_kX4_1 hN ka2) hf (fun b3 hf => ?_)
      refine rr_aload_n hG dX0_reckon_26 1 rfl rfl ?_
      refine rr_get hG 1 9 (v := .ref (ph (a1 + 16))) dX0_reckon_27 ka1 (by decide) rfl tX0_reckon_X1 (by decide) kX0_reckon_37 rfl rfl ?_
      refine rr_iload_n hG dX0_reckon_30 3 rfl rfl ?_
      refine rr_iald hG dX0_reckon_31 (rm_kX1_16 hN ka1) hf (fun b4 hf => ?_)
      refine rr_iadd hG dX0_reckon_32 ?_
      refine rr_i2l hG dX0_reckon_33 ?_
      refine rr_aload_n hG dX0_reckon_34 1 rfl rfl ?_
      refine rr_get hG 1 10 (v := .ref (ph (a1 + 17))) dX0_reckon_35 ka1 (by decide) rfl tX0_reckon_X1 (by decide) kX0_reckon_40 rfl rfl ?_
      refine rr_iload_n hG dX0_reckon_38 3 rfl rfl ?_
      refine rr_lald hG dX0_reckon_39 (rm_kX1_17 hN ka1) hf (fun b5 hf => ?_)
      refine rr_lmul hG dX0_reckon_40 ?_
      refine rr_last hG dX0_reckon_41 (rm_c hN rfl (by decide)) hf (fun b6 hf => ?_)
      refine rr_bindM hf (fun M7 eM7 hf => ?_)
      refine rr_aload_n hG dX0_reckon_42 0 rfl rfl ?_
      refine rr_dup hG dX0_reckon_43 rfl ?_
      refine rr_get hG 0 1 dX0_reckon_44 (rm_c hN rfl (by decide)) (by decide) rfl tX0_reckon_X0 (by decide) kX0_reckon_22 rfl rfl ?_
      refine rr_aload_n hG dX0_reckon_47 0 rfl rfl ?_
      refine rr_get hG 0 0 (v := .ref (ph 7)) dX0_reckon_48 (rm_c hN rfl (by decide)) (by decide) rfl tX0_reckon_X0 (by decide) kX0_reckon_9 rfl rfl ?_
      refine rr_iload_n hG dX0_reckon_51 3 rfl rfl ?_
      refine rr_lald hG dX0_reckon_52 (rm_c hN rfl (by decide)) hf (fun b8 hf => ?_)
      refine rr_ladd hG dX0_reckon_53 ?_
      refine rr_putJ hG 0 1 dX0_reckon_54 (rm_c hN rfl (by decide)) (by decide) rfl tX0_reckon_X0 tyX0_ok nmX0 (by decide) kX0_reckon_22 rfl rfl rfl rfl rfl (Nat.le_of_ble_eq_true rfl) rfl ?_
      refine rr_bindM hf (fun M9 eM9 hf => ?_)
      refine rr_iinc hG (v := x3 + (1 : Int32)) (lv2 := [(3, .int (x3 + (1 : Int32))), (0, .ref (ph 6)), (1, .ref (ph a1)), (2, .ref (ph a2))]) (k := 3) dX0_reckon_57 rfl rfl (by decide) rfl ?_
      refine rr_goto hG (tgt := 7) dX0_reckon_60 (by decide) ?_
      exact rr_sub (lv2 := [(0, .ref (ph 6)), (1, .ref (ph a1)), (2, .ref (ph a2)), (3, .int (x3 + (1 : Int32)))]) [1, 2, 3, 0] rfl (ih _ _ hf)
set_option maxHeartbeats 4000000 in
set_option maxRecDepth 100000 in
theorem mX0_reckon {NC : Nat} (hN : 79 ≤ NC) (ph : Nat → Nat) (a1 : Nat) (a2 : Nat) (M : rm_M) (rho : rm_M) (ka1 : rm_kq NC a1 (1, 0)) (ka2 : rm_kq NC a2 (4, 0)) (hf : fX0_reckon a1 a2 M = some rho) : rm_CV yX0_reckon wsX0_reckon 0 0 [.ref (ph 6), .ref (ph a1), .ref (ph a2)] NC ph M rho := by
  refine rm_metV (cc := cX0_reckon) (maxL := 4) (by decide +kernel) rfl rfl (Nat.le_of_ble_eq_true rfl) rfl (fun G hG hR => ?_)
  unfold fX0_reckon at hf
  refine rr_aload_n hG dX0_reckon_0 0 rfl rfl ?_
  refine rr_lconst hG (v := 0) dX0_reckon_1 (by decide) ?_
  refine rr_putJ hG 0 1 dX0_reckon_2 (rm_c hN rfl (by decide)) (by decide) rfl tX0_reckon_X0 tyX0_ok nmX0 (by decide) kX0_reckon_22 rfl rfl rfl rfl rfl (Nat.le_of_ble_eq_true rfl) rfl ?_
  refine rr_bindM hf (fun M10 eM10 hf => ?_)
  refine rr_iconst hG (v := 0) dX0_reckon_5 (by decide) ?_
  refine rr_istore_n hG (lv2 := [(3, .int (0 : Int32)), (0, .ref (ph 6)), (1, .ref (ph a1)), (2, .ref (ph a2))]) dX0_reckon_6 rfl (by decide) rfl ?_
  exact rr_sub (lv2 := [(0, .ref (ph 6)), (1, .ref (ph a1)), (2, .ref (ph a2)), (3, .int (0 : Int32))]) [1, 2, 3, 0] rfl (wX0_reckon_L7 hN _ _ hG hR ka1 ka2 _ _ _ hf)
/-! X0.crosses -/
theorem tX0_crosses_X1 : ∀ w ∈ u_ws RX1 TX1 12, w ∈ wsX0_crosses := by decide +kernel
theorem kX0_crosses_26 : Cond.fieldLink RX0 26 "RingPages$Net" "cells" "I" ∈ wsX0_crosses := by decide +kernel
theorem kX0_crosses_40 : Cond.fieldLink RX0 40 "RingPages$Net" "trees" "[J" ∈ wsX0_crosses := by decide +kernel
theorem kX0_crosses_47 : Cond.fieldLink RX0 47 "RingPages$Net" "weight" "[[I" ∈ wsX0_crosses := by decide +kernel
set_option maxHeartbeats 4000000 in
set_option maxRecDepth 100000 in
theorem wX0_crosses_L59 {G : rm_G} {NC : Nat} (hN : 79 ≤ NC) {ph : Nat → Nat} {rho : Int64 × rm_M} (a1 : Nat) (a2 : Nat) (hG : rm_k G NC ph cX0_crosses RX0 wsX0_crosses 7 0 0) (hR : rm_rJ G NC ph rho) (ka1 : rm_kq NC a1 (1, 0)) (ka2 : rm_kq NC a2 (9, (rm_kd a2).2)) (q5 : Int64 → Int32 → rm_M → Option (Int64 × rm_M)) (q17 : Int64 → Int32 → Int32 → rm_M → Option (Int64 × rm_M)) (hq5 : ∀ (x3 : Int64) (x5 : Int32) (M : rm_M), q5 x3 x5 M = some rho → rm_L G NC ph 7 5 [(1, .ref (ph a1)), (2, .ref (ph a2)), (3, .long x3), (5, .int x5)] [] M) (hq17 : ∀ (x3 : Int64) (x5 : Int32) (x6 : Int32) (M : rm_M), q17 x3 x5 x6 M = some rho → rm_L G NC ph 7 17 [(1, .ref (ph a1)), (2, .ref (ph a2)), (3, .long x3), (5, .int x5), (6, .int x6)] [] M) : ∀ (x3 : Int64) (x5 : Int32) (x6 : Int32) (M : rm_M), fX0_crosses_L59 a1 a2 q5 q17 x3 x5 x6 M = some rho → rm_L G NC ph 7 59 [(1, .ref (ph a1)), (2, .ref (ph a2)), (3, .long x3), (5, .int x5), (6, .int x6)] [] M := by
  intro x3 x5 x6 M hf
  unfold fX0_crosses_L59 at hf
  refine rr_iinc hG (v := x6 + (1 : Int32)) (lv2 := [(6, .int (x6 + (1 : Int32))), (1, .ref (ph a1)), (2, .ref (ph a2)), (3, .long x3), (5, .int x5)]) (k := 4) dX0_crosses_59 rfl rfl (by decide) rfl ?_
  refine rr_goto hG (tgt := 17) dX0_crosses_62 (by decide) ?_
  exact rr_sub (lv2 := [(1, .ref (ph a1)), (2, .ref (ph a2)), (3, .long x3), (5, .int x5), (6, .int (x6 + (1 : Int32)))]) [1, 2, 3, 4, 0] rfl (hq17 _ _ _ _ hf)
set_option maxHeartbeats 4000000 in
set_option maxRecDepth 100000 in
theorem wX0_crosses_L17 {G : rm_G} {NC : Nat} (hN : 79 ≤ NC) {ph : Nat → Nat} {rho : Int64 × rm_M} (a1 : Nat) (a2 : Nat) (hG : rm_k G NC ph cX0_crosses RX0 wsX0_crosses 7 0 0) (hR : rm_rJ G NC ph rho) (ka1 : rm_kq NC a1 (1, 0)) (ka2 : rm_kq NC a2 (9, (rm_kd a2).2)) (q5 : Int64 → Int32 → rm_M → Option (Int64 × rm_M)) (hq5 : ∀ (x3 : Int64) (x5 : Int32) (M : rm_M), q5 x3 x5 M = some rho → rm_L G NC ph 7 5 [(1, .ref (ph a1)), (2, .ref (ph a2)), (3, .long x3), (5, .int x5)] [] M) : ∀ (n : Nat) (x3 : Int64) (x5 : Int32) (x6 : Int32) (M : rm_M), fX0_crosses_L17 a1 a2 q5 n x3 x5 x6 M = some rho → rm_L G NC ph 7 17 [(1, .ref (ph a1)), (2, .ref (ph a2)), (3, .long x3), (5, .int x5), (6, .int x6)] [] M := by
  intro n
  induction n with
  | zero => intro x3 x5 x6 M hf; rw [fX0_crosses_L17] at hf; cases hf
  | succ n ih =>
    intro x3 x5 x6 M hf
    rw [fX0_crosses_L17] at hf
    refine rr_iload hG dX0_crosses_17 4 rfl ?_
    refine rr_aload_n hG dX0_crosses_19 0 rfl rfl ?_
    refine rr_get hG 1 0 dX0_crosses_20 ka1 (by decide) rfl tX0_crosses_X1 (by decide) kX0_crosses_26 rfl rfl ?_
    refine rr_icmp_ge hG (tgt := 65) dX0_crosses_23 (by decide) hf (fun c1 hf => ?_) (fun c1 hf => ?_)
    · refine rr_iinc hG (v := x5 + (1 : Int32)) (lv2 := [(5, .int (x5 + (1 : Int32))), (1, .ref (ph a1)), (2, .ref (ph a2)), (3, .long x3), (6, .int x6)]) (k := 3) dX0_crosses_65 rfl rfl (by decide) rfl ?_
      refine rr_goto hG (tgt := 5) dX0_crosses_68 (by decide) ?_
      exact rr_sub (lv2 := [(1, .ref (ph a1)), (2, .ref (ph a2)), (3, .long x3), (5, .int (x5 + (1 : Int32)))]) [1, 2, 3, 0] rfl (hq5 _ _ _ hf)
    · refine rr_aload_n hG dX0_crosses_26 1 rfl rfl ?_
      refine rr_iload hG dX0_crosses_27 3 rfl ?_
      refine rr_iald hG dX0_crosses_29 ka2 hf (fun b2 hf => ?_)
      refine rr_aload_n hG dX0_crosses_30 1 rfl rfl ?_
      refine rr_iload hG dX0_crosses_31 4 rfl ?_
      refine rr_iald hG dX0_crosses_33 ka2 hf (fun b3 hf => ?_)
      refine rr_icmp_eq hG (tgt := 59) dX0_crosses_34 (by decide) hf (fun c4 hf => ?_) (fun c4 hf => ?_)
      · exact rr_sub (lv2 := [(1, .ref (ph a1)), (2, .ref (ph a2)), (3, .long x3), (5, .int x5), (6, .int x6)]) [0, 1, 2, 3, 4] rfl (wX0_crosses_L59 hN _ _ hG hR ka1 ka2 _ _ (hq5) (ih) _ _ _ _ hf)
      · refine rr_lload_n hG dX0_crosses_37 2 rfl rfl ?_
        refine rr_aload_n hG dX0_crosses_38 0 rfl rfl ?_
        refine rr_get hG 1 10 (v := .ref (ph (a1 + 17))) dX0_crosses_39 ka1 (by decide) rfl tX0_crosses_X1 (by decide) kX0_crosses_40 rfl rfl ?_
        refine rr_iload hG dX0_crosses_42 3 rfl ?_
        refine rr_lald hG dX0_crosses_44 (rm_kX1_17 hN ka1) hf (fun b5 hf => ?_)
        refine rr_aload_n hG dX0_crosses_45 0 rfl rfl ?_
        refine rr_get hG 1 6 (v := .ref (ph (a1 + 1))) dX0_crosses_46 ka1 (by decide) rfl tX0_crosses_X1 (by decide) kX0_crosses_47 rfl rfl ?_
        refine rr_iload hG dX0_crosses_49 3 rfl ?_
        refine rr_aldR hG dX0_crosses_51 (rm_kX1_1 hN ka1) hf (fun b6 hf => ?_)
        refine rr_iload hG dX0_crosses_52 4 rfl ?_
        refine rr_iald hG dX0_crosses_54 (rm_kR hN (rm_kX1_1 hN ka1) b6) hf (fun b7 hf => ?_)
        refine rr_i2l hG dX0_crosses_55 ?_
        refine rr_lmul hG dX0_crosses_56 ?_
        refine rr_ladd hG dX0_crosses_57 ?_
        refine rr_bindJ hf (fun v8 ev8 hf => ?_)
        refine rr_lstore_n hG (lv2 := [(3, .long v8), (1, .ref (ph a1)), (2, .ref (ph a2)), (5, .int x5), (6, .int x6)]) dX0_crosses_58 rfl (by decide) rfl ?_
        exact rr_sub (lv2 := [(1, .ref (ph a1)), (2, .ref (ph a2)), (3, .long v8), (5, .int x5), (6, .int x6)]) [1, 2, 0, 3, 4] rfl (wX0_crosses_L59 hN _ _ hG hR ka1 ka2 _ _ (hq5) (ih) _ _ _ _ hf)
set_option maxHeartbeats 4000000 in
set_option maxRecDepth 100000 in
theorem wX0_crosses_L5 {G : rm_G} {NC : Nat} (hN : 79 ≤ NC) {ph : Nat → Nat} {rho : Int64 × rm_M} (a1 : Nat) (a2 : Nat) (hG : rm_k G NC ph cX0_crosses RX0 wsX0_crosses 7 0 0) (hR : rm_rJ G NC ph rho) (ka1 : rm_kq NC a1 (1, 0)) (ka2 : rm_kq NC a2 (9, (rm_kd a2).2))   : ∀ (n : Nat) (x3 : Int64) (x5 : Int32) (M : rm_M), fX0_crosses_L5 a1 a2 n x3 x5 M = some rho → rm_L G NC ph 7 5 [(1, .ref (ph a1)), (2, .ref (ph a2)), (3, .long x3), (5, .int x5)] [] M := by
  intro n
  induction n with
  | zero => intro x3 x5 M hf; rw [fX0_crosses_L5] at hf; cases hf
  | succ n ih =>
    intro x3 x5 M hf
    rw [fX0_crosses_L5] at hf
    refine rr_iload hG dX0_crosses_5 3 rfl ?_
    refine rr_aload_n hG dX0_crosses_7 0 rfl rfl ?_
    refine rr_get hG 1 0 dX0_crosses_8 ka1 (by decide) rfl tX0_crosses_X1 (by decide) kX0_crosses_26 rfl rfl ?_
    refine rr_icmp_ge hG (tgt := 71) dX0_crosses_11 (by decide) hf (fun c9 hf => ?_) (fun c9 hf => ?_)
    · refine rr_lload_n hG dX0_crosses_71 2 rfl rfl ?_
      exact rr_lret hG hR dX0_crosses_72 hf
    · refine rr_iconst hG (v := 0) dX0_crosses_14 (by decide) ?_
      refine rr_istore hG (lv2 := [(6, .int (0 : Int32)), (1, .ref (ph a1)), (2, .ref (ph a2)), (3, .long x3), (5, .int x5)]) dX0_crosses_15 (by decide) rfl ?_
      exact rr_sub (lv2 := [(1, .ref (ph a1)), (2, .ref (ph a2)), (3, .long x3), (5, .int x5), (6, .int (0 : Int32))]) [1, 2, 3, 4, 0] rfl (wX0_crosses_L17 hN _ _ hG hR ka1 ka2 _ (ih) _ _ _ _ _ hf)
set_option maxHeartbeats 4000000 in
set_option maxRecDepth 100000 in
theorem mX0_crosses {NC : Nat} (hN : 79 ≤ NC) (ph : Nat → Nat) (a1 : Nat) (a2 : Nat) (M : rm_M) (rho : Int64 × rm_M) (ka1 : rm_kq NC a1 (1, 0)) (ka2 : rm_kq NC a2 (9, (rm_kd a2).2)) (hf : fX0_crosses a1 a2 M = some rho) : rm_CJ yX0_crosses wsX0_crosses 0 0 [.ref (ph 6), .ref (ph a1), .ref (ph a2)] NC ph M rho := by
  refine rm_metJ (cc := cX0_crosses) (maxL := 7) (by decide +kernel) rfl rfl (Nat.le_of_ble_eq_true rfl) rfl (fun G hG hR => ?_)
  unfold fX0_crosses at hf
  refine rr_lconst hG (v := 0) dX0_crosses_0 (by decide) ?_
  refine rr_lstore_n hG (lv2 := [(3, .long (0 : Int64)), (0, .ref (ph 6)), (1, .ref (ph a1)), (2, .ref (ph a2))]) dX0_crosses_1 rfl (by decide) rfl ?_
  refine rr_iconst hG (v := 0) dX0_crosses_2 (by decide) ?_
  refine rr_istore hG (lv2 := [(5, .int (0 : Int32)), (3, .long (0 : Int64)), (0, .ref (ph 6)), (1, .ref (ph a1)), (2, .ref (ph a2))]) dX0_crosses_3 (by decide) rfl ?_
  exact rr_sub (lv2 := [(1, .ref (ph a1)), (2, .ref (ph a2)), (3, .long (0 : Int64)), (5, .int (0 : Int32))]) [3, 4, 1, 0] rfl (wX0_crosses_L5 hN _ _ hG hR ka1 ka2 _ _ _ _ hf)
/-! X0.movesOn -/
theorem tX0_movesOn_X1 : ∀ w ∈ u_ws RX1 TX1 12, w ∈ wsX0_movesOn := by decide +kernel
theorem kX0_movesOn_26 : Cond.fieldLink RX0 26 "RingPages$Net" "cells" "I" ∈ wsX0_movesOn := by decide +kernel
theorem kX0_movesOn_40 : Cond.fieldLink RX0 40 "RingPages$Net" "trees" "[J" ∈ wsX0_movesOn := by decide +kernel
theorem kX0_movesOn_37 : Cond.fieldLink RX0 37 "RingPages$Net" "out" "[I" ∈ wsX0_movesOn := by decide +kernel
set_option maxHeartbeats 4000000 in
set_option maxRecDepth 100000 in
theorem wX0_movesOn_L5 {G : rm_G} {NC : Nat} (hN : 79 ≤ NC) {ph : Nat → Nat} {rho : Int64 × rm_M} (a1 : Nat) (hG : rm_k G NC ph cX0_movesOn RX0 wsX0_movesOn 5 0 0) (hR : rm_rJ G NC ph rho) (ka1 : rm_kq NC a1 (1, 0))   : ∀ (n : Nat) (x2 : Int64) (x4 : Int32) (M : rm_M), fX0_movesOn_L5 a1 n x2 x4 M = some rho → rm_L G NC ph 5 5 [(1, .ref (ph a1)), (2, .long x2), (4, .int x4)] [] M := by
  intro n
  induction n with
  | zero => intro x2 x4 M hf; rw [fX0_movesOn_L5] at hf; cases hf
  | succ n ih =>
    intro x2 x4 M hf
    rw [fX0_movesOn_L5] at hf
    refine rr_iload hG dX0_movesOn_5 2 rfl ?_
    refine rr_aload_n hG dX0_movesOn_7 0 rfl rfl ?_
    refine rr_get hG 1 0 dX0_movesOn_8 ka1 (by decide) rfl tX0_movesOn_X1 (by decide) kX0_movesOn_26 rfl rfl ?_
    refine rr_icmp_ge hG (tgt := 39) dX0_movesOn_11 (by decide) hf (fun c1 hf => ?_) (fun c1 hf => ?_)
    · refine rr_lload_n hG dX0_movesOn_39 1 rfl rfl ?_
      exact rr_lret hG hR dX0_movesOn_40 hf
    · refine rr_lload_n hG dX0_movesOn_14 1 rfl rfl ?_
      refine rr_aload_n hG dX0_movesOn_15 0 rfl rfl ?_
      refine rr_get hG 1 10 (v := .ref (ph (a1 + 17))) dX0_movesOn_16 ka1 (by decide) rfl tX0_movesOn_X1 (by decide) kX0_movesOn_40 rfl rfl ?_
      refine rr_iload hG dX0_movesOn_19 2 rfl ?_
      refine rr_lald hG dX0_movesOn_21 (rm_kX1_17 hN ka1) hf (fun b2 hf => ?_)
      refine rr_aload_n hG dX0_movesOn_22 0 rfl rfl ?_
      refine rr_get hG 1 9 (v := .ref (ph (a1 + 16))) dX0_movesOn_23 ka1 (by decide) rfl tX0_movesOn_X1 (by decide) kX0_movesOn_37 rfl rfl ?_
      refine rr_iload hG dX0_movesOn_26 2 rfl ?_
      refine rr_iald hG dX0_movesOn_28 (rm_kX1_16 hN ka1) hf (fun b3 hf => ?_)
      refine rr_i2l hG dX0_movesOn_29 ?_
      refine rr_lmul hG dX0_movesOn_30 ?_
      refine rr_ladd hG dX0_movesOn_31 ?_
      refine rr_bindJ hf (fun v4 ev4 hf => ?_)
      refine rr_lstore_n hG (lv2 := [(2, .long v4), (1, .ref (ph a1)), (4, .int x4)]) dX0_movesOn_32 rfl (by decide) rfl ?_
      refine rr_iinc hG (v := x4 + (1 : Int32)) (lv2 := [(4, .int (x4 + (1 : Int32))), (2, .long v4), (1, .ref (ph a1))]) (k := 2) dX0_movesOn_33 rfl rfl (by decide) rfl ?_
      refine rr_goto hG (tgt := 5) dX0_movesOn_36 (by decide) ?_
      exact rr_sub (lv2 := [(1, .ref (ph a1)), (2, .long v4), (4, .int (x4 + (1 : Int32)))]) [2, 1, 0] rfl (ih _ _ _ hf)
set_option maxHeartbeats 4000000 in
set_option maxRecDepth 100000 in
theorem mX0_movesOn {NC : Nat} (hN : 79 ≤ NC) (ph : Nat → Nat) (a1 : Nat) (M : rm_M) (rho : Int64 × rm_M) (ka1 : rm_kq NC a1 (1, 0)) (hf : fX0_movesOn a1 M = some rho) : rm_CJ yX0_movesOn wsX0_movesOn 0 0 [.ref (ph 6), .ref (ph a1)] NC ph M rho := by
  refine rm_metJ (cc := cX0_movesOn) (maxL := 5) (by decide +kernel) rfl rfl (Nat.le_of_ble_eq_true rfl) rfl (fun G hG hR => ?_)
  unfold fX0_movesOn at hf
  refine rr_lconst hG (v := 0) dX0_movesOn_0 (by decide) ?_
  refine rr_lstore_n hG (lv2 := [(2, .long (0 : Int64)), (0, .ref (ph 6)), (1, .ref (ph a1))]) dX0_movesOn_1 rfl (by decide) rfl ?_
  refine rr_iconst hG (v := 0) dX0_movesOn_2 (by decide) ?_
  refine rr_istore hG (lv2 := [(4, .int (0 : Int32)), (2, .long (0 : Int64)), (0, .ref (ph 6)), (1, .ref (ph a1))]) dX0_movesOn_3 (by decide) rfl ?_
  exact rr_sub (lv2 := [(1, .ref (ph a1)), (2, .long (0 : Int64)), (4, .int (0 : Int32))]) [3, 1, 0] rfl (wX0_movesOn_L5 hN _ hG hR ka1 _ _ _ _ hf)
/-! X7.sameArea -/
set_option maxHeartbeats 4000000 in
set_option maxRecDepth 100000 in
theorem wX7_sameArea_L24 {G : rm_G} {NC : Nat} (hN : 79 ≤ NC) {ph : Nat → Nat} {rho : Int32 × rm_M} (a0 : Int32) (a1 : Nat) (a2 : Int32) (hG : rm_k G NC ph cX7_sameArea RX7 wsX7_sameArea 5 0 0) (hR : rm_rI G NC ph .int rho) (ka1 : rm_kq NC a1 (9, (rm_kd a1).2)) (q5 : Int32 → Int32 → rm_M → Option (Int32 × rm_M)) (hq5 : ∀ (x3 : Int32) (x4 : Int32) (M : rm_M), q5 x3 x4 M = some rho → rm_L G NC ph 5 5 [(0, .int a0), (1, .ref (ph a1)), (2, .int a2), (3, .int x3), (4, .int x4)] [] M) : ∀ (x3 : Int32) (x4 : Int32) (M : rm_M), fX7_sameArea_L24 a0 a1 a2 q5 x3 x4 M = some rho → rm_L G NC ph 5 24 [(0, .int a0), (1, .ref (ph a1)), (2, .int a2), (3, .int x3), (4, .int x4)] [] M := by
  intro x3 x4 M hf
  unfold fX7_sameArea_L24 at hf
  refine rr_iinc hG (v := x4 + (1 : Int32)) (lv2 := [(4, .int (x4 + (1 : Int32))), (0, .int a0), (1, .ref (ph a1)), (2, .int a2), (3, .int x3)]) (k := 4) dX7_sameArea_24 rfl rfl (by decide) rfl ?_
  refine rr_goto hG (tgt := 5) dX7_sameArea_27 (by decide) ?_
  exact rr_sub (lv2 := [(0, .int a0), (1, .ref (ph a1)), (2, .int a2), (3, .int x3), (4, .int (x4 + (1 : Int32)))]) [1, 2, 3, 4, 0] rfl (hq5 _ _ _ hf)
set_option maxHeartbeats 4000000 in
set_option maxRecDepth 100000 in
theorem wX7_sameArea_L5 {G : rm_G} {NC : Nat} (hN : 79 ≤ NC) {ph : Nat → Nat} {rho : Int32 × rm_M} (a0 : Int32) (a1 : Nat) (a2 : Int32) (hG : rm_k G NC ph cX7_sameArea RX7 wsX7_sameArea 5 0 0) (hR : rm_rI G NC ph .int rho) (ka1 : rm_kq NC a1 (9, (rm_kd a1).2))   : ∀ (n : Nat) (x3 : Int32) (x4 : Int32) (M : rm_M), fX7_sameArea_L5 a0 a1 a2 n x3 x4 M = some rho → rm_L G NC ph 5 5 [(0, .int a0), (1, .ref (ph a1)), (2, .int a2), (3, .int x3), (4, .int x4)] [] M := by
  intro n
  induction n with
  | zero => intro x3 x4 M hf; rw [fX7_sameArea_L5] at hf; cases hf
  | succ n ih =>
    intro x3 x4 M hf
    rw [fX7_sameArea_L5] at hf
    refine rr_iload hG dX7_sameArea_5 4 rfl ?_
    refine rr_iload_n hG dX7_sameArea_7 0 rfl rfl ?_
    refine rr_icmp_ge hG (tgt := 30) dX7_sameArea_8 (by decide) hf (fun c1 hf => ?_) (fun c1 hf => ?_)
    · refine rr_iload_n hG dX7_sameArea_30 3 rfl rfl ?_
      exact rr_iret hG hR dX7_sameArea_31 hf
    · refine rr_aload_n hG dX7_sameArea_11 1 rfl rfl ?_
      refine rr_iload hG dX7_sameArea_12 4 rfl ?_
      refine rr_iald hG dX7_sameArea_14 ka1 hf (fun b2 hf => ?_)
      refine rr_aload_n hG dX7_sameArea_15 1 rfl rfl ?_
      refine rr_iload_n hG dX7_sameArea_16 2 rfl rfl ?_
      refine rr_iald hG dX7_sameArea_17 ka1 hf (fun b3 hf => ?_)
      refine rr_icmp_ne hG (tgt := 24) dX7_sameArea_18 (by decide) hf (fun c4 hf => ?_) (fun c4 hf => ?_)
      · exact rr_sub (lv2 := [(0, .int a0), (1, .ref (ph a1)), (2, .int a2), (3, .int x3), (4, .int x4)]) [0, 1, 2, 3, 4] rfl (wX7_sameArea_L24 hN _ _ _ hG hR ka1 _ (ih) _ _ _ hf)
      · refine rr_iinc hG (v := x3 + (1 : Int32)) (lv2 := [(3, .int (x3 + (1 : Int32))), (0, .int a0), (1, .ref (ph a1)), (2, .int a2), (4, .int x4)]) (k := 3) dX7_sameArea_21 rfl rfl (by decide) rfl ?_
        exact rr_sub (lv2 := [(0, .int a0), (1, .ref (ph a1)), (2, .int a2), (3, .int (x3 + (1 : Int32))), (4, .int x4)]) [1, 2, 3, 0, 4] rfl (wX7_sameArea_L24 hN _ _ _ hG hR ka1 _ (ih) _ _ _ hf)
set_option maxHeartbeats 4000000 in
set_option maxRecDepth 100000 in
theorem mX7_sameArea {NC : Nat} (hN : 79 ≤ NC) (ph : Nat → Nat) (a0 : Int32) (a1 : Nat) (a2 : Int32) (M : rm_M) (rho : Int32 × rm_M) (ka1 : rm_kq NC a1 (9, (rm_kd a1).2)) (hf : fX7_sameArea a0 a1 a2 M = some rho) : rm_CI yX7_sameArea wsX7_sameArea 0 0 [.int a0, .ref (ph a1), .int a2] NC ph M rho := by
  refine rm_metI (cc := cX7_sameArea) (maxL := 5) (by decide +kernel) rfl rfl (Nat.le_of_ble_eq_true rfl) rfl (fun G hG hR => ?_)
  unfold fX7_sameArea at hf
  refine rr_iconst hG (v := 0) dX7_sameArea_0 (by decide) ?_
  refine rr_istore_n hG (lv2 := [(3, .int (0 : Int32)), (0, .int a0), (1, .ref (ph a1)), (2, .int a2)]) dX7_sameArea_1 rfl (by decide) rfl ?_
  refine rr_iconst hG (v := 0) dX7_sameArea_2 (by decide) ?_
  refine rr_istore hG (lv2 := [(4, .int (0 : Int32)), (3, .int (0 : Int32)), (0, .int a0), (1, .ref (ph a1)), (2, .int a2)]) dX7_sameArea_3 (by decide) rfl ?_
  exact rr_sub (lv2 := [(0, .int a0), (1, .ref (ph a1)), (2, .int a2), (3, .int (0 : Int32)), (4, .int (0 : Int32))]) [2, 3, 4, 1, 0] rfl (wX7_sameArea_L5 hN _ _ _ hG hR ka1 _ _ _ _ hf)
/-! X0.expense -/
theorem tX0_expense_X0 : ∀ w ∈ u_ws RX0 TX0 6, w ∈ wsX0_expense := by decide +kernel
theorem tX0_expense_X1 : ∀ w ∈ u_ws RX1 TX1 12, w ∈ wsX0_expense := by decide +kernel
theorem kX0_expense_26 : Cond.fieldLink RX0 26 "RingPages$Net" "cells" "I" ∈ wsX0_expense := by decide +kernel
theorem kX0_expense_55 : Cond.fieldLink RX0 55 "RingPages$Net" "updateCost" "I" ∈ wsX0_expense := by decide +kernel
theorem kX0_expense_62 : Cond.fieldLink RX0 62 "RingPages$Net" "pageCost" "I" ∈ wsX0_expense := by decide +kernel
theorem kX0_expense_65 : Cond.fieldLink RX0 65 "RingPages$Net" "callChance" "I" ∈ wsX0_expense := by decide +kernel
theorem kX0_expense_9 : Cond.fieldLink RX0 9 "RingPages$LongRun" "above" "[J" ∈ wsX0_expense := by decide +kernel
theorem kX0_expense_iniX7 : Cond.initialized RX7 ∈ wsX0_expense := by decide +kernel
theorem kX0_expense_stX7_sameArea : Cond.static yX7_sameArea ∈ wsX0_expense := by decide +kernel
set_option maxHeartbeats 4000000 in
set_option maxRecDepth 100000 in
theorem wX0_expense_L5 {G : rm_G} {NC : Nat} (hN : 79 ≤ NC) {ph : Nat → Nat} {rho : Int64 × rm_M} (a1 : Nat) (a2 : Nat) (hG : rm_k G NC ph cX0_expense RX0 wsX0_expense 6 1 26) (hR : rm_rJ G NC ph rho) (ka1 : rm_kq NC a1 (1, 0)) (ka2 : rm_kq NC a2 (9, (rm_kd a2).2))   : ∀ (n : Nat) (x3 : Int64) (x5 : Int32) (M : rm_M), fX0_expense_L5 a1 a2 n x3 x5 M = some rho → rm_L G NC ph 6 5 [(0, .ref (ph 6)), (1, .ref (ph a1)), (2, .ref (ph a2)), (3, .long x3), (5, .int x5)] [] M := by
  intro n
  induction n with
  | zero => intro x3 x5 M hf; rw [fX0_expense_L5] at hf; cases hf
  | succ n ih =>
    intro x3 x5 M hf
    rw [fX0_expense_L5] at hf
    refine rr_iload hG dX0_expense_5 4 rfl ?_
    refine rr_aload_n hG dX0_expense_7 1 rfl rfl ?_
    refine rr_get hG 1 0 dX0_expense_8 ka1 (by decide) rfl tX0_expense_X1 (by decide) kX0_expense_26 rfl rfl ?_
    refine rr_icmp_ge hG (tgt := 42) dX0_expense_11 (by decide) hf (fun c1 hf => ?_) (fun c1 hf => ?_)
    · refine rr_bipush hG (v := 100) dX0_expense_42 (by decide) ?_
      refine rr_aload_n hG dX0_expense_44 1 rfl rfl ?_
      refine rr_get hG 1 4 dX0_expense_45 ka1 (by decide) rfl tX0_expense_X1 (by decide) kX0_expense_55 rfl rfl ?_
      refine rr_imul hG dX0_expense_48 ?_
      refine rr_i2l hG dX0_expense_49 ?_
      refine rr_aload_n hG dX0_expense_50 0 rfl rfl ?_
      refine rr_aload_n hG dX0_expense_51 1 rfl rfl ?_
      refine rr_aload_n hG dX0_expense_52 2 rfl rfl ?_
      refine rr_cVJ hG (st := [.long (((100 : Int32) * (M.1 a1 4)).toInt64)]) (n := 2) (ci := 0) (rf := 0) (rl := 0) [.ref (ph a1), .ref (ph a2)] dX0_expense_53 hf (rm_c hN rfl (by decide)) (by decide) rfl gX0_expense_X0_crosses rfl (by decide +kernel) rfl ⟨by decide, by decide⟩ rfl (Nat.le_of_ble_eq_true rfl) (fun r9 M9 h9 => mX0_crosses hN ph _ _ _ _ ka1 (rm_kself ka2) h9) (fun r3 M4 h2 hf => ?_)
      refine rr_lmul hG dX0_expense_56 ?_
      refine rr_aload_n hG dX0_expense_57 1 rfl rfl ?_
      refine rr_get hG 1 3 dX0_expense_58 ka1 (by decide) rfl tX0_expense_X1 (by decide) kX0_expense_62 rfl rfl ?_
      refine rr_aload_n hG dX0_expense_61 1 rfl rfl ?_
      refine rr_get hG 1 5 dX0_expense_62 ka1 (by decide) rfl tX0_expense_X1 (by decide) kX0_expense_65 rfl rfl ?_
      refine rr_imul hG dX0_expense_65 ?_
      refine rr_i2l hG dX0_expense_66 ?_
      refine rr_lload_n hG dX0_expense_67 3 rfl rfl ?_
      refine rr_lmul hG dX0_expense_68 ?_
      refine rr_ladd hG dX0_expense_69 ?_
      exact rr_lret hG hR dX0_expense_70 hf
    · refine rr_lload_n hG dX0_expense_14 3 rfl rfl ?_
      refine rr_aload_n hG dX0_expense_15 0 rfl rfl ?_
      refine rr_get hG 0 0 (v := .ref (ph 7)) dX0_expense_16 (rm_c hN rfl (by decide)) (by decide) rfl tX0_expense_X0 (by decide) kX0_expense_9 rfl rfl ?_
      refine rr_iload hG dX0_expense_19 4 rfl ?_
      refine rr_lald hG dX0_expense_21 (rm_c hN rfl (by decide)) hf (fun b5 hf => ?_)
      refine rr_aload_n hG dX0_expense_22 1 rfl rfl ?_
      refine rr_get hG 1 0 dX0_expense_23 ka1 (by decide) rfl tX0_expense_X1 (by decide) kX0_expense_26 rfl rfl ?_
      refine rr_aload_n hG dX0_expense_26 2 rfl rfl ?_
      refine rr_iload hG dX0_expense_27 4 rfl ?_
      refine rr_cNI hG (st := [.long (M.2.1 7 (x5).toNatClampNeg), .long x3]) (n := 3) (rf := 0) (rl := 0) [.int (M.1 a1 0), .ref (ph a2), .int x5] dX0_expense_29 hf gX0_expense_X7_sameArea_n51 (by decide +kernel) kX0_expense_iniX7 kX0_expense_stX7_sameArea rfl (by decide +kernel) rfl ⟨by decide, by decide⟩ rfl (Nat.le_of_ble_eq_true rfl) (fun r9 M9 h9 => mX7_sameArea hN ph _ _ _ _ _ (rm_kself ka2) h9) (fun r7 M8 h6 hf => ?_)
      refine rr_i2l hG dX0_expense_32 ?_
      refine rr_lmul hG dX0_expense_33 ?_
      refine rr_ladd hG dX0_expense_34 ?_
      refine rr_bindJ hf (fun v9 ev9 hf => ?_)
      refine rr_lstore_n hG (lv2 := [(3, .long v9), (0, .ref (ph 6)), (1, .ref (ph a1)), (2, .ref (ph a2)), (5, .int x5)]) dX0_expense_35 rfl (by decide) rfl ?_
      refine rr_iinc hG (v := x5 + (1 : Int32)) (lv2 := [(5, .int (x5 + (1 : Int32))), (3, .long v9), (0, .ref (ph 6)), (1, .ref (ph a1)), (2, .ref (ph a2))]) (k := 4) dX0_expense_36 rfl rfl (by decide) rfl ?_
      refine rr_goto hG (tgt := 5) dX0_expense_39 (by decide) ?_
      exact rr_sub (lv2 := [(0, .ref (ph 6)), (1, .ref (ph a1)), (2, .ref (ph a2)), (3, .long v9), (5, .int (x5 + (1 : Int32)))]) [2, 3, 4, 1, 0] rfl (ih _ _ _ hf)
set_option maxHeartbeats 4000000 in
set_option maxRecDepth 100000 in
theorem mX0_expense {NC : Nat} (hN : 79 ≤ NC) (ph : Nat → Nat) (a1 : Nat) (a2 : Nat) (M : rm_M) (rho : Int64 × rm_M) (ka1 : rm_kq NC a1 (1, 0)) (ka2 : rm_kq NC a2 (9, (rm_kd a2).2)) (hf : fX0_expense a1 a2 M = some rho) : rm_CJ yX0_expense wsX0_expense 1 26 [.ref (ph 6), .ref (ph a1), .ref (ph a2)] NC ph M rho := by
  refine rm_metJ (cc := cX0_expense) (maxL := 6) (by decide +kernel) rfl rfl (Nat.le_of_ble_eq_true rfl) rfl (fun G hG hR => ?_)
  unfold fX0_expense at hf
  refine rr_lconst hG (v := 0) dX0_expense_0 (by decide) ?_
  refine rr_lstore_n hG (lv2 := [(3, .long (0 : Int64)), (0, .ref (ph 6)), (1, .ref (ph a1)), (2, .ref (ph a2))]) dX0_expense_1 rfl (by decide) rfl ?_
  refine rr_iconst hG (v := 0) dX0_expense_2 (by decide) ?_
  refine rr_istore hG (lv2 := [(5, .int (0 : Int32)), (3, .long (0 : Int64)), (0, .ref (ph 6)), (1, .ref (ph a1)), (2, .ref (ph a2))]) dX0_expense_3 (by decide) rfl ?_
  exact rr_sub (lv2 := [(0, .ref (ph 6)), (1, .ref (ph a1)), (2, .ref (ph a2)), (3, .long (0 : Int64)), (5, .int (0 : Int32))]) [2, 3, 4, 1, 0] rfl (wX0_expense_L5 hN _ _ hG hR ka1 ka2 _ _ _ _ hf)
/-! X0.takeTried -/
theorem tX0_takeTried_X0 : ∀ w ∈ u_ws RX0 TX0 6, w ∈ wsX0_takeTried := by decide +kernel
theorem kX0_takeTried_79 : Cond.fieldLink RX0 79 "RingPages$LongRun" "leastExpense" "J" ∈ wsX0_takeTried := by decide +kernel
theorem kX0_takeTried_19 : Cond.fieldLink RX0 19 "RingPages$LongRun" "tried" "[I" ∈ wsX0_takeTried := by decide +kernel
theorem kX0_takeTried_15 : Cond.fieldLink RX0 15 "RingPages$LongRun" "best" "[I" ∈ wsX0_takeTried := by decide +kernel
theorem kX0_takeTried_82 : Cond.methodLink RX0 82 arraycopyName ∈ wsX0_takeTried := by decide +kernel
theorem kX0_takeTried_nat : Cond.native arraycopyName ∈ wsX0_takeTried := by decide +kernel
theorem kX0_takeTried_sta : Cond.static arraycopyName ∈ wsX0_takeTried := by decide +kernel
theorem kX0_takeTried_sys : Cond.initialized "java/lang/System" ∈ wsX0_takeTried := by decide +kernel
set_option maxHeartbeats 4000000 in
set_option maxRecDepth 100000 in
theorem mX0_takeTried {NC : Nat} (hN : 79 ≤ NC) (ph : Nat → Nat) (a1 : Int64) (M : rm_M) (rho : rm_M)  (hf : fX0_takeTried a1 M = some rho) : rm_CV yX0_takeTried wsX0_takeTried 1 40 [.ref (ph 6), .long a1] NC ph M rho := by
  refine rm_metV (cc := cX0_takeTried) (maxL := 3) (by decide +kernel) rfl rfl (Nat.le_of_ble_eq_true rfl) rfl (fun G hG hR => ?_)
  unfold fX0_takeTried at hf
  refine rr_aload_n hG dX0_takeTried_0 0 rfl rfl ?_
  refine rr_lload_n hG dX0_takeTried_1 1 rfl rfl ?_
  refine rr_putJ hG 0 3 dX0_takeTried_2 (rm_c hN rfl (by decide)) (by decide) rfl tX0_takeTried_X0 tyX0_ok nmX0 (by decide) kX0_takeTried_79 rfl rfl rfl rfl rfl (Nat.le_of_ble_eq_true rfl) rfl ?_
  refine rr_bindM hf (fun M1 eM1 hf => ?_)
  refine rr_aload_n hG dX0_takeTried_5 0 rfl rfl ?_
  refine rr_get hG 0 5 (v := .ref (ph 9)) dX0_takeTried_6 (rm_c hN rfl (by decide)) (by decide) rfl tX0_takeTried_X0 (by decide) kX0_takeTried_19 rfl rfl ?_
  refine rr_iconst hG (v := 0) dX0_takeTried_9 (by decide) ?_
  refine rr_aload_n hG dX0_takeTried_10 0 rfl rfl ?_
  refine rr_get hG 0 2 (v := .ref (ph 8)) dX0_takeTried_11 (rm_c hN rfl (by decide)) (by decide) rfl tX0_takeTried_X0 (by decide) kX0_takeTried_15 rfl rfl ?_
  refine rr_iconst hG (v := 0) dX0_takeTried_14 (by decide) ?_
  refine rr_bipush hG (v := 6) dX0_takeTried_15 (by decide) ?_
  refine rr_copy hG dX0_takeTried_17 (rm_c hN rfl (by decide)) (rm_c hN rfl (by decide)) (by decide) (by decide) (by decide) (by decide) (by decide) kX0_takeTried_82 kX0_takeTried_nat kX0_takeTried_sta kX0_takeTried_sys (by decide) (Nat.le_of_ble_eq_true rfl) ?_
  refine rr_bindM hf (fun M2 eM2 hf => ?_)
  exact rr_vret hG hR dX0_takeTried_20 hf
/-! X0.highestAhead -/
theorem tX0_highestAhead_X0 : ∀ w ∈ u_ws RX0 TX0 6, w ∈ wsX0_highestAhead := by decide +kernel
theorem kX0_highestAhead_19 : Cond.fieldLink RX0 19 "RingPages$LongRun" "tried" "[I" ∈ wsX0_highestAhead := by decide +kernel
theorem kX0_highestAhead_92 : Cond.methodLink RX0 92 Lib.Math.max.name ∈ wsX0_highestAhead := by decide +kernel
theorem kX0_highestAhead_stamax : Cond.static Lib.Math.max.name ∈ wsX0_highestAhead := by decide +kernel
theorem kX0_highestAhead_math : Cond.initialized "java/lang/Math" ∈ wsX0_highestAhead := by decide +kernel
theorem kX0_highestAhead_codemax : Cond.code Lib.Math.max.name Lib.Math.max.code 2 (some .int) ∈ wsX0_highestAhead := by decide +kernel
set_option maxHeartbeats 4000000 in
set_option maxRecDepth 100000 in
theorem wX0_highestAhead_L4 {G : rm_G} {NC : Nat} (hN : 79 ≤ NC) {ph : Nat → Nat} {rho : Int32 × rm_M} (a1 : Int32) (hG : rm_k G NC ph cX0_highestAhead RX0 wsX0_highestAhead 4 1 21) (hR : rm_rI G NC ph .int rho)    : ∀ (n : Nat) (x2 : Int32) (x3 : Int32) (M : rm_M), fX0_highestAhead_L4 a1 n x2 x3 M = some rho → rm_L G NC ph 4 4 [(0, .ref (ph 6)), (1, .int a1), (2, .int x2), (3, .int x3)] [] M := by
  intro n
  induction n with
  | zero => intro x2 x3 M hf; rw [fX0_highestAhead_L4] at hf; cases hf
  | succ n ih =>
    intro x2 x3 M hf
    rw [fX0_highestAhead_L4] at hf
    refine rr_iload_n hG dX0_highestAhead_4 3 rfl rfl ?_
    refine rr_iload_n hG dX0_highestAhead_5 1 rfl rfl ?_
    refine rr_icmp_ge hG (tgt := 26) dX0_highestAhead_6 (by decide) hf (fun c1 hf => ?_) (fun c1 hf => ?_)
    · refine rr_iload_n hG dX0_highestAhead_26 2 rfl rfl ?_
      exact rr_iret hG hR dX0_highestAhead_27 hf
    · refine rr_iload_n hG dX0_highestAhead_9 2 rfl rfl ?_
      refine rr_aload_n hG dX0_highestAhead_10 0 rfl rfl ?_
      refine rr_get hG 0 5 (v := .ref (ph 9)) dX0_highestAhead_11 (rm_c hN rfl (by decide)) (by decide) rfl tX0_highestAhead_X0 (by decide) kX0_highestAhead_19 rfl rfl ?_
      refine rr_iload_n hG dX0_highestAhead_14 3 rfl rfl ?_
      refine rr_iald hG dX0_highestAhead_15 (rm_c hN rfl (by decide)) hf (fun b2 hf => ?_)
      refine rr_max hG dX0_highestAhead_16 kX0_highestAhead_92 kX0_highestAhead_stamax kX0_highestAhead_math kX0_highestAhead_codemax (by decide) (Nat.le_of_ble_eq_true rfl) ?_
      refine rr_bindI hf (fun v3 ev3 hf => ?_)
      refine rr_istore_n hG (lv2 := [(2, .int v3), (0, .ref (ph 6)), (1, .int a1), (3, .int x3)]) dX0_highestAhead_19 rfl (by decide) rfl ?_
      refine rr_iinc hG (v := x3 + (1 : Int32)) (lv2 := [(3, .int (x3 + (1 : Int32))), (2, .int v3), (0, .ref (ph 6)), (1, .int a1)]) (k := 3) dX0_highestAhead_20 rfl rfl (by decide) rfl ?_
      refine rr_goto hG (tgt := 4) dX0_highestAhead_23 (by decide) ?_
      exact rr_sub (lv2 := [(0, .ref (ph 6)), (1, .int a1), (2, .int v3), (3, .int (x3 + (1 : Int32)))]) [2, 3, 1, 0] rfl (ih _ _ _ hf)
set_option maxHeartbeats 4000000 in
set_option maxRecDepth 100000 in
theorem mX0_highestAhead {NC : Nat} (hN : 79 ≤ NC) (ph : Nat → Nat) (a1 : Int32) (M : rm_M) (rho : Int32 × rm_M)  (hf : fX0_highestAhead a1 M = some rho) : rm_CI yX0_highestAhead wsX0_highestAhead 1 21 [.ref (ph 6), .int a1] NC ph M rho := by
  refine rm_metI (cc := cX0_highestAhead) (maxL := 4) (by decide +kernel) rfl rfl (Nat.le_of_ble_eq_true rfl) rfl (fun G hG hR => ?_)
  unfold fX0_highestAhead at hf
  refine rr_iconst hG (v := 0) dX0_highestAhead_0 (by decide) ?_
  refine rr_istore_n hG (lv2 := [(2, .int (0 : Int32)), (0, .ref (ph 6)), (1, .int a1)]) dX0_highestAhead_1 rfl (by decide) rfl ?_
  refine rr_iconst hG (v := 0) dX0_highestAhead_2 (by decide) ?_
  refine rr_istore_n hG (lv2 := [(3, .int (0 : Int32)), (2, .int (0 : Int32)), (0, .ref (ph 6)), (1, .int a1)]) dX0_highestAhead_3 rfl (by decide) rfl ?_
  exact rr_sub (lv2 := [(0, .ref (ph 6)), (1, .int a1), (2, .int (0 : Int32)), (3, .int (0 : Int32))]) [2, 3, 1, 0] rfl (wX0_highestAhead_L4 hN _ hG hR _ _ _ _ hf)
/-! X0.nextTried -/
theorem tX0_nextTried_X0 : ∀ w ∈ u_ws RX0 TX0 6, w ∈ wsX0_nextTried := by decide +kernel
theorem kX0_nextTried_19 : Cond.fieldLink RX0 19 "RingPages$LongRun" "tried" "[I" ∈ wsX0_nextTried := by decide +kernel
set_option maxHeartbeats 4000000 in
set_option maxRecDepth 100000 in
theorem wX0_nextTried_L4 {G : rm_G} {NC : Nat} (hN : 79 ≤ NC) {ph : Nat → Nat} {rho : Int32 × rm_M} (a1 : Int32) (hG : rm_k G NC ph cX0_nextTried RX0 wsX0_nextTried 3 2 44) (hR : rm_rI G NC ph .boolean rho)    : ∀ (n : Nat) (x2 : Int32) (M : rm_M), fX0_nextTried_L4 a1 n x2 M = some rho → rm_L G NC ph 3 4 [(0, .ref (ph 6)), (2, .int x2)] [] M := by
  intro n
  induction n with
  | zero => intro x2 M hf; rw [fX0_nextTried_L4] at hf; cases hf
  | succ n ih =>
    intro x2 M hf
    rw [fX0_nextTried_L4] at hf
    refine rr_iload_n hG dX0_nextTried_4 1 rfl rfl ?_
    refine rr_if_le hG (tgt := 47) dX0_nextTried_5 (by decide) hf (fun c1 hf => ?_) (fun c1 hf => ?_)
    · refine rr_iconst hG (v := 0) dX0_nextTried_47 (by decide) ?_
      exact rr_zret hG hR dX0_nextTried_48 hf
    · refine rr_aload_n hG dX0_nextTried_8 0 rfl rfl ?_
      refine rr_get hG 0 5 (v := .ref (ph 9)) dX0_nextTried_9 (rm_c hN rfl (by decide)) (by decide) rfl tX0_nextTried_X0 (by decide) kX0_nextTried_19 rfl rfl ?_
      refine rr_iload_n hG dX0_nextTried_12 1 rfl rfl ?_
      refine rr_iald hG dX0_nextTried_13 (rm_c hN rfl (by decide)) hf (fun b2 hf => ?_)
      refine rr_aload_n hG dX0_nextTried_14 0 rfl rfl ?_
      refine rr_iload_n hG dX0_nextTried_15 1 rfl rfl ?_
      refine rr_cVI hG (st := [.int (M.1 9 (x2).toNatClampNeg)]) (n := 1) (ci := 0) (rf := 1) (rl := 21) [.int x2] dX0_nextTried_16 hf (rm_c hN rfl (by decide)) (by decide) rfl gX0_nextTried_X0_highestAhead rfl (by decide +kernel) rfl ⟨by decide, by decide⟩ rfl (Nat.le_of_ble_eq_true rfl) (fun r9 M9 h9 => mX0_highestAhead hN ph _ _ _ h9) (fun r4 M5 h3 hf => ?_)
      refine rr_icmp_gt hG (tgt := 34) dX0_nextTried_19 (by decide) hf (fun c6 hf => ?_) (fun c6 hf => ?_)
      · refine rr_aload_n hG dX0_nextTried_34 0 rfl rfl ?_
        refine rr_get hG 0 5 (v := .ref (ph 9)) dX0_nextTried_35 (rm_c hN rfl (by decide)) (by decide) rfl tX0_nextTried_X0 (by decide) kX0_nextTried_19 rfl rfl ?_
        refine rr_iload_n hG dX0_nextTried_38 1 rfl rfl ?_
        refine rr_iconst hG (v := 0) dX0_nextTried_39 (by decide) ?_
        refine rr_iast hG dX0_nextTried_40 (rm_c hN rfl (by decide)) hf (fun b7 hf => ?_)
        refine rr_bindM hf (fun M8 eM8 hf => ?_)
        refine rr_iinc hG (v := x2 + (-1 : Int32)) (lv2 := [(2, .int (x2 + (-1 : Int32))), (0, .ref (ph 6))]) (k := 1) dX0_nextTried_41 rfl rfl (by decide) rfl ?_
        refine rr_goto hG (tgt := 4) dX0_nextTried_44 (by decide) ?_
        exact rr_sub (lv2 := [(0, .ref (ph 6)), (2, .int (x2 + (-1 : Int32)))]) [1, 0] rfl (ih _ _ hf)
      · refine rr_aload_n hG dX0_nextTried_22 0 rfl rfl ?_
        refine rr_get hG 0 5 (v := .ref (ph 9)) dX0_nextTried_23 (rm_c hN rfl (by decide)) (by decide) rfl tX0_nextTried_X0 (by decide) kX0_nextTried_19 rfl rfl ?_
        refine rr_iload_n hG dX0_nextTried_26 1 rfl rfl ?_
        refine rr_dup2 hG dX0_nextTried_27 rfl rfl ?_
        refine rr_iald hG dX0_nextTried_28 (rm_c hN rfl (by decide)) hf (fun b9 hf => ?_)
        refine rr_iconst hG (v := 1) dX0_nextTried_29 (by decide) ?_
        refine rr_iadd hG dX0_nextTried_30 ?_
        refine rr_iast hG dX0_nextTried_31 (rm_c hN rfl (by decide)) hf (fun b10 hf => ?_)
        refine rr_bindM hf (fun M11 eM11 hf => ?_)
        refine rr_iconst hG (v := 1) dX0_nextTried_32 (by decide) ?_
        exact rr_zret hG hR dX0_nextTried_33 hf
set_option maxHeartbeats 4000000 in
set_option maxRecDepth 100000 in
theorem mX0_nextTried {NC : Nat} (hN : 79 ≤ NC) (ph : Nat → Nat) (a1 : Int32) (M : rm_M) (rho : Int32 × rm_M)  (hf : fX0_nextTried a1 M = some rho) : rm_CI yX0_nextTried wsX0_nextTried 2 44 [.ref (ph 6), .int a1] NC ph M rho := by
  refine rm_metI (cc := cX0_nextTried) (maxL := 3) (by decide +kernel) rfl rfl (Nat.le_of_ble_eq_true rfl) rfl (fun G hG hR => ?_)
  unfold fX0_nextTried at hf
  refine rr_iload_n hG dX0_nextTried_0 1 rfl rfl ?_
  refine rr_iconst hG (v := 1) dX0_nextTried_1 (by decide) ?_
  refine rr_isub hG dX0_nextTried_2 ?_
  refine rr_bindI hf (fun v12 ev12 hf => ?_)
  refine rr_istore_n hG (lv2 := [(2, .int v12), (0, .ref (ph 6)), (1, .int a1)]) dX0_nextTried_3 rfl (by decide) rfl ?_
  exact rr_sub (lv2 := [(0, .ref (ph 6)), (2, .int v12)]) [1, 0] rfl (wX0_nextTried_L4 hN _ hG hR _ _ _ hf)
/-! X0.findBest -/
theorem tX0_findBest_X0 : ∀ w ∈ u_ws RX0 TX0 6, w ∈ wsX0_findBest := by decide +kernel
theorem tX0_findBest_X1 : ∀ w ∈ u_ws RX1 TX1 12, w ∈ wsX0_findBest := by decide +kernel
theorem kX0_findBest_26 : Cond.fieldLink RX0 26 "RingPages$Net" "cells" "I" ∈ wsX0_findBest := by decide +kernel
theorem kX0_findBest_19 : Cond.fieldLink RX0 19 "RingPages$LongRun" "tried" "[I" ∈ wsX0_findBest := by decide +kernel
theorem kX0_findBest_79 : Cond.fieldLink RX0 79 "RingPages$LongRun" "leastExpense" "J" ∈ wsX0_findBest := by decide +kernel
theorem kX0_findBest_43 : Cond.fieldLink RX0 43 "RingPages$LongRun" "bestKnown" "Z" ∈ wsX0_findBest := by decide +kernel
set_option maxHeartbeats 4000000 in
set_option maxRecDepth 100000 in
theorem wX0_findBest_L91 {G : rm_G} {NC : Nat} (hN : 79 ≤ NC) {ph : Nat → Nat} {rho : rm_M} (a1 : Nat) (hG : rm_k G NC ph cX0_findBest RX0 wsX0_findBest 5 3 66) (hR : rm_rV G NC ph rho) (ka1 : rm_kq NC a1 (1, 0)) (q49 : Int32 → rm_M → Option (rm_M)) (hq49 : ∀ (x2 : Int32) (M : rm_M), q49 x2 M = some rho → rm_L G NC ph 5 49 [(0, .ref (ph 6)), (1, .ref (ph a1)), (2, .int x2)] [] M) : ∀ (x2 : Int32) (M : rm_M), fX0_findBest_L91 a1 q49 x2 M = some rho → rm_L G NC ph 5 91 [(0, .ref (ph 6)), (1, .ref (ph a1)), (2, .int x2)] [] M := by
  intro x2 M hf
  unfold fX0_findBest_L91 at hf
  refine rr_iinc hG (v := x2 + (1 : Int32)) (lv2 := [(2, .int (x2 + (1 : Int32))), (0, .ref (ph 6)), (1, .ref (ph a1))]) (k := 2) dX0_findBest_91 rfl rfl (by decide) rfl ?_
  refine rr_goto hG (tgt := 49) dX0_findBest_94 (by decide) ?_
  exact rr_sub (lv2 := [(0, .ref (ph 6)), (1, .ref (ph a1)), (2, .int (x2 + (1 : Int32)))]) [1, 2, 0] rfl (hq49 _ _ hf)
set_option maxHeartbeats 4000000 in
set_option maxRecDepth 100000 in
theorem wX0_findBest_L49 {G : rm_G} {NC : Nat} (hN : 79 ≤ NC) {ph : Nat → Nat} {rho : rm_M} (a1 : Nat) (hG : rm_k G NC ph cX0_findBest RX0 wsX0_findBest 5 3 66) (hR : rm_rV G NC ph rho) (ka1 : rm_kq NC a1 (1, 0))   : ∀ (n : Nat) (x2 : Int32) (M : rm_M), fX0_findBest_L49 a1 n x2 M = some rho → rm_L G NC ph 5 49 [(0, .ref (ph 6)), (1, .ref (ph a1)), (2, .int x2)] [] M := by
  intro n
  induction n with
  | zero => intro x2 M hf; rw [fX0_findBest_L49] at hf; cases hf
  | succ n ih =>
    intro x2 M hf
    rw [fX0_findBest_L49] at hf
    refine rr_iload_n hG dX0_findBest_49 2 rfl rfl ?_
    refine rr_sipush hG (v := 1000) dX0_findBest_50 (by decide) ?_
    refine rr_icmp_ge hG (tgt := 97) dX0_findBest_53 (by decide) hf (fun c1 hf => ?_) (fun c1 hf => ?_)
    · exact rr_vret hG hR dX0_findBest_97 hf
    · refine rr_aload_n hG dX0_findBest_56 0 rfl rfl ?_
      refine rr_aload_n hG dX0_findBest_57 1 rfl rfl ?_
      refine rr_get hG 1 0 dX0_findBest_58 ka1 (by decide) rfl tX0_findBest_X1 (by decide) kX0_findBest_26 rfl rfl ?_
      refine rr_cVI hG (st := []) (n := 1) (ci := 0) (rf := 2) (rl := 44) [.int (M.1 a1 0)] dX0_findBest_61 hf (rm_c hN rfl (by decide)) (by decide) rfl gX0_findBest_X0_nextTried rfl (by decide +kernel) rfl ⟨by decide, by decide⟩ rfl (Nat.le_of_ble_eq_true rfl) (fun r9 M9 h9 => mX0_nextTried hN ph _ _ _ h9) (fun r3 M4 h2 hf => ?_)
      refine rr_if_eq hG (tgt := 97) dX0_findBest_64 (by decide) hf (fun c5 hf => ?_) (fun c5 hf => ?_)
      · exact rr_vret hG hR dX0_findBest_97 hf
      · refine rr_aload_n hG dX0_findBest_67 0 rfl rfl ?_
        refine rr_aload_n hG dX0_findBest_68 1 rfl rfl ?_
        refine rr_aload_n hG dX0_findBest_69 0 rfl rfl ?_
        refine rr_get hG 0 5 (v := .ref (ph 9)) dX0_findBest_70 (rm_c hN rfl (by decide)) (by decide) rfl tX0_findBest_X0 (by decide) kX0_findBest_19 rfl rfl ?_
        refine rr_cVJ hG (st := []) (n := 2) (ci := 0) (rf := 1) (rl := 26) [.ref (ph a1), .ref (ph 9)] dX0_findBest_73 hf (rm_c hN rfl (by decide)) (by decide) rfl gX0_findBest_X0_expense rfl (by decide +kernel) rfl ⟨by decide, by decide⟩ rfl (Nat.le_of_ble_eq_true rfl) (fun r9 M9 h9 => mX0_expense hN ph _ _ _ _ ka1 (rm_kself (rm_c hN rfl (by decide))) h9) (fun r7 M8 h6 hf => ?_)
        refine rr_lstore_n hG (lv2 := [(3, .long r7), (0, .ref (ph 6)), (1, .ref (ph a1)), (2, .int x2)]) dX0_findBest_76 rfl (by decide) rfl ?_
        refine rr_lload_n hG dX0_findBest_77 0 rfl rfl ?_
        refine rr_aload_n hG dX0_findBest_78 1 rfl rfl ?_
        refine rr_get hG 0 3 dX0_findBest_79 (rm_c hN rfl (by decide)) (by decide) rfl tX0_findBest_X0 (by decide) kX0_findBest_79 rfl rfl ?_
        refine rr_lcmp hG dX0_findBest_82 ?_
        refine rr_if_ge hG (tgt := 91) dX0_findBest_83 (by decide) hf (fun c9 hf => ?_) (fun c9 hf => ?_)
        · exact rr_sub (lv2 := [(0, .ref (ph 6)), (1, .ref (ph a1)), (2, .int x2)]) [1, 2, 3] rfl (wX0_findBest_L91 hN _ hG hR ka1 _ (ih) _ _ hf)
        · refine rr_aload_n hG dX0_findBest_86 1 rfl rfl ?_
          refine rr_lload_n hG dX0_findBest_87 0 rfl rfl ?_
          refine rr_cVV hG (st := []) (n := 1) (ci := 0) (rf := 1) (rl := 40) [.long r7] dX0_findBest_88 hf (rm_c hN rfl (by decide)) (by decide) rfl gX0_findBest_X0_takeTried rfl (by decide +kernel) rfl ⟨by decide, by decide⟩ rfl (Nat.le_of_ble_eq_true rfl) (fun M9 h9 => mX0_takeTried hN ph _ _ _ h9) (fun M11 h10 hf => ?_)
          exact rr_sub (lv2 := [(0, .ref (ph 6)), (1, .ref (ph a1)), (2, .int x2)]) [1, 2, 3] rfl (wX0_findBest_L91 hN _ hG hR ka1 _ (ih) _ _ hf)
set_option maxHeartbeats 4000000 in
set_option maxRecDepth 100000 in
theorem wX0_findBest_L15 {G : rm_G} {NC : Nat} (hN : 79 ≤ NC) {ph : Nat → Nat} {rho : rm_M} (a1 : Nat) (hG : rm_k G NC ph cX0_findBest RX0 wsX0_findBest 5 3 66) (hR : rm_rV G NC ph rho) (ka1 : rm_kq NC a1 (1, 0))   : ∀ (n : Nat) (x2 : Int32) (M : rm_M), fX0_findBest_L15 a1 n x2 M = some rho → rm_L G NC ph 5 15 [(0, .ref (ph 6)), (1, .ref (ph a1)), (2, .int x2)] [] M := by
  intro n
  induction n with
  | zero => intro x2 M hf; rw [fX0_findBest_L15] at hf; cases hf
  | succ n ih =>
    intro x2 M hf
    rw [fX0_findBest_L15] at hf
    refine rr_iload_n hG dX0_findBest_15 2 rfl rfl ?_
    refine rr_bipush hG (v := 6) dX0_findBest_16 (by decide) ?_
    refine rr_icmp_ge hG (tgt := 34) dX0_findBest_18 (by decide) hf (fun c12 hf => ?_) (fun c12 hf => ?_)
    · refine rr_aload_n hG dX0_findBest_34 0 rfl rfl ?_
      refine rr_aload_n hG dX0_findBest_35 0 rfl rfl ?_
      refine rr_aload_n hG dX0_findBest_36 1 rfl rfl ?_
      refine rr_aload_n hG dX0_findBest_37 0 rfl rfl ?_
      refine rr_get hG 0 5 (v := .ref (ph 9)) dX0_findBest_38 (rm_c hN rfl (by decide)) (by decide) rfl tX0_findBest_X0 (by decide) kX0_findBest_19 rfl rfl ?_
      refine rr_cVJ hG (st := [.ref (ph 6)]) (n := 2) (ci := 0) (rf := 1) (rl := 26) [.ref (ph a1), .ref (ph 9)] dX0_findBest_41 hf (rm_c hN rfl (by decide)) (by decide) rfl gX0_findBest_X0_expense rfl (by decide +kernel) rfl ⟨by decide, by decide⟩ rfl (Nat.le_of_ble_eq_true rfl) (fun r9 M9 h9 => mX0_expense hN ph _ _ _ _ ka1 (rm_kself (rm_c hN rfl (by decide))) h9) (fun r14 M15 h13 hf => ?_)
      refine rr_cVV hG (st := []) (n := 1) (ci := 0) (rf := 1) (rl := 40) [.long r14] dX0_findBest_44 hf (rm_c hN rfl (by decide)) (by decide) rfl gX0_findBest_X0_takeTried rfl (by decide +kernel) rfl ⟨by decide, by decide⟩ rfl (Nat.le_of_ble_eq_true rfl) (fun M9 h9 => mX0_takeTried hN ph _ _ _ h9) (fun M17 h16 hf => ?_)
      refine rr_iconst hG (v := 0) dX0_findBest_47 (by decide) ?_
      refine rr_istore_n hG (lv2 := [(2, .int (0 : Int32)), (0, .ref (ph 6)), (1, .ref (ph a1))]) dX0_findBest_48 rfl (by decide) rfl ?_
      exact rr_sub (lv2 := [(0, .ref (ph 6)), (1, .ref (ph a1)), (2, .int (0 : Int32))]) [1, 2, 0] rfl (wX0_findBest_L49 hN _ hG hR ka1 _ _ _ hf)
    · refine rr_aload_n hG dX0_findBest_21 0 rfl rfl ?_
      refine rr_get hG 0 5 (v := .ref (ph 9)) dX0_findBest_22 (rm_c hN rfl (by decide)) (by decide) rfl tX0_findBest_X0 (by decide) kX0_findBest_19 rfl rfl ?_
      refine rr_iload_n hG dX0_findBest_25 2 rfl rfl ?_
      refine rr_iconst hG (v := 0) dX0_findBest_26 (by decide) ?_
      refine rr_iast hG dX0_findBest_27 (rm_c hN rfl (by decide)) hf (fun b18 hf => ?_)
      refine rr_bindM hf (fun M19 eM19 hf => ?_)
      refine rr_iinc hG (v := x2 + (1 : Int32)) (lv2 := [(2, .int (x2 + (1 : Int32))), (0, .ref (ph 6)), (1, .ref (ph a1))]) (k := 2) dX0_findBest_28 rfl rfl (by decide) rfl ?_
      refine rr_goto hG (tgt := 15) dX0_findBest_31 (by decide) ?_
      exact rr_sub (lv2 := [(0, .ref (ph 6)), (1, .ref (ph a1)), (2, .int (x2 + (1 : Int32)))]) [1, 2, 0] rfl (ih _ _ hf)
set_option maxHeartbeats 4000000 in
set_option maxRecDepth 100000 in
theorem mX0_findBest {NC : Nat} (hN : 79 ≤ NC) (ph : Nat → Nat) (a1 : Nat) (M : rm_M) (rho : rm_M) (ka1 : rm_kq NC a1 (1, 0)) (hf : fX0_findBest a1 M = some rho) : rm_CV yX0_findBest wsX0_findBest 3 66 [.ref (ph 6), .ref (ph a1)] NC ph M rho := by
  refine rm_metV (cc := cX0_findBest) (maxL := 5) (by decide +kernel) rfl rfl (Nat.le_of_ble_eq_true rfl) rfl (fun G hG hR => ?_)
  unfold fX0_findBest at hf
  refine rr_aload_n hG dX0_findBest_0 0 rfl rfl ?_
  refine rr_get hG 0 4 dX0_findBest_1 (rm_c hN rfl (by decide)) (by decide) rfl tX0_findBest_X0 (by decide) kX0_findBest_43 rfl rfl ?_
  refine rr_if_eq hG (tgt := 8) dX0_findBest_4 (by decide) hf (fun c20 hf => ?_) (fun c20 hf => ?_)
  · refine rr_aload_n hG dX0_findBest_8 0 rfl rfl ?_
    refine rr_iconst hG (v := 1) dX0_findBest_9 (by decide) ?_
    refine rr_putI hG 0 4 dX0_findBest_10 (rm_c hN rfl (by decide)) (by decide) rfl tX0_findBest_X0 tyX0_ok nmX0 (by decide) kX0_findBest_43 rfl rfl rfl rfl rfl (Nat.le_of_ble_eq_true rfl) rfl ?_
    refine rr_bindM hf (fun M21 eM21 hf => ?_)
    refine rr_iconst hG (v := 0) dX0_findBest_13 (by decide) ?_
    refine rr_istore_n hG (lv2 := [(2, .int (0 : Int32)), (0, .ref (ph 6)), (1, .ref (ph a1))]) dX0_findBest_14 rfl (by decide) rfl ?_
    exact rr_sub (lv2 := [(0, .ref (ph 6)), (1, .ref (ph a1)), (2, .int (0 : Int32))]) [1, 2, 0] rfl (wX0_findBest_L15 hN _ hG hR ka1 _ _ _ hf)
  · exact rr_vret hG hR dX0_findBest_7 hf
/-! X1.price -/
theorem tX1_price_X1 : ∀ w ∈ u_ws RX1 TX1 12, w ∈ wsX1_price := by decide +kernel
theorem kX1_price_44 : Cond.fieldLink RX1 44 "RingPages$Net" "mostRounds" "I" ∈ wsX1_price := by decide +kernel
theorem kX1_price_47 : Cond.fieldLink RX1 47 "RingPages$Net" "pageCost" "I" ∈ wsX1_price := by decide +kernel
theorem kX1_price_50 : Cond.fieldLink RX1 50 "RingPages$Net" "updateCost" "I" ∈ wsX1_price := by decide +kernel
theorem kX1_price_53 : Cond.fieldLink RX1 53 "RingPages$Net" "callChance" "I" ∈ wsX1_price := by decide +kernel
set_option maxHeartbeats 4000000 in
set_option maxRecDepth 100000 in
theorem mX1_price {NC : Nat} (hN : 79 ≤ NC) (ph : Nat → Nat) (a0 : Nat) (a1 : Int32) (a2 : Int32) (a3 : Int32) (a4 : Int32) (M : rm_M) (rho : rm_M) (ka0 : rm_kq NC a0 (1, 0)) (hf : fX1_price a0 a1 a2 a3 a4 M = some rho) : rm_CV yX1_price wsX1_price 0 0 [.ref (ph a0), .int a1, .int a2, .int a3, .int a4] NC ph M rho := by
  refine rm_metV (cc := cX1_price) (maxL := 5) (by decide +kernel) rfl rfl (Nat.le_of_ble_eq_true rfl) rfl (fun G hG hR => ?_)
  unfold fX1_price at hf
  refine rr_aload_n hG dX1_price_0 0 rfl rfl ?_
  refine rr_iload_n hG dX1_price_1 1 rfl rfl ?_
  refine rr_putI hG 1 2 dX1_price_2 ka0 (by decide) rfl tX1_price_X1 tyX1_ok nmX1 (by decide) kX1_price_44 rfl rfl rfl rfl rfl (Nat.le_of_ble_eq_true rfl) rfl ?_
  refine rr_bindM hf (fun M1 eM1 hf => ?_)
  refine rr_aload_n hG dX1_price_5 0 rfl rfl ?_
  refine rr_iload_n hG dX1_price_6 2 rfl rfl ?_
  refine rr_putI hG 1 3 dX1_price_7 ka0 (by decide) rfl tX1_price_X1 tyX1_ok nmX1 (by decide) kX1_price_47 rfl rfl rfl rfl rfl (Nat.le_of_ble_eq_true rfl) rfl ?_
  refine rr_bindM hf (fun M2 eM2 hf => ?_)
  refine rr_aload_n hG dX1_price_10 0 rfl rfl ?_
  refine rr_iload_n hG dX1_price_11 3 rfl rfl ?_
  refine rr_putI hG 1 4 dX1_price_12 ka0 (by decide) rfl tX1_price_X1 tyX1_ok nmX1 (by decide) kX1_price_50 rfl rfl rfl rfl rfl (Nat.le_of_ble_eq_true rfl) rfl ?_
  refine rr_bindM hf (fun M3 eM3 hf => ?_)
  refine rr_aload_n hG dX1_price_15 0 rfl rfl ?_
  refine rr_iload hG dX1_price_16 4 rfl ?_
  refine rr_putI hG 1 5 dX1_price_18 ka0 (by decide) rfl tX1_price_X1 tyX1_ok nmX1 (by decide) kX1_price_53 rfl rfl rfl rfl rfl (Nat.le_of_ble_eq_true rfl) rfl ?_
  refine rr_bindM hf (fun M4 eM4 hf => ?_)
  exact rr_vret hG hR dX1_price_21 hf
/-! X1.begin -/
theorem tX1_begin_X1 : ∀ w ∈ u_ws RX1 TX1 12, w ∈ wsX1_begin := by decide +kernel
theorem kX1_begin_11 : Cond.fieldLink RX1 11 "RingPages$Net" "weight" "[[I" ∈ wsX1_begin := by decide +kernel
theorem kX1_begin_16 : Cond.fieldLink RX1 16 "RingPages$Net" "wide" "[[I" ∈ wsX1_begin := by decide +kernel
theorem kX1_begin_19 : Cond.fieldLink RX1 19 "RingPages$Net" "near" "[I" ∈ wsX1_begin := by decide +kernel
theorem kX1_begin_23 : Cond.fieldLink RX1 23 "RingPages$Net" "out" "[I" ∈ wsX1_begin := by decide +kernel
theorem kX1_begin_33 : Cond.fieldLink RX1 33 "RingPages$Net" "cells" "I" ∈ wsX1_begin := by decide +kernel
theorem kX1_begin_37 : Cond.fieldLink RX1 37 "RingPages$Net" "joins" "I" ∈ wsX1_begin := by decide +kernel
set_option maxHeartbeats 4000000 in
set_option maxRecDepth 100000 in
theorem wX1_begin_L67 {G : rm_G} {NC : Nat} (hN : 79 ≤ NC) {ph : Nat → Nat} {rho : rm_M} (a0 : Nat) (a1 : Int32) (hG : rm_k G NC ph cX1_begin RX1 wsX1_begin 4 1 24) (hR : rm_rV G NC ph rho) (ka0 : rm_kq NC a0 (1, 0)) (q12 : Int32 → rm_M → Option (rm_M)) (q34 : Int32 → Int32 → rm_M → Option (rm_M)) (hq12 : ∀ (x2 : Int32) (M : rm_M), q12 x2 M = some rho → rm_L G NC ph 4 12 [(0, .ref (ph a0)), (2, .int x2)] [] M) (hq34 : ∀ (x2 : Int32) (x3 : Int32) (M : rm_M), q34 x2 x3 M = some rho → rm_L G NC ph 4 34 [(0, .ref (ph a0)), (2, .int x2), (3, .int x3)] [] M) : ∀ (x2 : Int32) (x3 : Int32) (ps0 : Nat) (s1 : Int32) (s2 : Int32) (M : rm_M), rm_kq NC ps0 (9, (rm_kd ps0).2) → fX1_begin_L67 a0 a1 q12 q34 x2 x3 ps0 s1 s2 M = some rho → rm_L G NC ph 4 67 [(0, .ref (ph a0)), (2, .int x2), (3, .int x3)] [.int s2, .int s1, .ref (ph ps0)] M := by
  intro x2 x3 ps0 s1 s2 M kps0 hf
  unfold fX1_begin_L67 at hf
  refine rr_iast hG dX1_begin_67 kps0 hf (fun b1 hf => ?_)
  refine rr_bindM hf (fun M2 eM2 hf => ?_)
  refine rr_iinc hG (v := x3 + (1 : Int32)) (lv2 := [(3, .int (x3 + (1 : Int32))), (0, .ref (ph a0)), (2, .int x2)]) (k := 2) dX1_begin_68 rfl rfl (by decide) rfl ?_
  refine rr_goto hG (tgt := 34) dX1_begin_71 (by decide) ?_
  exact rr_sub (lv2 := [(0, .ref (ph a0)), (2, .int x2), (3, .int (x3 + (1 : Int32)))]) [1, 2, 0] rfl (hq34 _ _ _ hf)
set_option maxHeartbeats 4000000 in
set_option maxRecDepth 100000 in
theorem wX1_begin_L34 {G : rm_G} {NC : Nat} (hN : 79 ≤ NC) {ph : Nat → Nat} {rho : rm_M} (a0 : Nat) (a1 : Int32) (hG : rm_k G NC ph cX1_begin RX1 wsX1_begin 4 1 24) (hR : rm_rV G NC ph rho) (ka0 : rm_kq NC a0 (1, 0)) (q12 : Int32 → rm_M → Option (rm_M)) (hq12 : ∀ (x2 : Int32) (M : rm_M), q12 x2 M = some rho → rm_L G NC ph 4 12 [(0, .ref (ph a0)), (2, .int x2)] [] M) : ∀ (n : Nat) (x2 : Int32) (x3 : Int32) (M : rm_M), fX1_begin_L34 a0 a1 q12 n x2 x3 M = some rho → rm_L G NC ph 4 34 [(0, .ref (ph a0)), (2, .int x2), (3, .int x3)] [] M := by
  intro n
  induction n with
  | zero => intro x2 x3 M hf; rw [fX1_begin_L34] at hf; cases hf
  | succ n ih =>
    intro x2 x3 M hf
    rw [fX1_begin_L34] at hf
    refine rr_iload_n hG dX1_begin_34 2 rfl rfl ?_
    refine rr_bipush hG (v := 6) dX1_begin_35 (by decide) ?_
    refine rr_icmp_ge hG (tgt := 74) dX1_begin_37 (by decide) hf (fun c3 hf => ?_) (fun c3 hf => ?_)
    · refine rr_iinc hG (v := x2 + (1 : Int32)) (lv2 := [(2, .int (x2 + (1 : Int32))), (0, .ref (ph a0)), (3, .int x3)]) (k := 1) dX1_begin_74 rfl rfl (by decide) rfl ?_
      refine rr_goto hG (tgt := 12) dX1_begin_77 (by decide) ?_
      exact rr_sub (lv2 := [(0, .ref (ph a0)), (2, .int (x2 + (1 : Int32)))]) [1, 0] rfl (hq12 _ _ hf)
    · refine rr_aload_n hG dX1_begin_40 0 rfl rfl ?_
      refine rr_get hG 1 6 (v := .ref (ph (a0 + 1))) dX1_begin_41 ka0 (by decide) rfl tX1_begin_X1 (by decide) kX1_begin_11 rfl rfl ?_
      refine rr_iload_n hG dX1_begin_44 1 rfl rfl ?_
      refine rr_aldR hG dX1_begin_45 (rm_kX1_1 hN ka0) hf (fun b4 hf => ?_)
      refine rr_iload_n hG dX1_begin_46 2 rfl rfl ?_
      refine rr_iconst hG (v := 0) dX1_begin_47 (by decide) ?_
      refine rr_iast hG dX1_begin_48 (rm_kR hN (rm_kX1_1 hN ka0) b4) hf (fun b5 hf => ?_)
      refine rr_bindM hf (fun M6 eM6 hf => ?_)
      refine rr_aload_n hG dX1_begin_49 0 rfl rfl ?_
      refine rr_get hG 1 7 (v := .ref (ph (a0 + 8))) dX1_begin_50 ka0 (by decide) rfl tX1_begin_X1 (by decide) kX1_begin_16 rfl rfl ?_
      refine rr_iload_n hG dX1_begin_53 1 rfl rfl ?_
      refine rr_aldR hG dX1_begin_54 (rm_kX1_8 hN ka0) hf (fun b7 hf => ?_)
      refine rr_iload_n hG dX1_begin_55 2 rfl rfl ?_
      refine rr_iload_n hG dX1_begin_56 1 rfl rfl ?_
      refine rr_iload_n hG dX1_begin_57 2 rfl rfl ?_
      refine rr_icmp_ne hG (tgt := 65) dX1_begin_58 (by decide) hf (fun c8 hf => ?_) (fun c8 hf => ?_)
      · refine rr_bipush hG (v := 99) dX1_begin_65 (by decide) ?_
        exact rr_sub (lv2 := [(0, .ref (ph a0)), (2, .int x2), (3, .int x3)]) [0, 1, 2] rfl (wX1_begin_L67 hN _ _ hG hR ka0 _ _ (hq12) (ih) _ _ _ _ _ _ (rm_kself (rm_kR hN (rm_kX1_8 hN ka0) b7)) hf)
      · refine rr_iconst hG (v := 0) dX1_begin_61 (by decide) ?_
        refine rr_goto hG (tgt := 67) dX1_begin_62 (by decide) ?_
        exact rr_sub (lv2 := [(0, .ref (ph a0)), (2, .int x2), (3, .int x3)]) [0, 1, 2] rfl (wX1_begin_L67 hN _ _ hG hR ka0 _ _ (hq12) (ih) _ _ _ _ _ _ (rm_kself (rm_kR hN (rm_kX1_8 hN ka0) b7)) hf)
set_option maxHeartbeats 4000000 in
set_option maxRecDepth 100000 in
theorem wX1_begin_L12 {G : rm_G} {NC : Nat} (hN : 79 ≤ NC) {ph : Nat → Nat} {rho : rm_M} (a0 : Nat) (a1 : Int32) (hG : rm_k G NC ph cX1_begin RX1 wsX1_begin 4 1 24) (hR : rm_rV G NC ph rho) (ka0 : rm_kq NC a0 (1, 0))   : ∀ (n : Nat) (x2 : Int32) (M : rm_M), fX1_begin_L12 a0 a1 n x2 M = some rho → rm_L G NC ph 4 12 [(0, .ref (ph a0)), (2, .int x2)] [] M := by
  intro n
  induction n with
  | zero => intro x2 M hf; rw [fX1_begin_L12] at hf; cases hf
  | succ n ih =>
    intro x2 M hf
    rw [fX1_begin_L12] at hf
    refine rr_iload_n hG dX1_begin_12 1 rfl rfl ?_
    refine rr_bipush hG (v := 6) dX1_begin_13 (by decide) ?_
    refine rr_icmp_ge hG (tgt := 80) dX1_begin_15 (by decide) hf (fun c9 hf => ?_) (fun c9 hf => ?_)
    · refine rr_aload_n hG dX1_begin_80 0 rfl rfl ?_
      refine rr_iconst hG (v := 2) dX1_begin_81 (by decide) ?_
      refine rr_iconst hG (v := 1) dX1_begin_82 (by decide) ?_
      refine rr_iconst hG (v := 5) dX1_begin_83 (by decide) ?_
      refine rr_bipush hG (v := 10) dX1_begin_84 (by decide) ?_
      refine rr_cVV hG (st := []) (n := 4) (ci := 1) (rf := 0) (rl := 0) [.int (2 : Int32), .int (1 : Int32), .int (5 : Int32), .int (10 : Int32)] dX1_begin_86 hf ka0 (by decide) rfl gX1_begin_X1_price rfl (by decide +kernel) rfl ⟨by decide, by decide⟩ rfl (Nat.le_of_ble_eq_true rfl) (fun M9 h9 => mX1_price hN ph _ _ _ _ _ _ _ ka0 h9) (fun M11 h10 hf => ?_)
      exact rr_vret hG hR dX1_begin_89 hf
    · refine rr_aload_n hG dX1_begin_18 0 rfl rfl ?_
      refine rr_get hG 1 8 (v := .ref (ph (a0 + 15))) dX1_begin_19 ka0 (by decide) rfl tX1_begin_X1 (by decide) kX1_begin_19 rfl rfl ?_
      refine rr_iload_n hG dX1_begin_22 1 rfl rfl ?_
      refine rr_iconst hG (v := 0) dX1_begin_23 (by decide) ?_
      refine rr_iast hG dX1_begin_24 (rm_kX1_15 hN ka0) hf (fun b12 hf => ?_)
      refine rr_bindM hf (fun M13 eM13 hf => ?_)
      refine rr_aload_n hG dX1_begin_25 0 rfl rfl ?_
      refine rr_get hG 1 9 (v := .ref (ph (a0 + 16))) dX1_begin_26 ka0 (by decide) rfl tX1_begin_X1 (by decide) kX1_begin_23 rfl rfl ?_
      refine rr_iload_n hG dX1_begin_29 1 rfl rfl ?_
      refine rr_iconst hG (v := 0) dX1_begin_30 (by decide) ?_
      refine rr_iast hG dX1_begin_31 (rm_kX1_16 hN ka0) hf (fun b14 hf => ?_)
      refine rr_bindM hf (fun M15 eM15 hf => ?_)
      refine rr_iconst hG (v := 0) dX1_begin_32 (by decide) ?_
      refine rr_istore_n hG (lv2 := [(3, .int (0 : Int32)), (0, .ref (ph a0)), (2, .int x2)]) dX1_begin_33 rfl (by decide) rfl ?_
      exact rr_sub (lv2 := [(0, .ref (ph a0)), (2, .int x2), (3, .int (0 : Int32))]) [1, 2, 0] rfl (wX1_begin_L34 hN _ _ hG hR ka0 _ (ih) _ _ _ _ hf)
set_option maxHeartbeats 4000000 in
set_option maxRecDepth 100000 in
theorem mX1_begin {NC : Nat} (hN : 79 ≤ NC) (ph : Nat → Nat) (a0 : Nat) (a1 : Int32) (M : rm_M) (rho : rm_M) (ka0 : rm_kq NC a0 (1, 0)) (hf : fX1_begin a0 a1 M = some rho) : rm_CV yX1_begin wsX1_begin 1 24 [.ref (ph a0), .int a1] NC ph M rho := by
  refine rm_metV (cc := cX1_begin) (maxL := 4) (by decide +kernel) rfl rfl (Nat.le_of_ble_eq_true rfl) rfl (fun G hG hR => ?_)
  unfold fX1_begin at hf
  refine rr_aload_n hG dX1_begin_0 0 rfl rfl ?_
  refine rr_iload_n hG dX1_begin_1 1 rfl rfl ?_
  refine rr_putI hG 1 0 dX1_begin_2 ka0 (by decide) rfl tX1_begin_X1 tyX1_ok nmX1 (by decide) kX1_begin_33 rfl rfl rfl rfl rfl (Nat.le_of_ble_eq_true rfl) rfl ?_
  refine rr_bindM hf (fun M16 eM16 hf => ?_)
  refine rr_aload_n hG dX1_begin_5 0 rfl rfl ?_
  refine rr_iconst hG (v := 0) dX1_begin_6 (by decide) ?_
  refine rr_putI hG 1 1 dX1_begin_7 ka0 (by decide) rfl tX1_begin_X1 tyX1_ok nmX1 (by decide) kX1_begin_37 rfl rfl rfl rfl rfl (Nat.le_of_ble_eq_true rfl) rfl ?_
  refine rr_bindM hf (fun M17 eM17 hf => ?_)
  refine rr_iconst hG (v := 0) dX1_begin_10 (by decide) ?_
  refine rr_istore_n hG (lv2 := [(2, .int (0 : Int32)), (0, .ref (ph a0)), (1, .int a1)]) dX1_begin_11 rfl (by decide) rfl ?_
  exact rr_sub (lv2 := [(0, .ref (ph a0)), (2, .int (0 : Int32))]) [1, 0] rfl (wX1_begin_L12 hN _ _ hG hR ka0 _ _ _ hf)
