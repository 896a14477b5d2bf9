/-! X4.go -/
theorem tX4_go_X4 : ∀ w ∈ u_ws RX4 TX4 10, w ∈ wsX4_go := by decide +kernel
theorem kX4_go_49 : Cond.fieldLink RX4 49 "RingPages$State" "ticks" "I" ∈ wsX4_go := by decide +kernel
theorem kX4_go_25 : Cond.fieldLink RX4 25 "RingPages$State" "cell" "I" ∈ wsX4_go := by decide +kernel
theorem kX4_go_28 : Cond.fieldLink RX4 28 "RingPages$State" "updates" "I" ∈ wsX4_go := by decide +kernel
theorem kX4_go_46 : Cond.fieldLink RX4 46 "RingPages$State" "moves" "I" ∈ wsX4_go := by decide +kernel
set_option maxHeartbeats 4000000 in
set_option maxRecDepth 100000 in
theorem wX4_go_L18 {G : rm_G} {NC : Nat} (hN : 79 ≤ NC) {ph : Nat → Nat} {rho : Int32 × rm_M} (a0 : Nat) (a1 : Nat) (a2 : Int32) (hG : rm_k G NC ph cX4_go RX4 wsX4_go 3 2 43) (hR : rm_rI G NC ph .boolean rho) (ka0 : rm_kq NC a0 (4, 0)) (ka1 : rm_kq NC a1 (1, 0))   : ∀  (M : rm_M), fX4_go_L18 a0 a1 a2 M = some rho → rm_L G NC ph 3 18 [(0, .ref (ph a0)), (1, .ref (ph a1)), (2, .int a2)] [] M := by
  intro M hf
  unfold fX4_go_L18 at hf
  refine rr_aload_n hG dX4_go_18 0 rfl rfl ?_
  refine rr_dup hG dX4_go_19 rfl ?_
  refine rr_get hG 4 7 dX4_go_20 ka0 (by decide) rfl tX4_go_X4 (by decide) kX4_go_49 rfl rfl ?_
  refine rr_iconst hG (v := 1) dX4_go_23 (by decide) ?_
  refine rr_iadd hG dX4_go_24 ?_
  refine rr_putI hG 4 7 dX4_go_25 ka0 (by decide) rfl tX4_go_X4 tyX4_ok nmX4 (by decide) kX4_go_49 rfl rfl rfl rfl rfl (Nat.le_of_ble_eq_true rfl) rfl ?_
  refine rr_bindM hf (fun M1 eM1 hf => ?_)
  refine rr_aload_n hG dX4_go_28 0 rfl rfl ?_
  refine rr_iload_n hG dX4_go_29 2 rfl rfl ?_
  refine rr_putI hG 4 4 dX4_go_30 ka0 (by decide) rfl tX4_go_X4 tyX4_ok nmX4 (by decide) kX4_go_25 rfl rfl rfl rfl rfl (Nat.le_of_ble_eq_true rfl) rfl ?_
  refine rr_bindM hf (fun M2 eM2 hf => ?_)
  refine rr_aload_n hG dX4_go_33 0 rfl rfl ?_
  refine rr_aload_n hG dX4_go_34 1 rfl rfl ?_
  refine rr_cVI hG (st := []) (n := 1) (ci := 4) (rf := 1) (rl := 22) [.ref (ph a1)] dX4_go_35 hf ka0 (by decide) rfl gX4_go_X4_isDue rfl (by decide +kernel) rfl ⟨by decide, by decide⟩ rfl (Nat.le_of_ble_eq_true rfl) (fun r9 M9 h9 => mX4_isDue hN ph _ _ _ _ ka0 ka1 h9) (fun r4 M5 h3 hf => ?_)
  refine rr_if_ne hG (tgt := 43) dX4_go_38 (by decide) hf (fun c6 hf => ?_) (fun c6 hf => ?_)
  · refine rr_aload_n hG dX4_go_43 0 rfl rfl ?_
    refine rr_cVV hG (st := []) (n := 0) (ci := 4) (rf := 0) (rl := 0) [] dX4_go_44 hf ka0 (by decide) rfl gX4_go_X4_register rfl (by decide +kernel) rfl ⟨by decide, by decide⟩ rfl (Nat.le_of_ble_eq_true rfl) (fun M9 h9 => mX4_register hN ph _ _ _ ka0 h9) (fun M8 h7 hf => ?_)
    refine rr_aload_n hG dX4_go_47 0 rfl rfl ?_
    refine rr_dup hG dX4_go_48 rfl ?_
    refine rr_get hG 4 8 dX4_go_49 ka0 (by decide) rfl tX4_go_X4 (by decide) kX4_go_28 rfl rfl ?_
    refine rr_iconst hG (v := 1) dX4_go_52 (by decide) ?_
    refine rr_iadd hG dX4_go_53 ?_
    refine rr_putI hG 4 8 dX4_go_54 ka0 (by decide) rfl tX4_go_X4 tyX4_ok nmX4 (by decide) kX4_go_28 rfl rfl rfl rfl rfl (Nat.le_of_ble_eq_true rfl) rfl ?_
    refine rr_bindM hf (fun M9 eM9 hf => ?_)
    refine rr_iconst hG (v := 1) dX4_go_57 (by decide) ?_
    exact rr_zret hG hR dX4_go_58 hf
  · refine rr_iconst hG (v := 0) dX4_go_41 (by decide) ?_
    exact rr_zret hG hR dX4_go_42 hf
set_option maxHeartbeats 4000000 in
set_option maxRecDepth 100000 in
theorem mX4_go {NC : Nat} (hN : 79 ≤ NC) (ph : Nat → Nat) (a0 : Nat) (a1 : Nat) (a2 : Int32) (M : rm_M) (rho : Int32 × rm_M) (ka0 : rm_kq NC a0 (4, 0)) (ka1 : rm_kq NC a1 (1, 0)) (hf : fX4_go a0 a1 a2 M = some rho) : rm_CI yX4_go wsX4_go 2 43 [.ref (ph a0), .ref (ph a1), .int a2] NC ph M rho := by
  refine rm_metI (cc := cX4_go) (maxL := 3) (by decide +kernel) rfl rfl (Nat.le_of_ble_eq_true rfl) rfl (fun G hG hR => ?_)
  unfold fX4_go at hf
  refine rr_iload_n hG dX4_go_0 2 rfl rfl ?_
  refine rr_aload_n hG dX4_go_1 0 rfl rfl ?_
  refine rr_get hG 4 4 dX4_go_2 ka0 (by decide) rfl tX4_go_X4 (by decide) kX4_go_25 rfl rfl ?_
  refine rr_icmp_eq hG (tgt := 18) dX4_go_5 (by decide) hf (fun c10 hf => ?_) (fun c10 hf => ?_)
  · exact rr_sub (lv2 := [(0, .ref (ph a0)), (1, .ref (ph a1)), (2, .int a2)]) [0, 1, 2] rfl (wX4_go_L18 hN _ _ _ hG hR ka0 ka1 _ hf)
  · refine rr_aload_n hG dX4_go_8 0 rfl rfl ?_
    refine rr_dup hG dX4_go_9 rfl ?_
    refine rr_get hG 4 6 dX4_go_10 ka0 (by decide) rfl tX4_go_X4 (by decide) kX4_go_46 rfl rfl ?_
    refine rr_iconst hG (v := 1) dX4_go_13 (by decide) ?_
    refine rr_iadd hG dX4_go_14 ?_
    refine rr_putI hG 4 6 dX4_go_15 ka0 (by decide) rfl tX4_go_X4 tyX4_ok nmX4 (by decide) kX4_go_46 rfl rfl rfl rfl rfl (Nat.le_of_ble_eq_true rfl) rfl ?_
    refine rr_bindM hf (fun M11 eM11 hf => ?_)
    exact rr_sub (lv2 := [(0, .ref (ph a0)), (1, .ref (ph a1)), (2, .int a2)]) [0, 1, 2] rfl (wX4_go_L18 hN _ _ _ hG hR ka0 ka1 _ hf)
/-! X4.drawnCell -/
theorem tX4_drawnCell_X1 : ∀ w ∈ u_ws RX1 TX1 12, w ∈ wsX4_drawnCell := by decide +kernel
theorem tX4_drawnCell_X4 : ∀ w ∈ u_ws RX4 TX4 10, w ∈ wsX4_drawnCell := by decide +kernel
theorem kX4_drawnCell_76 : Cond.fieldLink RX4 76 "RingPages$Net" "cells" "I" ∈ wsX4_drawnCell := by decide +kernel
theorem kX4_drawnCell_25 : Cond.fieldLink RX4 25 "RingPages$State" "cell" "I" ∈ wsX4_drawnCell := by decide +kernel
theorem kX4_drawnCell_79 : Cond.fieldLink RX4 79 "RingPages$Net" "weight" "[[I" ∈ wsX4_drawnCell := by decide +kernel
theorem kX4_drawnCell_9 : Cond.fieldLink RX4 9 "RingPages$State" "stay" "[I" ∈ wsX4_drawnCell := by decide +kernel
theorem kX4_drawnCell_73 : Cond.fieldLink RX4 73 "RingPages$Net" "out" "[I" ∈ wsX4_drawnCell := by decide +kernel
set_option maxHeartbeats 4000000 in
set_option maxRecDepth 100000 in
theorem wX4_drawnCell_L59 {G : rm_G} {NC : Nat} (hN : 79 ≤ NC) {ph : Nat → Nat} {rho : Int32 × rm_M} (a0 : Nat) (a1 : Nat) (a2 : Int32) (hG : rm_k G NC ph cX4_drawnCell RX4 wsX4_drawnCell 7 0 0) (hR : rm_rI G NC ph .int rho) (ka0 : rm_kq NC a0 (4, 0)) (ka1 : rm_kq NC a1 (1, 0))   : ∀ (n : Nat) (x4 : Int32) (x5 : Int32) (x6 : Int32) (M : rm_M), fX4_drawnCell_L59 a0 a1 a2 n x4 x5 x6 M = some rho → rm_L G NC ph 7 59 [(0, .ref (ph a0)), (1, .ref (ph a1)), (4, .int x4), (5, .int x5), (6, .int x6)] [] M := by
  intro n
  induction n with
  | zero => intro x4 x5 x6 M hf; rw [fX4_drawnCell_L59] at hf; cases hf
  | succ n ih =>
    intro x4 x5 x6 M hf
    rw [fX4_drawnCell_L59] at hf
    refine rr_iload hG dX4_drawnCell_59 4 rfl ?_
    refine rr_aload_n hG dX4_drawnCell_61 1 rfl rfl ?_
    refine rr_get hG 1 0 dX4_drawnCell_62 ka1 (by decide) rfl tX4_drawnCell_X1 (by decide) kX4_drawnCell_76 rfl rfl ?_
    refine rr_icmp_ge hG (tgt := 101) dX4_drawnCell_65 (by decide) hf (fun c1 hf => ?_) (fun c1 hf => ?_)
    · refine rr_aload_n hG dX4_drawnCell_101 0 rfl rfl ?_
      refine rr_get hG 4 4 dX4_drawnCell_102 ka0 (by decide) rfl tX4_drawnCell_X4 (by decide) kX4_drawnCell_25 rfl rfl ?_
      exact rr_iret hG hR dX4_drawnCell_105 hf
    · refine rr_iload hG dX4_drawnCell_68 3 rfl ?_
      refine rr_aload_n hG dX4_drawnCell_70 1 rfl rfl ?_
      refine rr_get hG 1 6 (v := .ref (ph (a1 + 1))) dX4_drawnCell_71 ka1 (by decide) rfl tX4_drawnCell_X1 (by decide) kX4_drawnCell_79 rfl rfl ?_
      refine rr_aload_n hG dX4_drawnCell_74 0 rfl rfl ?_
      refine rr_get hG 4 4 dX4_drawnCell_75 ka0 (by decide) rfl tX4_drawnCell_X4 (by decide) kX4_drawnCell_25 rfl rfl ?_
      refine rr_aldR hG dX4_drawnCell_78 (rm_kX1_1 hN ka1) hf (fun b2 hf => ?_)
      refine rr_iload hG dX4_drawnCell_79 4 rfl ?_
      refine rr_iald hG dX4_drawnCell_81 (rm_kR hN (rm_kX1_1 hN ka1) b2) hf (fun b3 hf => ?_)
      refine rr_iadd hG dX4_drawnCell_82 ?_
      refine rr_bindI hf (fun v4 ev4 hf => ?_)
      refine rr_istore hG (lv2 := [(5, .int v4), (0, .ref (ph a0)), (1, .ref (ph a1)), (4, .int x4), (6, .int x6)]) dX4_drawnCell_83 (by decide) rfl ?_
      refine rr_iload hG dX4_drawnCell_85 3 rfl ?_
      refine rr_iload hG dX4_drawnCell_87 0 rfl ?_
      refine rr_icmp_ge hG (tgt := 95) dX4_drawnCell_89 (by decide) hf (fun c5 hf => ?_) (fun c5 hf => ?_)
      · refine rr_iinc hG (v := x6 + (1 : Int32)) (lv2 := [(6, .int (x6 + (1 : Int32))), (5, .int v4), (0, .ref (ph a0)), (1, .ref (ph a1)), (4, .int x4)]) (k := 4) dX4_drawnCell_95 rfl rfl (by decide) rfl ?_
        refine rr_goto hG (tgt := 59) dX4_drawnCell_98 (by decide) ?_
        exact rr_sub (lv2 := [(0, .ref (ph a0)), (1, .ref (ph a1)), (4, .int x4), (5, .int v4), (6, .int (x6 + (1 : Int32)))]) [2, 3, 4, 1, 0] rfl (ih _ _ _ _ hf)
      · refine rr_iload hG dX4_drawnCell_92 4 rfl ?_
        exact rr_iret hG hR dX4_drawnCell_94 hf
set_option maxHeartbeats 4000000 in
set_option maxRecDepth 100000 in
theorem wX4_drawnCell_L31 {G : rm_G} {NC : Nat} (hN : 79 ≤ NC) {ph : Nat → Nat} {rho : Int32 × rm_M} (a0 : Nat) (a1 : Nat) (a2 : Int32) (hG : rm_k G NC ph cX4_drawnCell RX4 wsX4_drawnCell 7 0 0) (hR : rm_rI G NC ph .int rho) (ka0 : rm_kq NC a0 (4, 0)) (ka1 : rm_kq NC a1 (1, 0))   : ∀ (s0 : Int32) (M : rm_M), fX4_drawnCell_L31 a0 a1 a2 s0 M = some rho → rm_L G NC ph 7 31 [(0, .ref (ph a0)), (1, .ref (ph a1))] [.int s0] M := by
  intro s0 M hf
  unfold fX4_drawnCell_L31 at hf
  refine rr_istore hG (lv2 := [(4, .int s0), (0, .ref (ph a0)), (1, .ref (ph a1))]) dX4_drawnCell_31 (by decide) rfl ?_
  refine rr_aload_n hG dX4_drawnCell_33 1 rfl rfl ?_
  refine rr_get hG 4 0 (v := .ref (ph (a0 + 1))) dX4_drawnCell_34 ka0 (by decide) rfl tX4_drawnCell_X4 (by decide) kX4_drawnCell_9 rfl rfl ?_
  refine rr_aload_n hG dX4_drawnCell_37 1 rfl rfl ?_
  refine rr_get hG 4 4 dX4_drawnCell_38 ka0 (by decide) rfl tX4_drawnCell_X4 (by decide) kX4_drawnCell_25 rfl rfl ?_
  refine rr_iald hG dX4_drawnCell_41 (rm_kX4_1 hN ka0) hf (fun b6 hf => ?_)
  refine rr_bindI hf (fun v7 ev7 hf => ?_)
  refine rr_istore hG (lv2 := [(5, .int v7), (4, .int s0), (0, .ref (ph a0)), (1, .ref (ph a1))]) dX4_drawnCell_42 (by decide) rfl ?_
  refine rr_iload hG dX4_drawnCell_44 1 rfl ?_
  refine rr_iload hG dX4_drawnCell_46 0 rfl ?_
  refine rr_icmp_ge hG (tgt := 56) dX4_drawnCell_48 (by decide) hf (fun c8 hf => ?_) (fun c8 hf => ?_)
  · refine rr_iconst hG (v := 0) dX4_drawnCell_56 (by decide) ?_
    refine rr_istore hG (lv2 := [(6, .int (0 : Int32)), (5, .int v7), (4, .int s0), (0, .ref (ph a0)), (1, .ref (ph a1))]) dX4_drawnCell_57 (by decide) rfl ?_
    exact rr_sub (lv2 := [(0, .ref (ph a0)), (1, .ref (ph a1)), (4, .int s0), (5, .int v7), (6, .int (0 : Int32))]) [3, 4, 2, 1, 0] rfl (wX4_drawnCell_L59 hN _ _ _ hG hR ka0 ka1 _ _ _ _ _ hf)
  · refine rr_aload_n hG dX4_drawnCell_51 2 rfl rfl ?_
    refine rr_get hG 4 4 dX4_drawnCell_52 ka0 (by decide) rfl tX4_drawnCell_X4 (by decide) kX4_drawnCell_25 rfl rfl ?_
    exact rr_iret hG hR dX4_drawnCell_55 hf
set_option maxHeartbeats 4000000 in
set_option maxRecDepth 100000 in
theorem mX4_drawnCell {NC : Nat} (hN : 79 ≤ NC) (ph : Nat → Nat) (a0 : Nat) (a1 : Nat) (a2 : Int32) (M : rm_M) (rho : Int32 × rm_M) (ka0 : rm_kq NC a0 (4, 0)) (ka1 : rm_kq NC a1 (1, 0)) (hf : fX4_drawnCell a0 a1 a2 M = some rho) : rm_CI yX4_drawnCell wsX4_drawnCell 0 0 [.ref (ph a0), .ref (ph a1), .int a2] NC ph M rho := by
  refine rm_metI (cc := cX4_drawnCell) (maxL := 7) (by decide +kernel) rfl rfl (Nat.le_of_ble_eq_true rfl) rfl (fun G hG hR => ?_)
  unfold fX4_drawnCell at hf
  refine rr_aload_n hG dX4_drawnCell_0 0 rfl rfl ?_
  refine rr_get hG 4 0 (v := .ref (ph (a0 + 1))) dX4_drawnCell_1 ka0 (by decide) rfl tX4_drawnCell_X4 (by decide) kX4_drawnCell_9 rfl rfl ?_
  refine rr_aload_n hG dX4_drawnCell_4 0 rfl rfl ?_
  refine rr_get hG 4 4 dX4_drawnCell_5 ka0 (by decide) rfl tX4_drawnCell_X4 (by decide) kX4_drawnCell_25 rfl rfl ?_
  refine rr_iald hG dX4_drawnCell_8 (rm_kX4_1 hN ka0) hf (fun b9 hf => ?_)
  refine rr_aload_n hG dX4_drawnCell_9 1 rfl rfl ?_
  refine rr_get hG 1 9 (v := .ref (ph (a1 + 16))) dX4_drawnCell_10 ka1 (by decide) rfl tX4_drawnCell_X1 (by decide) kX4_drawnCell_73 rfl rfl ?_
  refine rr_aload_n hG dX4_drawnCell_13 0 rfl rfl ?_
  refine rr_get hG 4 4 dX4_drawnCell_14 ka0 (by decide) rfl tX4_drawnCell_X4 (by decide) kX4_drawnCell_25 rfl rfl ?_
  refine rr_iald hG dX4_drawnCell_17 (rm_kX1_16 hN ka1) hf (fun b10 hf => ?_)
  refine rr_iadd hG dX4_drawnCell_18 ?_
  refine rr_bindI hf (fun v11 ev11 hf => ?_)
  refine rr_istore_n hG (lv2 := [(3, .int v11), (0, .ref (ph a0)), (1, .ref (ph a1)), (2, .int a2)]) dX4_drawnCell_19 rfl (by decide) rfl ?_
  refine rr_iload_n hG dX4_drawnCell_20 0 rfl rfl ?_
  refine rr_if_le hG (tgt := 30) dX4_drawnCell_21 (by decide) hf (fun c12 hf => ?_) (fun c12 hf => ?_)
  · refine rr_iconst hG (v := 0) dX4_drawnCell_30 (by decide) ?_
    exact rr_sub (lv2 := [(0, .ref (ph a0)), (1, .ref (ph a1))]) [1, 2] rfl (wX4_drawnCell_L31 hN _ _ _ hG hR ka0 ka1 _ _ hf)
  · refine rr_iload_n hG dX4_drawnCell_24 3 rfl rfl ?_
    refine rr_iload_n hG dX4_drawnCell_25 0 rfl rfl ?_
    refine rr_irem hG dX4_drawnCell_26 hf (fun hf => ?_)
    refine rr_goto hG (tgt := 31) dX4_drawnCell_27 (by decide) ?_
    exact rr_sub (lv2 := [(0, .ref (ph a0)), (1, .ref (ph a1))]) [1, 2] rfl (wX4_drawnCell_L31 hN _ _ _ hG hR ka0 ka1 _ _ hf)
/-! X5.append -/
theorem tX5_append_X5 : ∀ w ∈ u_ws RX5 TX5 4, w ∈ wsX5_append := by decide +kernel
theorem kX5_append_18 : Cond.fieldLink RX5 18 "RingPages$Text" "length" "I" ∈ wsX5_append := by decide +kernel
theorem kX5_append_9 : Cond.fieldLink RX5 9 "RingPages$Text" "letters" "[I" ∈ wsX5_append := by decide +kernel
set_option maxHeartbeats 4000000 in
set_option maxRecDepth 100000 in
theorem mX5_append {NC : Nat} (hN : 79 ≤ NC) (ph : Nat → Nat) (a1 : Int32) (M : rm_M) (rho : Int32 × rm_M)  (hf : fX5_append a1 M = some rho) : rm_CI yX5_append wsX5_append 0 0 [.ref (ph 1), .int a1] NC ph M rho := by
  refine rm_metI (cc := cX5_append) (maxL := 2) (by decide +kernel) rfl rfl (Nat.le_of_ble_eq_true rfl) rfl (fun G hG hR => ?_)
  unfold fX5_append at hf
  refine rr_aload_n hG dX5_append_0 0 rfl rfl ?_
  refine rr_get hG 5 3 dX5_append_1 (rm_c hN rfl (by decide)) (by decide) rfl tX5_append_X5 (by decide) kX5_append_18 rfl rfl ?_
  refine rr_sipush hG (v := 200) dX5_append_4 (by decide) ?_
  refine rr_icmp_lt hG (tgt := 12) dX5_append_7 (by decide) hf (fun c1 hf => ?_) (fun c1 hf => ?_)
  · refine rr_aload_n hG dX5_append_12 0 rfl rfl ?_
    refine rr_get hG 5 0 (v := .ref (ph 2)) dX5_append_13 (rm_c hN rfl (by decide)) (by decide) rfl tX5_append_X5 (by decide) kX5_append_9 rfl rfl ?_
    refine rr_aload_n hG dX5_append_16 0 rfl rfl ?_
    refine rr_get hG 5 3 dX5_append_17 (rm_c hN rfl (by decide)) (by decide) rfl tX5_append_X5 (by decide) kX5_append_18 rfl rfl ?_
    refine rr_iload_n hG dX5_append_20 1 rfl rfl ?_
    refine rr_iast hG dX5_append_21 (rm_c hN rfl (by decide)) hf (fun b2 hf => ?_)
    refine rr_bindM hf (fun M3 eM3 hf => ?_)
    refine rr_aload_n hG dX5_append_22 0 rfl rfl ?_
    refine rr_dup hG dX5_append_23 rfl ?_
    refine rr_get hG 5 3 dX5_append_24 (rm_c hN rfl (by decide)) (by decide) rfl tX5_append_X5 (by decide) kX5_append_18 rfl rfl ?_
    refine rr_iconst hG (v := 1) dX5_append_27 (by decide) ?_
    refine rr_iadd hG dX5_append_28 ?_
    refine rr_putI hG 5 3 dX5_append_29 (rm_c hN rfl (by decide)) (by decide) rfl tX5_append_X5 tyX5_ok nmX5 (by decide) kX5_append_18 rfl rfl rfl rfl rfl (Nat.le_of_ble_eq_true rfl) rfl ?_
    refine rr_bindM hf (fun M4 eM4 hf => ?_)
    refine rr_iconst hG (v := 1) dX5_append_32 (by decide) ?_
    exact rr_zret hG hR dX5_append_33 hf
  · refine rr_iconst hG (v := 0) dX5_append_10 (by decide) ?_
    exact rr_zret hG hR dX5_append_11 hf
/-! X5.letterHere -/
theorem tX5_letterHere_X5 : ∀ w ∈ u_ws RX5 TX5 4, w ∈ wsX5_letterHere := by decide +kernel
theorem kX5_letterHere_32 : Cond.fieldLink RX5 32 "RingPages$Text" "place" "I" ∈ wsX5_letterHere := by decide +kernel
theorem kX5_letterHere_18 : Cond.fieldLink RX5 18 "RingPages$Text" "length" "I" ∈ wsX5_letterHere := by decide +kernel
theorem kX5_letterHere_9 : Cond.fieldLink RX5 9 "RingPages$Text" "letters" "[I" ∈ wsX5_letterHere := by decide +kernel
set_option maxHeartbeats 4000000 in
set_option maxRecDepth 100000 in
theorem mX5_letterHere {NC : Nat} (hN : 79 ≤ NC) (ph : Nat → Nat)  (M : rm_M) (rho : Int32 × rm_M)  (hf : fX5_letterHere M = some rho) : rm_CI yX5_letterHere wsX5_letterHere 0 0 [.ref (ph 1)] NC ph M rho := by
  refine rm_metI (cc := cX5_letterHere) (maxL := 1) (by decide +kernel) rfl rfl (Nat.le_of_ble_eq_true rfl) rfl (fun G hG hR => ?_)
  unfold fX5_letterHere at hf
  refine rr_aload_n hG dX5_letterHere_0 0 rfl rfl ?_
  refine rr_get hG 5 2 dX5_letterHere_1 (rm_c hN rfl (by decide)) (by decide) rfl tX5_letterHere_X5 (by decide) kX5_letterHere_32 rfl rfl ?_
  refine rr_aload_n hG dX5_letterHere_4 0 rfl rfl ?_
  refine rr_get hG 5 3 dX5_letterHere_5 (rm_c hN rfl (by decide)) (by decide) rfl tX5_letterHere_X5 (by decide) kX5_letterHere_18 rfl rfl ?_
  refine rr_icmp_ge hG (tgt := 23) dX5_letterHere_8 (by decide) hf (fun c1 hf => ?_) (fun c1 hf => ?_)
  · refine rr_iconst hG (v := (-1)) dX5_letterHere_23 (by decide) ?_
    exact rr_iret hG hR dX5_letterHere_24 hf
  · refine rr_aload_n hG dX5_letterHere_11 0 rfl rfl ?_
    refine rr_get hG 5 0 (v := .ref (ph 2)) dX5_letterHere_12 (rm_c hN rfl (by decide)) (by decide) rfl tX5_letterHere_X5 (by decide) kX5_letterHere_9 rfl rfl ?_
    refine rr_aload_n hG dX5_letterHere_15 0 rfl rfl ?_
    refine rr_get hG 5 2 dX5_letterHere_16 (rm_c hN rfl (by decide)) (by decide) rfl tX5_letterHere_X5 (by decide) kX5_letterHere_32 rfl rfl ?_
    refine rr_iald hG dX5_letterHere_19 (rm_c hN rfl (by decide)) hf (fun b2 hf => ?_)
    refine rr_goto hG (tgt := 24) dX5_letterHere_20 (by decide) ?_
    exact rr_iret hG hR dX5_letterHere_24 hf
/-! X5.numbersBehind -/
set_option maxHeartbeats 4000000 in
set_option maxRecDepth 100000 in
theorem mX5_numbersBehind {NC : Nat} (hN : 79 ≤ NC) (ph : Nat → Nat) (a1 : Int32) (M : rm_M) (rho : Int32 × rm_M)  (hf : fX5_numbersBehind a1 M = some rho) : rm_CI yX5_numbersBehind wsX5_numbersBehind 0 0 [.ref (ph 1), .int a1] NC ph M rho := by
  refine rm_metI (cc := cX5_numbersBehind) (maxL := 2) (by decide +kernel) rfl rfl (Nat.le_of_ble_eq_true rfl) rfl (fun G hG hR => ?_)
  unfold fX5_numbersBehind at hf
  refine rr_iload_n hG dX5_numbersBehind_0 1 rfl rfl ?_
  by_cases c1 : a1 = 97
  · rw [if_pos c1] at hf
    refine rr_tableIn hG (tgt := 94) (97) dX5_numbersBehind_1 (by rw [c1]; decide) (by decide) (by decide) rfl (by decide) ?_
    refine rr_iconst hG (v := 2) dX5_numbersBehind_94 (by decide) ?_
    exact rr_iret hG hR dX5_numbersBehind_95 hf
  · rw [if_neg c1] at hf
    by_cases c2 : a1 = 106
    · rw [if_pos c2] at hf
      refine rr_tableIn hG (tgt := 96) (106) dX5_numbersBehind_1 (by rw [c2]; decide) (by decide) (by decide) rfl (by decide) ?_
      refine rr_iconst hG (v := 4) dX5_numbersBehind_96 (by decide) ?_
      exact rr_iret hG hR dX5_numbersBehind_97 hf
    · rw [if_neg c2] at hf
      by_cases c3 : a1 = 108
      · rw [if_pos c3] at hf
        refine rr_tableIn hG (tgt := 94) (108) dX5_numbersBehind_1 (by rw [c3]; decide) (by decide) (by decide) rfl (by decide) ?_
        refine rr_iconst hG (v := 2) dX5_numbersBehind_94 (by decide) ?_
        exact rr_iret hG hR dX5_numbersBehind_95 hf
      · rw [if_neg c3] at hf
        by_cases c4 : a1 = 110
        · rw [if_pos c4] at hf
          refine rr_tableIn hG (tgt := 92) (110) dX5_numbersBehind_1 (by rw [c4]; decide) (by decide) (by decide) rfl (by decide) ?_
          refine rr_iconst hG (v := 1) dX5_numbersBehind_92 (by decide) ?_
          exact rr_iret hG hR dX5_numbersBehind_93 hf
        · rw [if_neg c4] at hf
          by_cases c5 : a1 = 112
          · rw [if_pos c5] at hf
            refine rr_tableIn hG (tgt := 96) (112) dX5_numbersBehind_1 (by rw [c5]; decide) (by decide) (by decide) rfl (by decide) ?_
            refine rr_iconst hG (v := 4) dX5_numbersBehind_96 (by decide) ?_
            exact rr_iret hG hR dX5_numbersBehind_97 hf
          · rw [if_neg c5] at hf
            by_cases c6 : a1 = 115
            · rw [if_pos c6] at hf
              refine rr_tableIn hG (tgt := 94) (115) dX5_numbersBehind_1 (by rw [c6]; decide) (by decide) (by decide) rfl (by decide) ?_
              refine rr_iconst hG (v := 2) dX5_numbersBehind_94 (by decide) ?_
              exact rr_iret hG hR dX5_numbersBehind_95 hf
            · rw [if_neg c6] at hf
              have kk : rm_L G NC ph 2 98 [(0, .ref (ph 1)), (1, .int a1)] [] M := by
                refine rr_iconst hG (v := 0) dX5_numbersBehind_98 (by decide) ?_
                exact rr_iret hG hR dX5_numbersBehind_99 hf
              have hz : a1.toInt < 97 ∨ 115 < a1.toInt ∨ a1.toInt = 98 ∨ a1.toInt = 99 ∨ a1.toInt = 100 ∨ a1.toInt = 101 ∨ a1.toInt = 102 ∨ a1.toInt = 103 ∨ a1.toInt = 104 ∨ a1.toInt = 105 ∨ a1.toInt = 107 ∨ a1.toInt = 109 ∨ a1.toInt = 111 ∨ a1.toInt = 113 ∨ a1.toInt = 114 := by have n0 := lv_neT c1 (a := 97) (by decide); have n9 := lv_neT c2 (a := 106) (by decide); have n11 := lv_neT c3 (a := 108) (by decide); have n13 := lv_neT c4 (a := 110) (by decide); have n15 := lv_neT c5 (a := 112) (by decide); have n18 := lv_neT c6 (a := 115) (by decide); omega
              rcases hz with hz | hz | hz | hz | hz | hz | hz | hz | hz | hz | hz | hz | hz | hz | hz
              · exact rr_tableOut hG (tgt := 98) dX5_numbersBehind_1 (Or.inl hz) (by decide) kk
              · exact rr_tableOut hG (tgt := 98) dX5_numbersBehind_1 (Or.inr hz) (by decide) kk
              · exact rr_tableIn hG (tgt := 98) (98) dX5_numbersBehind_1 hz (by decide) (by decide) rfl (by decide) kk
              · exact rr_tableIn hG (tgt := 98) (99) dX5_numbersBehind_1 hz (by decide) (by decide) rfl (by decide) kk
              · exact rr_tableIn hG (tgt := 98) (100) dX5_numbersBehind_1 hz (by decide) (by decide) rfl (by decide) kk
              · exact rr_tableIn hG (tgt := 98) (101) dX5_numbersBehind_1 hz (by decide) (by decide) rfl (by decide) kk
              · exact rr_tableIn hG (tgt := 98) (102) dX5_numbersBehind_1 hz (by decide) (by decide) rfl (by decide) kk
              · exact rr_tableIn hG (tgt := 98) (103) dX5_numbersBehind_1 hz (by decide) (by decide) rfl (by decide) kk
              · exact rr_tableIn hG (tgt := 98) (104) dX5_numbersBehind_1 hz (by decide) (by decide) rfl (by decide) kk
              · exact rr_tableIn hG (tgt := 98) (105) dX5_numbersBehind_1 hz (by decide) (by decide) rfl (by decide) kk
              · exact rr_tableIn hG (tgt := 98) (107) dX5_numbersBehind_1 hz (by decide) (by decide) rfl (by decide) kk
              · exact rr_tableIn hG (tgt := 98) (109) dX5_numbersBehind_1 hz (by decide) (by decide) rfl (by decide) kk
              · exact rr_tableIn hG (tgt := 98) (111) dX5_numbersBehind_1 hz (by decide) (by decide) rfl (by decide) kk
              · exact rr_tableIn hG (tgt := 98) (113) dX5_numbersBehind_1 hz (by decide) (by decide) rfl (by decide) kk
              · exact rr_tableIn hG (tgt := 98) (114) dX5_numbersBehind_1 hz (by decide) (by decide) rfl (by decide) kk
/-! X5.figureHere -/
theorem tX5_figureHere_X5 : ∀ w ∈ u_ws RX5 TX5 4, w ∈ wsX5_figureHere := by decide +kernel
theorem kX5_figureHere_9 : Cond.fieldLink RX5 9 "RingPages$Text" "letters" "[I" ∈ wsX5_figureHere := by decide +kernel
theorem kX5_figureHere_32 : Cond.fieldLink RX5 32 "RingPages$Text" "place" "I" ∈ wsX5_figureHere := by decide +kernel
theorem kX5_figureHere_18 : Cond.fieldLink RX5 18 "RingPages$Text" "length" "I" ∈ wsX5_figureHere := by decide +kernel
set_option maxHeartbeats 4000000 in
set_option maxRecDepth 100000 in
theorem wX5_figureHere_L44 {G : rm_G} {NC : Nat} (hN : 79 ≤ NC) {ph : Nat → Nat} {rho : Int32 × rm_M}  (hG : rm_k G NC ph cX5_figureHere RX5 wsX5_figureHere 2 0 0) (hR : rm_rI G NC ph .int rho)    : ∀ (s0 : Int32) (M : rm_M), fX5_figureHere_L44 s0 M = some rho → rm_L G NC ph 2 44 [(0, .ref (ph 1))] [.int s0] M := by
  intro s0 M hf
  unfold fX5_figureHere_L44 at hf
  refine rr_istore_n hG (lv2 := [(1, .int s0), (0, .ref (ph 1))]) dX5_figureHere_44 rfl (by decide) rfl ?_
  refine rr_iload_n hG dX5_figureHere_45 0 rfl rfl ?_
  refine rr_if_eq hG (tgt := 64) dX5_figureHere_46 (by decide) hf (fun c1 hf => ?_) (fun c1 hf => ?_)
  · refine rr_iconst hG (v := (-1)) dX5_figureHere_64 (by decide) ?_
    exact rr_iret hG hR dX5_figureHere_65 hf
  · refine rr_aload_n hG dX5_figureHere_49 1 rfl rfl ?_
    refine rr_get hG 5 0 (v := .ref (ph 2)) dX5_figureHere_50 (rm_c hN rfl (by decide)) (by decide) rfl tX5_figureHere_X5 (by decide) kX5_figureHere_9 rfl rfl ?_
    refine rr_aload_n hG dX5_figureHere_53 1 rfl rfl ?_
    refine rr_get hG 5 2 dX5_figureHere_54 (rm_c hN rfl (by decide)) (by decide) rfl tX5_figureHere_X5 (by decide) kX5_figureHere_32 rfl rfl ?_
    refine rr_iald hG dX5_figureHere_57 (rm_c hN rfl (by decide)) hf (fun b2 hf => ?_)
    refine rr_bipush hG (v := 48) dX5_figureHere_58 (by decide) ?_
    refine rr_isub hG dX5_figureHere_60 ?_
    refine rr_goto hG (tgt := 65) dX5_figureHere_61 (by decide) ?_
    exact rr_iret hG hR dX5_figureHere_65 hf
set_option maxHeartbeats 4000000 in
set_option maxRecDepth 100000 in
theorem wX5_figureHere_L43 {G : rm_G} {NC : Nat} (hN : 79 ≤ NC) {ph : Nat → Nat} {rho : Int32 × rm_M}  (hG : rm_k G NC ph cX5_figureHere RX5 wsX5_figureHere 2 0 0) (hR : rm_rI G NC ph .int rho)    : ∀  (M : rm_M), fX5_figureHere_L43 M = some rho → rm_L G NC ph 2 43 [(0, .ref (ph 1))] [] M := by
  intro M hf
  unfold fX5_figureHere_L43 at hf
  refine rr_iconst hG (v := 0) dX5_figureHere_43 (by decide) ?_
  exact rr_sub (lv2 := [(0, .ref (ph 1))]) [0] rfl (wX5_figureHere_L44 hN hG hR _ _ hf)
set_option maxHeartbeats 4000000 in
set_option maxRecDepth 100000 in
theorem mX5_figureHere {NC : Nat} (hN : 79 ≤ NC) (ph : Nat → Nat)  (M : rm_M) (rho : Int32 × rm_M)  (hf : fX5_figureHere M = some rho) : rm_CI yX5_figureHere wsX5_figureHere 0 0 [.ref (ph 1)] NC ph M rho := by
  refine rm_metI (cc := cX5_figureHere) (maxL := 2) (by decide +kernel) rfl rfl (Nat.le_of_ble_eq_true rfl) rfl (fun G hG hR => ?_)
  unfold fX5_figureHere at hf
  refine rr_aload_n hG dX5_figureHere_0 0 rfl rfl ?_
  refine rr_get hG 5 2 dX5_figureHere_1 (rm_c hN rfl (by decide)) (by decide) rfl tX5_figureHere_X5 (by decide) kX5_figureHere_32 rfl rfl ?_
  refine rr_aload_n hG dX5_figureHere_4 0 rfl rfl ?_
  refine rr_get hG 5 3 dX5_figureHere_5 (rm_c hN rfl (by decide)) (by decide) rfl tX5_figureHere_X5 (by decide) kX5_figureHere_18 rfl rfl ?_
  refine rr_icmp_ge hG (tgt := 43) dX5_figureHere_8 (by decide) hf (fun c3 hf => ?_) (fun c3 hf => ?_)
  · exact rr_sub (lv2 := [(0, .ref (ph 1))]) [0] rfl (wX5_figureHere_L43 hN hG hR _ hf)
  · refine rr_aload_n hG dX5_figureHere_11 0 rfl rfl ?_
    refine rr_get hG 5 0 (v := .ref (ph 2)) dX5_figureHere_12 (rm_c hN rfl (by decide)) (by decide) rfl tX5_figureHere_X5 (by decide) kX5_figureHere_9 rfl rfl ?_
    refine rr_aload_n hG dX5_figureHere_15 0 rfl rfl ?_
    refine rr_get hG 5 2 dX5_figureHere_16 (rm_c hN rfl (by decide)) (by decide) rfl tX5_figureHere_X5 (by decide) kX5_figureHere_32 rfl rfl ?_
    refine rr_iald hG dX5_figureHere_19 (rm_c hN rfl (by decide)) hf (fun b4 hf => ?_)
    refine rr_bipush hG (v := 48) dX5_figureHere_20 (by decide) ?_
    refine rr_icmp_lt hG (tgt := 43) dX5_figureHere_22 (by decide) hf (fun c5 hf => ?_) (fun c5 hf => ?_)
    · exact rr_sub (lv2 := [(0, .ref (ph 1))]) [0] rfl (wX5_figureHere_L43 hN hG hR _ hf)
    · refine rr_aload_n hG dX5_figureHere_25 0 rfl rfl ?_
      refine rr_get hG 5 0 (v := .ref (ph 2)) dX5_figureHere_26 (rm_c hN rfl (by decide)) (by decide) rfl tX5_figureHere_X5 (by decide) kX5_figureHere_9 rfl rfl ?_
      refine rr_aload_n hG dX5_figureHere_29 0 rfl rfl ?_
      refine rr_get hG 5 2 dX5_figureHere_30 (rm_c hN rfl (by decide)) (by decide) rfl tX5_figureHere_X5 (by decide) kX5_figureHere_32 rfl rfl ?_
      refine rr_iald hG dX5_figureHere_33 (rm_c hN rfl (by decide)) hf (fun b6 hf => ?_)
      refine rr_bipush hG (v := 57) dX5_figureHere_34 (by decide) ?_
      refine rr_icmp_gt hG (tgt := 43) dX5_figureHere_36 (by decide) hf (fun c7 hf => ?_) (fun c7 hf => ?_)
      · exact rr_sub (lv2 := [(0, .ref (ph 1))]) [0] rfl (wX5_figureHere_L43 hN hG hR _ hf)
      · refine rr_iconst hG (v := 1) dX5_figureHere_39 (by decide) ?_
        refine rr_goto hG (tgt := 44) dX5_figureHere_40 (by decide) ?_
        exact rr_sub (lv2 := [(0, .ref (ph 1))]) [0] rfl (wX5_figureHere_L44 hN hG hR _ _ hf)
/-! X5.readNumber -/
theorem tX5_readNumber_X5 : ∀ w ∈ u_ws RX5 TX5 4, w ∈ wsX5_readNumber := by decide +kernel
theorem kX5_readNumber_32 : Cond.fieldLink RX5 32 "RingPages$Text" "place" "I" ∈ wsX5_readNumber := by decide +kernel
set_option maxHeartbeats 4000000 in
set_option maxRecDepth 100000 in
theorem mX5_readNumber {NC : Nat} (hN : 79 ≤ NC) (ph : Nat → Nat)  (M : rm_M) (rho : Int32 × rm_M)  (hf : fX5_readNumber M = some rho) : rm_CI yX5_readNumber wsX5_readNumber 1 21 [.ref (ph 1)] NC ph M rho := by
  refine rm_metI (cc := cX5_readNumber) (maxL := 3) (by decide +kernel) rfl rfl (Nat.le_of_ble_eq_true rfl) rfl (fun G hG hR => ?_)
  unfold fX5_readNumber at hf
  refine rr_aload_n hG dX5_readNumber_0 0 rfl rfl ?_
  refine rr_cVI hG (st := []) (n := 0) (ci := 5) (rf := 0) (rl := 0) [] dX5_readNumber_1 hf (rm_c hN rfl (by decide)) (by decide) rfl gX5_readNumber_X5_figureHere rfl (by decide +kernel) rfl ⟨by decide, by decide⟩ rfl (Nat.le_of_ble_eq_true rfl) (fun r9 M9 h9 => mX5_figureHere hN ph _ _ h9) (fun r2 M3 h1 hf => ?_)
  refine rr_istore_n hG (lv2 := [(1, .int r2), (0, .ref (ph 1))]) dX5_readNumber_4 rfl (by decide) rfl ?_
  refine rr_iload_n hG dX5_readNumber_5 0 rfl rfl ?_
  refine rr_if_ge hG (tgt := 11) dX5_readNumber_6 (by decide) hf (fun c4 hf => ?_) (fun c4 hf => ?_)
  · refine rr_aload_n hG dX5_readNumber_11 1 rfl rfl ?_
    refine rr_dup hG dX5_readNumber_12 rfl ?_
    refine rr_get hG 5 2 dX5_readNumber_13 (rm_c hN rfl (by decide)) (by decide) rfl tX5_readNumber_X5 (by decide) kX5_readNumber_32 rfl rfl ?_
    refine rr_iconst hG (v := 1) dX5_readNumber_16 (by decide) ?_
    refine rr_iadd hG dX5_readNumber_17 ?_
    refine rr_putI hG 5 2 dX5_readNumber_18 (rm_c hN rfl (by decide)) (by decide) rfl tX5_readNumber_X5 tyX5_ok nmX5 (by decide) kX5_readNumber_32 rfl rfl rfl rfl rfl (Nat.le_of_ble_eq_true rfl) rfl ?_
    refine rr_bindM hf (fun M5 eM5 hf => ?_)
    refine rr_aload_n hG dX5_readNumber_21 1 rfl rfl ?_
    refine rr_cVI hG (st := []) (n := 0) (ci := 5) (rf := 0) (rl := 0) [] dX5_readNumber_22 hf (rm_c hN rfl (by decide)) (by decide) rfl gX5_readNumber_X5_figureHere rfl (by decide +kernel) rfl ⟨by decide, by decide⟩ rfl (Nat.le_of_ble_eq_true rfl) (fun r9 M9 h9 => mX5_figureHere hN ph _ _ h9) (fun r7 M8 h6 hf => ?_)
    refine rr_istore_n hG (lv2 := [(2, .int r7), (1, .int r2), (0, .ref (ph 1))]) dX5_readNumber_25 rfl (by decide) rfl ?_
    refine rr_iload_n hG dX5_readNumber_26 0 rfl rfl ?_
    refine rr_if_ge hG (tgt := 32) dX5_readNumber_27 (by decide) hf (fun c9 hf => ?_) (fun c9 hf => ?_)
    · refine rr_aload_n hG dX5_readNumber_32 2 rfl rfl ?_
      refine rr_dup hG dX5_readNumber_33 rfl ?_
      refine rr_get hG 5 2 dX5_readNumber_34 (rm_c hN rfl (by decide)) (by decide) rfl tX5_readNumber_X5 (by decide) kX5_readNumber_32 rfl rfl ?_
      refine rr_iconst hG (v := 1) dX5_readNumber_37 (by decide) ?_
      refine rr_iadd hG dX5_readNumber_38 ?_
      refine rr_putI hG 5 2 dX5_readNumber_39 (rm_c hN rfl (by decide)) (by decide) rfl tX5_readNumber_X5 tyX5_ok nmX5 (by decide) kX5_readNumber_32 rfl rfl rfl rfl rfl (Nat.le_of_ble_eq_true rfl) rfl ?_
      refine rr_bindM hf (fun M10 eM10 hf => ?_)
      refine rr_bipush hG (v := 10) dX5_readNumber_42 (by decide) ?_
      refine rr_iload_n hG dX5_readNumber_44 1 rfl rfl ?_
      refine rr_imul hG dX5_readNumber_45 ?_
      refine rr_iload_n hG dX5_readNumber_46 0 rfl rfl ?_
      refine rr_iadd hG dX5_readNumber_47 ?_
      exact rr_iret hG hR dX5_readNumber_48 hf
    · refine rr_iload_n hG dX5_readNumber_30 1 rfl rfl ?_
      exact rr_iret hG hR dX5_readNumber_31 hf
  · refine rr_iconst hG (v := (-1)) dX5_readNumber_9 (by decide) ?_
    exact rr_iret hG hR dX5_readNumber_10 hf
/-! X5.readNumbers -/
theorem tX5_readNumbers_X5 : ∀ w ∈ u_ws RX5 TX5 4, w ∈ wsX5_readNumbers := by decide +kernel
theorem kX5_readNumbers_32 : Cond.fieldLink RX5 32 "RingPages$Text" "place" "I" ∈ wsX5_readNumbers := by decide +kernel
theorem kX5_readNumbers_15 : Cond.fieldLink RX5 15 "RingPages$Text" "numbers" "[I" ∈ wsX5_readNumbers := by decide +kernel
set_option maxHeartbeats 4000000 in
set_option maxRecDepth 100000 in
theorem wX5_readNumbers_L49 {G : rm_G} {NC : Nat} (hN : 79 ≤ NC) {ph : Nat → Nat} {rho : Int32 × rm_M} (a1 : Int32) (hG : rm_k G NC ph cX5_readNumbers RX5 wsX5_readNumbers 3 2 43) (hR : rm_rI G NC ph .boolean rho)  (q2 : Int32 → rm_M → Option (Int32 × rm_M)) (hq2 : ∀ (x2 : Int32) (M : rm_M), q2 x2 M = some rho → rm_L G NC ph 3 2 [(0, .ref (ph 1)), (1, .int a1), (2, .int x2)] [] M) : ∀ (x2 : Int32) (s0 : Int32) (s1 : Int32) (M : rm_M), fX5_readNumbers_L49 a1 q2 x2 s0 s1 M = some rho → rm_L G NC ph 3 49 [(0, .ref (ph 1)), (1, .int a1), (2, .int x2)] [.int s1, .int s0] M := by
  intro x2 s0 s1 M hf
  unfold fX5_readNumbers_L49 at hf
  refine rr_icmp_eq hG (tgt := 54) dX5_readNumbers_49 (by decide) hf (fun c1 hf => ?_) (fun c1 hf => ?_)
  · refine rr_aload_n hG dX5_readNumbers_54 0 rfl rfl ?_
    refine rr_dup hG dX5_readNumbers_55 rfl ?_
    refine rr_get hG 5 2 dX5_readNumbers_56 (rm_c hN rfl (by decide)) (by decide) rfl tX5_readNumbers_X5 (by decide) kX5_readNumbers_32 rfl rfl ?_
    refine rr_iconst hG (v := 1) dX5_readNumbers_59 (by decide) ?_
    refine rr_iadd hG dX5_readNumbers_60 ?_
    refine rr_putI hG 5 2 dX5_readNumbers_61 (rm_c hN rfl (by decide)) (by decide) rfl tX5_readNumbers_X5 tyX5_ok nmX5 (by decide) kX5_readNumbers_32 rfl rfl rfl rfl rfl (Nat.le_of_ble_eq_true rfl) rfl ?_
    refine rr_bindM hf (fun M2 eM2 hf => ?_)
    refine rr_iinc hG (v := x2 + (1 : Int32)) (lv2 := [(2, .int (x2 + (1 : Int32))), (0, .ref (ph 1)), (1, .int a1)]) (k := 2) dX5_readNumbers_64 rfl rfl (by decide) rfl ?_
    refine rr_goto hG (tgt := 2) dX5_readNumbers_67 (by decide) ?_
    exact rr_sub (lv2 := [(0, .ref (ph 1)), (1, .int a1), (2, .int (x2 + (1 : Int32)))]) [1, 2, 0] rfl (hq2 _ _ hf)
  · refine rr_iconst hG (v := 0) dX5_readNumbers_52 (by decide) ?_
    exact rr_zret hG hR dX5_readNumbers_53 hf
set_option maxHeartbeats 4000000 in
set_option maxRecDepth 100000 in
theorem wX5_readNumbers_L70 {G : rm_G} {NC : Nat} (hN : 79 ≤ NC) {ph : Nat → Nat} {rho : Int32 × rm_M} (a1 : Int32) (hG : rm_k G NC ph cX5_readNumbers RX5 wsX5_readNumbers 3 2 43) (hR : rm_rI G NC ph .boolean rho)    : ∀  (M : rm_M), fX5_readNumbers_L70 a1 M = some rho → rm_L G NC ph 3 70 [(1, .int a1)] [] M := by
  intro M hf
  unfold fX5_readNumbers_L70 at hf
  refine rr_iload_n hG dX5_readNumbers_70 0 rfl rfl ?_
  refine rr_if_le hG (tgt := 78) dX5_readNumbers_71 (by decide) hf (fun c3 hf => ?_) (fun c3 hf => ?_)
  · refine rr_iconst hG (v := 0) dX5_readNumbers_78 (by decide) ?_
    exact rr_zret hG hR dX5_readNumbers_79 hf
  · refine rr_iconst hG (v := 1) dX5_readNumbers_74 (by decide) ?_
    refine rr_goto hG (tgt := 79) dX5_readNumbers_75 (by decide) ?_
    exact rr_zret hG hR dX5_readNumbers_79 hf
set_option maxHeartbeats 4000000 in
set_option maxRecDepth 100000 in
theorem wX5_readNumbers_L2 {G : rm_G} {NC : Nat} (hN : 79 ≤ NC) {ph : Nat → Nat} {rho : Int32 × rm_M} (a1 : Int32) (hG : rm_k G NC ph cX5_readNumbers RX5 wsX5_readNumbers 3 2 43) (hR : rm_rI G NC ph .boolean rho)    : ∀ (n : Nat) (x2 : Int32) (M : rm_M), fX5_readNumbers_L2 a1 n x2 M = some rho → rm_L G NC ph 3 2 [(0, .ref (ph 1)), (1, .int a1), (2, .int x2)] [] M := by
  intro n
  induction n with
  | zero => intro x2 M hf; rw [fX5_readNumbers_L2] at hf; cases hf
  | succ n ih =>
    intro x2 M hf
    rw [fX5_readNumbers_L2] at hf
    refine rr_iload_n hG dX5_readNumbers_2 2 rfl rfl ?_
    refine rr_iload_n hG dX5_readNumbers_3 1 rfl rfl ?_
    refine rr_icmp_ge hG (tgt := 70) dX5_readNumbers_4 (by decide) hf (fun c4 hf => ?_) (fun c4 hf => ?_)
    · exact rr_sub (lv2 := [(1, .int a1)]) [1] rfl (wX5_readNumbers_L70 hN _ hG hR _ hf)
    · refine rr_iload_n hG dX5_readNumbers_7 2 rfl rfl ?_
      refine rr_iconst hG (v := 4) dX5_readNumbers_8 (by decide) ?_
      refine rr_icmp_ge hG (tgt := 70) dX5_readNumbers_9 (by decide) hf (fun c5 hf => ?_) (fun c5 hf => ?_)
      · exact rr_sub (lv2 := [(1, .int a1)]) [1] rfl (wX5_readNumbers_L70 hN _ hG hR _ hf)
      · refine rr_aload_n hG dX5_readNumbers_12 0 rfl rfl ?_
        refine rr_get hG 5 1 (v := .ref (ph 3)) dX5_readNumbers_13 (rm_c hN rfl (by decide)) (by decide) rfl tX5_readNumbers_X5 (by decide) kX5_readNumbers_15 rfl rfl ?_
        refine rr_iload_n hG dX5_readNumbers_16 2 rfl rfl ?_
        refine rr_aload_n hG dX5_readNumbers_17 0 rfl rfl ?_
        refine rr_cVI hG (st := [.int x2, .ref (ph 3)]) (n := 0) (ci := 5) (rf := 1) (rl := 21) [] dX5_readNumbers_18 hf (rm_c hN rfl (by decide)) (by decide) rfl gX5_readNumbers_X5_readNumber rfl (by decide +kernel) rfl ⟨by decide, by decide⟩ rfl (Nat.le_of_ble_eq_true rfl) (fun r9 M9 h9 => mX5_readNumber hN ph _ _ h9) (fun r7 M8 h6 hf => ?_)
        refine rr_iast hG dX5_readNumbers_21 (rm_c hN rfl (by decide)) hf (fun b9 hf => ?_)
        refine rr_bindM hf (fun M10 eM10 hf => ?_)
        refine rr_aload_n hG dX5_readNumbers_22 0 rfl rfl ?_
        refine rr_get hG 5 1 (v := .ref (ph 3)) dX5_readNumbers_23 (rm_c hN rfl (by decide)) (by decide) rfl tX5_readNumbers_X5 (by decide) kX5_readNumbers_15 rfl rfl ?_
        refine rr_iload_n hG dX5_readNumbers_26 2 rfl rfl ?_
        refine rr_iald hG dX5_readNumbers_27 (rm_c hN rfl (by decide)) hf (fun b11 hf => ?_)
        refine rr_if_lt hG (tgt := 52) dX5_readNumbers_28 (by decide) hf (fun c12 hf => ?_) (fun c12 hf => ?_)
        · refine rr_iconst hG (v := 0) dX5_readNumbers_52 (by decide) ?_
          exact rr_zret hG hR dX5_readNumbers_53 hf
        · refine rr_aload_n hG dX5_readNumbers_31 0 rfl rfl ?_
          refine rr_cVI hG (st := []) (n := 0) (ci := 5) (rf := 0) (rl := 0) [] dX5_readNumbers_32 hf (rm_c hN rfl (by decide)) (by decide) rfl gX5_readNumbers_X5_letterHere rfl (by decide +kernel) rfl ⟨by decide, by decide⟩ rfl (Nat.le_of_ble_eq_true rfl) (fun r9 M9 h9 => mX5_letterHere hN ph _ _ h9) (fun r14 M15 h13 hf => ?_)
          refine rr_iload_n hG dX5_readNumbers_35 2 rfl rfl ?_
          refine rr_iconst hG (v := 1) dX5_readNumbers_36 (by decide) ?_
          refine rr_iadd hG dX5_readNumbers_37 ?_
          refine rr_iload_n hG dX5_readNumbers_38 1 rfl rfl ?_
          refine rr_icmp_ge hG (tgt := 47) dX5_readNumbers_39 (by decide) hf (fun c16 hf => ?_) (fun c16 hf => ?_)
          · refine rr_bipush hG (v := 59) dX5_readNumbers_47 (by decide) ?_
            exact rr_sub (lv2 := [(0, .ref (ph 1)), (1, .int a1), (2, .int x2)]) [0, 1, 2] rfl (wX5_readNumbers_L49 hN _ hG hR _ (ih) _ _ _ _ hf)
          · refine rr_bipush hG (v := 44) dX5_readNumbers_42 (by decide) ?_
            refine rr_goto hG (tgt := 49) dX5_readNumbers_44 (by decide) ?_
            exact rr_sub (lv2 := [(0, .ref (ph 1)), (1, .int a1), (2, .int x2)]) [0, 1, 2] rfl (wX5_readNumbers_L49 hN _ hG hR _ (ih) _ _ _ _ hf)
set_option maxHeartbeats 4000000 in
set_option maxRecDepth 100000 in
theorem mX5_readNumbers {NC : Nat} (hN : 79 ≤ NC) (ph : Nat → Nat) (a1 : Int32) (M : rm_M) (rho : Int32 × rm_M)  (hf : fX5_readNumbers a1 M = some rho) : rm_CI yX5_readNumbers wsX5_readNumbers 2 43 [.ref (ph 1), .int a1] NC ph M rho := by
  refine rm_metI (cc := cX5_readNumbers) (maxL := 3) (by decide +kernel) rfl rfl (Nat.le_of_ble_eq_true rfl) rfl (fun G hG hR => ?_)
  unfold fX5_readNumbers at hf
  refine rr_iconst hG (v := 0) dX5_readNumbers_0 (by decide) ?_
  refine rr_istore_n hG (lv2 := [(2, .int (0 : Int32)), (0, .ref (ph 1)), (1, .int a1)]) dX5_readNumbers_1 rfl (by decide) rfl ?_
  exact rr_sub (lv2 := [(0, .ref (ph 1)), (1, .int a1), (2, .int (0 : Int32))]) [1, 2, 0] rfl (wX5_readNumbers_L2 hN _ hG hR _ _ _ hf)
/-! X5.takeCells -/
theorem tX5_takeCells_X5 : ∀ w ∈ u_ws RX5 TX5 4, w ∈ wsX5_takeCells := by decide +kernel
theorem kX5_takeCells_15 : Cond.fieldLink RX5 15 "RingPages$Text" "numbers" "[I" ∈ wsX5_takeCells := by decide +kernel
set_option maxHeartbeats 4000000 in
set_option maxRecDepth 100000 in
theorem mX5_takeCells {NC : Nat} (hN : 79 ≤ NC) (ph : Nat → Nat) (a1 : Nat) (M : rm_M) (rho : Int32 × rm_M) (ka1 : rm_kq NC a1 (1, 0)) (hf : fX5_takeCells a1 M = some rho) : rm_CI yX5_takeCells wsX5_takeCells 2 47 [.ref (ph 1), .ref (ph a1)] NC ph M rho := by
  refine rm_metI (cc := cX5_takeCells) (maxL := 2) (by decide +kernel) rfl rfl (Nat.le_of_ble_eq_true rfl) rfl (fun G hG hR => ?_)
  unfold fX5_takeCells at hf
  refine rr_aload_n hG dX5_takeCells_0 0 rfl rfl ?_
  refine rr_get hG 5 1 (v := .ref (ph 3)) dX5_takeCells_1 (rm_c hN rfl (by decide)) (by decide) rfl tX5_takeCells_X5 (by decide) kX5_takeCells_15 rfl rfl ?_
  refine rr_iconst hG (v := 0) dX5_takeCells_4 (by decide) ?_
  refine rr_iald hG dX5_takeCells_5 (rm_c hN rfl (by decide)) hf (fun b1 hf => ?_)
  refine rr_iconst hG (v := 2) dX5_takeCells_6 (by decide) ?_
  refine rr_icmp_lt hG (tgt := 21) dX5_takeCells_7 (by decide) hf (fun c2 hf => ?_) (fun c2 hf => ?_)
  · refine rr_iconst hG (v := 0) dX5_takeCells_21 (by decide) ?_
    exact rr_zret hG hR dX5_takeCells_22 hf
  · refine rr_aload_n hG dX5_takeCells_10 0 rfl rfl ?_
    refine rr_get hG 5 1 (v := .ref (ph 3)) dX5_takeCells_11 (rm_c hN rfl (by decide)) (by decide) rfl tX5_takeCells_X5 (by decide) kX5_takeCells_15 rfl rfl ?_
    refine rr_iconst hG (v := 0) dX5_takeCells_14 (by decide) ?_
    refine rr_iald hG dX5_takeCells_15 (rm_c hN rfl (by decide)) hf (fun b3 hf => ?_)
    refine rr_bipush hG (v := 6) dX5_takeCells_16 (by decide) ?_
    refine rr_icmp_le hG (tgt := 23) dX5_takeCells_18 (by decide) hf (fun c4 hf => ?_) (fun c4 hf => ?_)
    · refine rr_aload_n hG dX5_takeCells_23 1 rfl rfl ?_
      refine rr_aload_n hG dX5_takeCells_24 0 rfl rfl ?_
      refine rr_get hG 5 1 (v := .ref (ph 3)) dX5_takeCells_25 (rm_c hN rfl (by decide)) (by decide) rfl tX5_takeCells_X5 (by decide) kX5_takeCells_15 rfl rfl ?_
      refine rr_iconst hG (v := 0) dX5_takeCells_28 (by decide) ?_
      refine rr_iald hG dX5_takeCells_29 (rm_c hN rfl (by decide)) hf (fun b5 hf => ?_)
      refine rr_cVV hG (st := []) (n := 1) (ci := 1) (rf := 1) (rl := 24) [.int (M.1 3 ((0 : Int32)).toNatClampNeg)] dX5_takeCells_30 hf ka1 (by decide) rfl gX5_takeCells_X1_begin rfl (by decide +kernel) rfl ⟨by decide, by decide⟩ rfl (Nat.le_of_ble_eq_true rfl) (fun M9 h9 => mX1_begin hN ph _ _ _ _ ka1 h9) (fun M7 h6 hf => ?_)
      refine rr_iconst hG (v := 1) dX5_takeCells_33 (by decide) ?_
      exact rr_zret hG hR dX5_takeCells_34 hf
    · refine rr_iconst hG (v := 0) dX5_takeCells_21 (by decide) ?_
      exact rr_zret hG hR dX5_takeCells_22 hf
/-! X5.isWeight -/
set_option maxHeartbeats 4000000 in
set_option maxRecDepth 100000 in
theorem mX5_isWeight {NC : Nat} (hN : 79 ≤ NC) (ph : Nat → Nat) (a1 : Int32) (M : rm_M) (rho : Int32 × rm_M)  (hf : fX5_isWeight a1 M = some rho) : rm_CI yX5_isWeight wsX5_isWeight 0 0 [.ref (ph 1), .int a1] NC ph M rho := by
  refine rm_metI (cc := cX5_isWeight) (maxL := 2) (by decide +kernel) rfl rfl (Nat.le_of_ble_eq_true rfl) rfl (fun G hG hR => ?_)
  unfold fX5_isWeight at hf
  refine rr_iload_n hG dX5_isWeight_0 1 rfl rfl ?_
  refine rr_iconst hG (v := 1) dX5_isWeight_1 (by decide) ?_
  refine rr_icmp_lt hG (tgt := 14) dX5_isWeight_2 (by decide) hf (fun c1 hf => ?_) (fun c1 hf => ?_)
  · refine rr_iconst hG (v := 0) dX5_isWeight_14 (by decide) ?_
    exact rr_zret hG hR dX5_isWeight_15 hf
  · refine rr_iload_n hG dX5_isWeight_5 1 rfl rfl ?_
    refine rr_iconst hG (v := 4) dX5_isWeight_6 (by decide) ?_
    refine rr_icmp_gt hG (tgt := 14) dX5_isWeight_7 (by decide) hf (fun c2 hf => ?_) (fun c2 hf => ?_)
    · refine rr_iconst hG (v := 0) dX5_isWeight_14 (by decide) ?_
      exact rr_zret hG hR dX5_isWeight_15 hf
    · refine rr_iconst hG (v := 1) dX5_isWeight_10 (by decide) ?_
      refine rr_goto hG (tgt := 15) dX5_isWeight_11 (by decide) ?_
      exact rr_zret hG hR dX5_isWeight_15 hf
/-! X5.takeJoin -/
theorem tX5_takeJoin_X1 : ∀ w ∈ u_ws RX1 TX1 12, w ∈ wsX5_takeJoin := by decide +kernel
theorem tX5_takeJoin_X5 : ∀ w ∈ u_ws RX5 TX5 4, w ∈ wsX5_takeJoin := by decide +kernel
theorem kX5_takeJoin_15 : Cond.fieldLink RX5 15 "RingPages$Text" "numbers" "[I" ∈ wsX5_takeJoin := by decide +kernel
theorem kX5_takeJoin_43 : Cond.fieldLink RX5 43 "RingPages$Net" "cells" "I" ∈ wsX5_takeJoin := by decide +kernel
theorem kX5_takeJoin_78 : Cond.fieldLink RX5 78 "RingPages$Net" "weight" "[[I" ∈ wsX5_takeJoin := by decide +kernel
set_option maxHeartbeats 4000000 in
set_option maxRecDepth 100000 in
theorem mX5_takeJoin {NC : Nat} (hN : 79 ≤ NC) (ph : Nat → Nat) (a1 : Nat) (M : rm_M) (rho : Int32 × rm_M) (ka1 : rm_kq NC a1 (1, 0)) (hf : fX5_takeJoin a1 M = some rho) : rm_CI yX5_takeJoin wsX5_takeJoin 2 47 [.ref (ph 1), .ref (ph a1)] NC ph M rho := by
  refine rm_metI (cc := cX5_takeJoin) (maxL := 4) (by decide +kernel) rfl rfl (Nat.le_of_ble_eq_true rfl) rfl (fun G hG hR => ?_)
  unfold fX5_takeJoin at hf
  refine rr_aload_n hG dX5_takeJoin_0 0 rfl rfl ?_
  refine rr_get hG 5 1 (v := .ref (ph 3)) dX5_takeJoin_1 (rm_c hN rfl (by decide)) (by decide) rfl tX5_takeJoin_X5 (by decide) kX5_takeJoin_15 rfl rfl ?_
  refine rr_iconst hG (v := 0) dX5_takeJoin_4 (by decide) ?_
  refine rr_iald hG dX5_takeJoin_5 (rm_c hN rfl (by decide)) hf (fun b1 hf => ?_)
  refine rr_bindI hf (fun v2 ev2 hf => ?_)
  refine rr_istore_n hG (lv2 := [(2, .int v2), (0, .ref (ph 1)), (1, .ref (ph a1))]) dX5_takeJoin_6 rfl (by decide) rfl ?_
  refine rr_aload_n hG dX5_takeJoin_7 1 rfl rfl ?_
  refine rr_get hG 5 1 (v := .ref (ph 3)) dX5_takeJoin_8 (rm_c hN rfl (by decide)) (by decide) rfl tX5_takeJoin_X5 (by decide) kX5_takeJoin_15 rfl rfl ?_
  refine rr_iconst hG (v := 1) dX5_takeJoin_11 (by decide) ?_
  refine rr_iald hG dX5_takeJoin_12 (rm_c hN rfl (by decide)) hf (fun b3 hf => ?_)
  refine rr_bindI hf (fun v4 ev4 hf => ?_)
  refine rr_istore_n hG (lv2 := [(3, .int v4), (2, .int v2), (0, .ref (ph 1)), (1, .ref (ph a1))]) dX5_takeJoin_13 rfl (by decide) rfl ?_
  refine rr_iload_n hG dX5_takeJoin_14 1 rfl rfl ?_
  refine rr_aload_n hG dX5_takeJoin_15 3 rfl rfl ?_
  refine rr_get hG 1 0 dX5_takeJoin_16 ka1 (by decide) rfl tX5_takeJoin_X1 (by decide) kX5_takeJoin_43 rfl rfl ?_
  refine rr_icmp_ge hG (tgt := 72) dX5_takeJoin_19 (by decide) hf (fun c5 hf => ?_) (fun c5 hf => ?_)
  · refine rr_iconst hG (v := 0) dX5_takeJoin_72 (by decide) ?_
    exact rr_zret hG hR dX5_takeJoin_73 hf
  · refine rr_iload_n hG dX5_takeJoin_22 0 rfl rfl ?_
    refine rr_aload_n hG dX5_takeJoin_23 3 rfl rfl ?_
    refine rr_get hG 1 0 dX5_takeJoin_24 ka1 (by decide) rfl tX5_takeJoin_X1 (by decide) kX5_takeJoin_43 rfl rfl ?_
    refine rr_icmp_ge hG (tgt := 72) dX5_takeJoin_27 (by decide) hf (fun c6 hf => ?_) (fun c6 hf => ?_)
    · refine rr_iconst hG (v := 0) dX5_takeJoin_72 (by decide) ?_
      exact rr_zret hG hR dX5_takeJoin_73 hf
    · refine rr_iload_n hG dX5_takeJoin_30 1 rfl rfl ?_
      refine rr_iload_n hG dX5_takeJoin_31 0 rfl rfl ?_
      refine rr_icmp_eq hG (tgt := 72) dX5_takeJoin_32 (by decide) hf (fun c7 hf => ?_) (fun c7 hf => ?_)
      · refine rr_iconst hG (v := 0) dX5_takeJoin_72 (by decide) ?_
        exact rr_zret hG hR dX5_takeJoin_73 hf
      · refine rr_aload_n hG dX5_takeJoin_35 3 rfl rfl ?_
        refine rr_get hG 1 6 (v := .ref (ph (a1 + 1))) dX5_takeJoin_36 ka1 (by decide) rfl tX5_takeJoin_X1 (by decide) kX5_takeJoin_78 rfl rfl ?_
        refine rr_iload_n hG dX5_takeJoin_39 1 rfl rfl ?_
        refine rr_aldR hG dX5_takeJoin_40 (rm_kX1_1 hN ka1) hf (fun b8 hf => ?_)
        refine rr_iload_n hG dX5_takeJoin_41 0 rfl rfl ?_
        refine rr_iald hG dX5_takeJoin_42 (rm_kR hN (rm_kX1_1 hN ka1) b8) hf (fun b9 hf => ?_)
        refine rr_if_ne hG (tgt := 72) dX5_takeJoin_43 (by decide) hf (fun c10 hf => ?_) (fun c10 hf => ?_)
        · refine rr_iconst hG (v := 0) dX5_takeJoin_72 (by decide) ?_
          exact rr_zret hG hR dX5_takeJoin_73 hf
        · refine rr_aload_n hG dX5_takeJoin_46 2 rfl rfl ?_
          refine rr_aload_n hG dX5_takeJoin_47 2 rfl rfl ?_
          refine rr_get hG 5 1 (v := .ref (ph 3)) dX5_takeJoin_48 (rm_c hN rfl (by decide)) (by decide) rfl tX5_takeJoin_X5 (by decide) kX5_takeJoin_15 rfl rfl ?_
          refine rr_iconst hG (v := 2) dX5_takeJoin_51 (by decide) ?_
          refine rr_iald hG dX5_takeJoin_52 (rm_c hN rfl (by decide)) hf (fun b11 hf => ?_)
          refine rr_cVI hG (st := []) (n := 1) (ci := 5) (rf := 0) (rl := 0) [.int (M.1 3 ((2 : Int32)).toNatClampNeg)] dX5_takeJoin_53 hf (rm_c hN rfl (by decide)) (by decide) rfl gX5_takeJoin_X5_isWeight rfl (by decide +kernel) rfl ⟨by decide, by decide⟩ rfl (Nat.le_of_ble_eq_true rfl) (fun r9 M9 h9 => mX5_isWeight hN ph _ _ _ h9) (fun r13 M14 h12 hf => ?_)
          refine rr_if_eq hG (tgt := 72) dX5_takeJoin_56 (by decide) hf (fun c15 hf => ?_) (fun c15 hf => ?_)
          · refine rr_iconst hG (v := 0) dX5_takeJoin_72 (by decide) ?_
            exact rr_zret hG hR dX5_takeJoin_73 hf
          · refine rr_aload_n hG dX5_takeJoin_59 2 rfl rfl ?_
            refine rr_aload_n hG dX5_takeJoin_60 2 rfl rfl ?_
            refine rr_get hG 5 1 (v := .ref (ph 3)) dX5_takeJoin_61 (rm_c hN rfl (by decide)) (by decide) rfl tX5_takeJoin_X5 (by decide) kX5_takeJoin_15 rfl rfl ?_
            refine rr_iconst hG (v := 3) dX5_takeJoin_64 (by decide) ?_
            refine rr_iald hG dX5_takeJoin_65 (rm_c hN rfl (by decide)) hf (fun b16 hf => ?_)
            refine rr_cVI hG (st := []) (n := 1) (ci := 5) (rf := 0) (rl := 0) [.int (M14.1 3 ((3 : Int32)).toNatClampNeg)] dX5_takeJoin_66 hf (rm_c hN rfl (by decide)) (by decide) rfl gX5_takeJoin_X5_isWeight rfl (by decide +kernel) rfl ⟨by decide, by decide⟩ rfl (Nat.le_of_ble_eq_true rfl) (fun r9 M9 h9 => mX5_isWeight hN ph _ _ _ h9) (fun r18 M19 h17 hf => ?_)
            refine rr_if_ne hG (tgt := 74) dX5_takeJoin_69 (by decide) hf (fun c20 hf => ?_) (fun c20 hf => ?_)
            · refine rr_aload_n hG dX5_takeJoin_74 3 rfl rfl ?_
              refine rr_iload_n hG dX5_takeJoin_75 1 rfl rfl ?_
              refine rr_iload_n hG dX5_takeJoin_76 0 rfl rfl ?_
              refine rr_aload_n hG dX5_takeJoin_77 2 rfl rfl ?_
              refine rr_get hG 5 1 (v := .ref (ph 3)) dX5_takeJoin_78 (rm_c hN rfl (by decide)) (by decide) rfl tX5_takeJoin_X5 (by decide) kX5_takeJoin_15 rfl rfl ?_
              refine rr_iconst hG (v := 2) dX5_takeJoin_81 (by decide) ?_
              refine rr_iald hG dX5_takeJoin_82 (rm_c hN rfl (by decide)) hf (fun b21 hf => ?_)
              refine rr_aload_n hG dX5_takeJoin_83 2 rfl rfl ?_
              refine rr_get hG 5 1 (v := .ref (ph 3)) dX5_takeJoin_84 (rm_c hN rfl (by decide)) (by decide) rfl tX5_takeJoin_X5 (by decide) kX5_takeJoin_15 rfl rfl ?_
              refine rr_iconst hG (v := 3) dX5_takeJoin_87 (by decide) ?_
              refine rr_iald hG dX5_takeJoin_88 (rm_c hN rfl (by decide)) hf (fun b22 hf => ?_)
              refine rr_cVV hG (st := []) (n := 4) (ci := 1) (rf := 1) (rl := 23) [.int v2, .int v4, .int (M19.1 3 ((2 : Int32)).toNatClampNeg), .int (M19.1 3 ((3 : Int32)).toNatClampNeg)] dX5_takeJoin_89 hf ka1 (by decide) rfl gX5_takeJoin_X1_join rfl (by decide +kernel) rfl ⟨by decide, by decide⟩ rfl (Nat.le_of_ble_eq_true rfl) (fun M9 h9 => mX1_join hN ph _ _ _ _ _ _ _ ka1 h9) (fun M24 h23 hf => ?_)
              refine rr_iconst hG (v := 1) dX5_takeJoin_92 (by decide) ?_
              exact rr_zret hG hR dX5_takeJoin_93 hf
            · refine rr_iconst hG (v := 0) dX5_takeJoin_72 (by decide) ?_
              exact rr_zret hG hR dX5_takeJoin_73 hf
/-! X5.takeCellNumber -/
theorem tX5_takeCellNumber_X1 : ∀ w ∈ u_ws RX1 TX1 12, w ∈ wsX5_takeCellNumber := by decide +kernel
theorem tX5_takeCellNumber_X5 : ∀ w ∈ u_ws RX5 TX5 4, w ∈ wsX5_takeCellNumber := by decide +kernel
theorem kX5_takeCellNumber_15 : Cond.fieldLink RX5 15 "RingPages$Text" "numbers" "[I" ∈ wsX5_takeCellNumber := by decide +kernel
theorem kX5_takeCellNumber_43 : Cond.fieldLink RX5 43 "RingPages$Net" "cells" "I" ∈ wsX5_takeCellNumber := by decide +kernel
set_option maxHeartbeats 4000000 in
set_option maxRecDepth 100000 in
theorem mX5_takeCellNumber {NC : Nat} (hN : 79 ≤ NC) (ph : Nat → Nat) (a1 : Nat) (a2 : Nat) (a3 : Int32) (M : rm_M) (rho : Int32 × rm_M) (ka1 : rm_kq NC a1 (1, 0)) (ka2 : rm_kq NC a2 (9, (rm_kd a2).2)) (hf : fX5_takeCellNumber a1 a2 a3 M = some rho) : rm_CI yX5_takeCellNumber wsX5_takeCellNumber 0 0 [.ref (ph 1), .ref (ph a1), .ref (ph a2), .int a3] NC ph M rho := by
  refine rm_metI (cc := cX5_takeCellNumber) (maxL := 4) (by decide +kernel) rfl rfl (Nat.le_of_ble_eq_true rfl) rfl (fun G hG hR => ?_)
  unfold fX5_takeCellNumber at hf
  refine rr_aload_n hG dX5_takeCellNumber_0 0 rfl rfl ?_
  refine rr_get hG 5 1 (v := .ref (ph 3)) dX5_takeCellNumber_1 (rm_c hN rfl (by decide)) (by decide) rfl tX5_takeCellNumber_X5 (by decide) kX5_takeCellNumber_15 rfl rfl ?_
  refine rr_iconst hG (v := 0) dX5_takeCellNumber_4 (by decide) ?_
  refine rr_iald hG dX5_takeCellNumber_5 (rm_c hN rfl (by decide)) hf (fun b1 hf => ?_)
  refine rr_aload_n hG dX5_takeCellNumber_6 1 rfl rfl ?_
  refine rr_get hG 1 0 dX5_takeCellNumber_7 ka1 (by decide) rfl tX5_takeCellNumber_X1 (by decide) kX5_takeCellNumber_43 rfl rfl ?_
  refine rr_icmp_ge hG (tgt := 23) dX5_takeCellNumber_10 (by decide) hf (fun c2 hf => ?_) (fun c2 hf => ?_)
  · refine rr_iconst hG (v := 0) dX5_takeCellNumber_23 (by decide) ?_
    exact rr_zret hG hR dX5_takeCellNumber_24 hf
  · refine rr_aload_n hG dX5_takeCellNumber_13 0 rfl rfl ?_
    refine rr_get hG 5 1 (v := .ref (ph 3)) dX5_takeCellNumber_14 (rm_c hN rfl (by decide)) (by decide) rfl tX5_takeCellNumber_X5 (by decide) kX5_takeCellNumber_15 rfl rfl ?_
    refine rr_iconst hG (v := 1) dX5_takeCellNumber_17 (by decide) ?_
    refine rr_iald hG dX5_takeCellNumber_18 (rm_c hN rfl (by decide)) hf (fun b3 hf => ?_)
    refine rr_iload_n hG dX5_takeCellNumber_19 3 rfl rfl ?_
    refine rr_icmp_le hG (tgt := 25) dX5_takeCellNumber_20 (by decide) hf (fun c4 hf => ?_) (fun c4 hf => ?_)
    · refine rr_aload_n hG dX5_takeCellNumber_25 2 rfl rfl ?_
      refine rr_aload_n hG dX5_takeCellNumber_26 0 rfl rfl ?_
      refine rr_get hG 5 1 (v := .ref (ph 3)) dX5_takeCellNumber_27 (rm_c hN rfl (by decide)) (by decide) rfl tX5_takeCellNumber_X5 (by decide) kX5_takeCellNumber_15 rfl rfl ?_
      refine rr_iconst hG (v := 0) dX5_takeCellNumber_30 (by decide) ?_
      refine rr_iald hG dX5_takeCellNumber_31 (rm_c hN rfl (by decide)) hf (fun b5 hf => ?_)
      refine rr_aload_n hG dX5_takeCellNumber_32 0 rfl rfl ?_
      refine rr_get hG 5 1 (v := .ref (ph 3)) dX5_takeCellNumber_33 (rm_c hN rfl (by decide)) (by decide) rfl tX5_takeCellNumber_X5 (by decide) kX5_takeCellNumber_15 rfl rfl ?_
      refine rr_iconst hG (v := 1) dX5_takeCellNumber_36 (by decide) ?_
      refine rr_iald hG dX5_takeCellNumber_37 (rm_c hN rfl (by decide)) hf (fun b6 hf => ?_)
      refine rr_iast hG dX5_takeCellNumber_38 ka2 hf (fun b7 hf => ?_)
      refine rr_bindM hf (fun M8 eM8 hf => ?_)
      refine rr_iconst hG (v := 1) dX5_takeCellNumber_39 (by decide) ?_
      exact rr_zret hG hR dX5_takeCellNumber_40 hf
    · refine rr_iconst hG (v := 0) dX5_takeCellNumber_23 (by decide) ?_
      exact rr_zret hG hR dX5_takeCellNumber_24 hf
/-! X7.isLaw -/
set_option maxHeartbeats 4000000 in
set_option maxRecDepth 100000 in
theorem mX7_isLaw {NC : Nat} (hN : 79 ≤ NC) (ph : Nat → Nat) (a0 : Int32) (a1 : Int32) (M : rm_M) (rho : Int32 × rm_M)  (hf : fX7_isLaw a0 a1 M = some rho) : rm_CI yX7_isLaw wsX7_isLaw 0 0 [.int a0, .int a1] NC ph M rho := by
  refine rm_metI (cc := cX7_isLaw) (maxL := 2) (by decide +kernel) rfl rfl (Nat.le_of_ble_eq_true rfl) rfl (fun G hG hR => ?_)
  unfold fX7_isLaw at hf
  refine rr_iload_n hG dX7_isLaw_0 0 rfl rfl ?_
  refine rr_if_ne hG (tgt := 14) dX7_isLaw_1 (by decide) hf (fun c1 hf => ?_) (fun c1 hf => ?_)
  · refine rr_iload_n hG dX7_isLaw_14 0 rfl rfl ?_
    refine rr_iconst hG (v := 1) dX7_isLaw_15 (by decide) ?_
    refine rr_icmp_lt hG (tgt := 39) dX7_isLaw_16 (by decide) hf (fun c2 hf => ?_) (fun c2 hf => ?_)
    · refine rr_iconst hG (v := 0) dX7_isLaw_39 (by decide) ?_
      exact rr_zret hG hR dX7_isLaw_40 hf
    · refine rr_iload_n hG dX7_isLaw_19 0 rfl rfl ?_
      refine rr_iconst hG (v := 3) dX7_isLaw_20 (by decide) ?_
      refine rr_icmp_gt hG (tgt := 39) dX7_isLaw_21 (by decide) hf (fun c3 hf => ?_) (fun c3 hf => ?_)
      · refine rr_iconst hG (v := 0) dX7_isLaw_39 (by decide) ?_
        exact rr_zret hG hR dX7_isLaw_40 hf
      · refine rr_iload_n hG dX7_isLaw_24 1 rfl rfl ?_
        refine rr_iconst hG (v := 1) dX7_isLaw_25 (by decide) ?_
        refine rr_icmp_lt hG (tgt := 39) dX7_isLaw_26 (by decide) hf (fun c4 hf => ?_) (fun c4 hf => ?_)
        · refine rr_iconst hG (v := 0) dX7_isLaw_39 (by decide) ?_
          exact rr_zret hG hR dX7_isLaw_40 hf
        · refine rr_iload_n hG dX7_isLaw_29 1 rfl rfl ?_
          refine rr_bipush hG (v := 9) dX7_isLaw_30 (by decide) ?_
          refine rr_icmp_gt hG (tgt := 39) dX7_isLaw_32 (by decide) hf (fun c5 hf => ?_) (fun c5 hf => ?_)
          · refine rr_iconst hG (v := 0) dX7_isLaw_39 (by decide) ?_
            exact rr_zret hG hR dX7_isLaw_40 hf
          · refine rr_iconst hG (v := 1) dX7_isLaw_35 (by decide) ?_
            refine rr_goto hG (tgt := 40) dX7_isLaw_36 (by decide) ?_
            exact rr_zret hG hR dX7_isLaw_40 hf
  · refine rr_iload_n hG dX7_isLaw_4 1 rfl rfl ?_
    refine rr_if_ne hG (tgt := 12) dX7_isLaw_5 (by decide) hf (fun c6 hf => ?_) (fun c6 hf => ?_)
    · refine rr_iconst hG (v := 0) dX7_isLaw_12 (by decide) ?_
      exact rr_zret hG hR dX7_isLaw_13 hf
    · refine rr_iconst hG (v := 1) dX7_isLaw_8 (by decide) ?_
      refine rr_goto hG (tgt := 13) dX7_isLaw_9 (by decide) ?_
      exact rr_zret hG hR dX7_isLaw_13 hf
/-! X5.takeLaw -/
theorem tX5_takeLaw_X4 : ∀ w ∈ u_ws RX4 TX4 10, w ∈ wsX5_takeLaw := by decide +kernel
theorem tX5_takeLaw_X5 : ∀ w ∈ u_ws RX5 TX5 4, w ∈ wsX5_takeLaw := by decide +kernel
theorem kX5_takeLaw_15 : Cond.fieldLink RX5 15 "RingPages$Text" "numbers" "[I" ∈ wsX5_takeLaw := by decide +kernel
theorem kX5_takeLaw_iniX7 : Cond.initialized RX7 ∈ wsX5_takeLaw := by decide +kernel
theorem kX5_takeLaw_stX7_isLaw : Cond.static yX7_isLaw ∈ wsX5_takeLaw := by decide +kernel
theorem kX5_takeLaw_93 : Cond.fieldLink RX5 93 "RingPages$State" "kind" "I" ∈ wsX5_takeLaw := by decide +kernel
theorem kX5_takeLaw_96 : Cond.fieldLink RX5 96 "RingPages$State" "value" "I" ∈ wsX5_takeLaw := by decide +kernel
set_option maxHeartbeats 4000000 in
set_option maxRecDepth 100000 in
theorem mX5_takeLaw {NC : Nat} (hN : 79 ≤ NC) (ph : Nat → Nat) (a1 : Nat) (M : rm_M) (rho : Int32 × rm_M) (ka1 : rm_kq NC a1 (4, 0)) (hf : fX5_takeLaw a1 M = some rho) : rm_CI yX5_takeLaw wsX5_takeLaw 1 21 [.ref (ph 1), .ref (ph a1)] NC ph M rho := by
  refine rm_metI (cc := cX5_takeLaw) (maxL := 2) (by decide +kernel) rfl rfl (Nat.le_of_ble_eq_true rfl) rfl (fun G hG hR => ?_)
  unfold fX5_takeLaw at hf
  refine rr_aload_n hG dX5_takeLaw_0 0 rfl rfl ?_
  refine rr_get hG 5 1 (v := .ref (ph 3)) dX5_takeLaw_1 (rm_c hN rfl (by decide)) (by decide) rfl tX5_takeLaw_X5 (by decide) kX5_takeLaw_15 rfl rfl ?_
  refine rr_iconst hG (v := 0) dX5_takeLaw_4 (by decide) ?_
  refine rr_iald hG dX5_takeLaw_5 (rm_c hN rfl (by decide)) hf (fun b1 hf => ?_)
  refine rr_aload_n hG dX5_takeLaw_6 0 rfl rfl ?_
  refine rr_get hG 5 1 (v := .ref (ph 3)) dX5_takeLaw_7 (rm_c hN rfl (by decide)) (by decide) rfl tX5_takeLaw_X5 (by decide) kX5_takeLaw_15 rfl rfl ?_
  refine rr_iconst hG (v := 1) dX5_takeLaw_10 (by decide) ?_
  refine rr_iald hG dX5_takeLaw_11 (rm_c hN rfl (by decide)) hf (fun b2 hf => ?_)
  refine rr_cNI hG (st := []) (n := 2) (rf := 0) (rl := 0) [.int (M.1 3 ((0 : Int32)).toNatClampNeg), .int (M.1 3 ((1 : Int32)).toNatClampNeg)] dX5_takeLaw_12 hf gX5_takeLaw_X7_isLaw_n89 (by decide +kernel) kX5_takeLaw_iniX7 kX5_takeLaw_stX7_isLaw rfl (by decide +kernel) rfl ⟨by decide, by decide⟩ rfl (Nat.le_of_ble_eq_true rfl) (fun r9 M9 h9 => mX7_isLaw hN ph _ _ _ _ h9) (fun r4 M5 h3 hf => ?_)
  refine rr_if_ne hG (tgt := 20) dX5_takeLaw_15 (by decide) hf (fun c6 hf => ?_) (fun c6 hf => ?_)
  · refine rr_aload_n hG dX5_takeLaw_20 1 rfl rfl ?_
    refine rr_aload_n hG dX5_takeLaw_21 0 rfl rfl ?_
    refine rr_get hG 5 1 (v := .ref (ph 3)) dX5_takeLaw_22 (rm_c hN rfl (by decide)) (by decide) rfl tX5_takeLaw_X5 (by decide) kX5_takeLaw_15 rfl rfl ?_
    refine rr_iconst hG (v := 0) dX5_takeLaw_25 (by decide) ?_
    refine rr_iald hG dX5_takeLaw_26 (rm_c hN rfl (by decide)) hf (fun b7 hf => ?_)
    refine rr_putI hG 4 2 dX5_takeLaw_27 ka1 (by decide) rfl tX5_takeLaw_X4 tyX4_ok nmX4 (by decide) kX5_takeLaw_93 rfl rfl rfl rfl rfl (Nat.le_of_ble_eq_true rfl) rfl ?_
    refine rr_bindM hf (fun M8 eM8 hf => ?_)
    refine rr_aload_n hG dX5_takeLaw_30 1 rfl rfl ?_
    refine rr_aload_n hG dX5_takeLaw_31 0 rfl rfl ?_
    refine rr_get hG 5 1 (v := .ref (ph 3)) dX5_takeLaw_32 (rm_c hN rfl (by decide)) (by decide) rfl tX5_takeLaw_X5 (by decide) kX5_takeLaw_15 rfl rfl ?_
    refine rr_iconst hG (v := 1) dX5_takeLaw_35 (by decide) ?_
    refine rr_iald hG dX5_takeLaw_36 (rm_c hN rfl (by decide)) hf (fun b9 hf => ?_)
    refine rr_putI hG 4 3 dX5_takeLaw_37 ka1 (by decide) rfl tX5_takeLaw_X4 tyX4_ok nmX4 (by decide) kX5_takeLaw_96 rfl rfl rfl rfl rfl (Nat.le_of_ble_eq_true rfl) rfl ?_
    refine rr_bindM hf (fun M10 eM10 hf => ?_)
    refine rr_iconst hG (v := 1) dX5_takeLaw_40 (by decide) ?_
    exact rr_zret hG hR dX5_takeLaw_41 hf
  · refine rr_iconst hG (v := 0) dX5_takeLaw_18 (by decide) ?_
    exact rr_zret hG hR dX5_takeLaw_19 hf
