/-! X8.takes -/
theorem tX8_takes_X8 : ∀ w ∈ u_ws RX8 TX8 26, w ∈ wsX8_takes := by decide +kernel
theorem kX8_takes_82 : Cond.fieldLink RX8 82 "RingPagesModel" "changes" "I" ∈ wsX8_takes := by decide +kernel
theorem kX8_takes_16 : Cond.fieldLink RX8 16 "RingPagesModel" "price" "[I" ∈ wsX8_takes := by decide +kernel
theorem kX8_takes_28 : Cond.fieldLink RX8 28 "RingPagesModel" "readPrice" "[I" ∈ wsX8_takes := by decide +kernel
theorem kX8_takes_19 : Cond.fieldLink RX8 19 "RingPagesModel" "now" "[I" ∈ wsX8_takes := by decide +kernel
theorem kX8_takes_31 : Cond.fieldLink RX8 31 "RingPagesModel" "read" "[I" ∈ wsX8_takes := by decide +kernel
theorem kX8_takes_13 : Cond.fieldLink RX8 13 "RingPagesModel" "weight" "[I" ∈ wsX8_takes := by decide +kernel
theorem kX8_takes_25 : Cond.fieldLink RX8 25 "RingPagesModel" "readWeight" "[I" ∈ wsX8_takes := by decide +kernel
theorem kX8_takes_62 : Cond.fieldLink RX8 62 "RingPagesModel" "readCells" "I" ∈ wsX8_takes := by decide +kernel
theorem kX8_takes_76 : Cond.fieldLink RX8 76 "RingPagesModel" "cells" "I" ∈ wsX8_takes := by decide +kernel
theorem kX8_takes_73 : Cond.fieldLink RX8 73 "RingPagesModel" "readJoins" "I" ∈ wsX8_takes := by decide +kernel
theorem kX8_takes_79 : Cond.fieldLink RX8 79 "RingPagesModel" "joins" "I" ∈ wsX8_takes := by decide +kernel
set_option maxHeartbeats 4000000 in
set_option maxRecDepth 100000 in
theorem wX8_takes_L70 {G : rm_G} {ph : Nat → Nat} {rho : rm_M}  (hG : rm_k G 96 ph cX8_takes RX8 wsX8_takes 2 0 0) (hR : rm_rV G 96 ph rho)    : ∀ (n : Nat) (x1 : Int32) (M : rm_M), fX8_takes_L70 n x1 M = some rho → rm_L G 96 ph 2 70 [(0, .ref (ph 79)), (1, .int x1)] [] M := by
  intro n
  induction n with
  | zero => intro x1 M hf; rw [fX8_takes_L70] at hf; cases hf
  | succ n ih =>
    intro x1 M hf
    rw [fX8_takes_L70] at hf
    refine rr_iload_n hG dX8_takes_70 1 rfl rfl ?_
    refine rr_iconst hG (v := 4) dX8_takes_71 (by decide) ?_
    refine rr_icmp_ge hG (tgt := 93) dX8_takes_72 (by decide) hf (fun c1 hf => ?_) (fun c1 hf => ?_)
    · refine rr_aload_n hG dX8_takes_93 0 rfl rfl ?_
      refine rr_iconst hG (v := 0) dX8_takes_94 (by decide) ?_
      refine rr_putI hG 8 8 dX8_takes_95 ⟨rfl, by decide⟩ (by decide) rfl tX8_takes_X8 tyX8_ok nmX8 (by decide) kX8_takes_82 rfl rfl rfl rfl rfl (Nat.le_of_ble_eq_true rfl) rfl ?_
      refine rr_bindM hf (fun M2 eM2 hf => ?_)
      exact rr_vret hG hR dX8_takes_98 hf
    · refine rr_aload_n hG dX8_takes_75 0 rfl rfl ?_
      refine rr_get hG 8 5 (v := .ref (ph 82)) dX8_takes_76 ⟨rfl, by decide⟩ (by decide) rfl tX8_takes_X8 (by decide) kX8_takes_16 rfl rfl ?_
      refine rr_iload_n hG dX8_takes_79 1 rfl rfl ?_
      refine rr_aload_n hG dX8_takes_80 0 rfl rfl ?_
      refine rr_get hG 8 12 (v := .ref (ph 86)) dX8_takes_81 ⟨rfl, by decide⟩ (by decide) rfl tX8_takes_X8 (by decide) kX8_takes_28 rfl rfl ?_
      refine rr_iload_n hG dX8_takes_84 1 rfl rfl ?_
      refine rr_iald hG dX8_takes_85 ⟨rfl, by decide⟩ hf (fun b3 hf => ?_)
      refine rr_iast hG dX8_takes_86 ⟨rfl, by decide⟩ hf (fun b4 hf => ?_)
      refine rr_bindM hf (fun M5 eM5 hf => ?_)
      refine rr_iinc hG (v := x1 + (1 : Int32)) (lv2 := [(1, .int (x1 + (1 : Int32))), (0, .ref (ph 79))]) (k := 1) dX8_takes_87 rfl rfl (by decide) rfl ?_
      refine rr_goto hG (tgt := 70) dX8_takes_90 (by decide) ?_
      exact rr_sub (lv2 := [(0, .ref (ph 79)), (1, .int (x1 + (1 : Int32)))]) [1, 0] rfl (ih _ _ hf)
set_option maxHeartbeats 4000000 in
set_option maxRecDepth 100000 in
theorem wX8_takes_L44 {G : rm_G} {ph : Nat → Nat} {rho : rm_M}  (hG : rm_k G 96 ph cX8_takes RX8 wsX8_takes 2 0 0) (hR : rm_rV G 96 ph rho)    : ∀ (n : Nat) (x1 : Int32) (M : rm_M), fX8_takes_L44 n x1 M = some rho → rm_L G 96 ph 2 44 [(0, .ref (ph 79)), (1, .int x1)] [] M := by
  intro n
  induction n with
  | zero => intro x1 M hf; rw [fX8_takes_L44] at hf; cases hf
  | succ n ih =>
    intro x1 M hf
    rw [fX8_takes_L44] at hf
    refine rr_iload_n hG dX8_takes_44 1 rfl rfl ?_
    refine rr_bipush hG (v := 20) dX8_takes_45 (by decide) ?_
    refine rr_icmp_ge hG (tgt := 68) dX8_takes_47 (by decide) hf (fun c6 hf => ?_) (fun c6 hf => ?_)
    · refine rr_iconst hG (v := 0) dX8_takes_68 (by decide) ?_
      refine rr_istore_n hG (lv2 := [(1, .int (0 : Int32)), (0, .ref (ph 79))]) dX8_takes_69 rfl (by decide) rfl ?_
      exact rr_sub (lv2 := [(0, .ref (ph 79)), (1, .int (0 : Int32))]) [1, 0] rfl (wX8_takes_L70 hG hR _ _ _ hf)
    · refine rr_aload_n hG dX8_takes_50 0 rfl rfl ?_
      refine rr_get hG 8 6 (v := .ref (ph 83)) dX8_takes_51 ⟨rfl, by decide⟩ (by decide) rfl tX8_takes_X8 (by decide) kX8_takes_19 rfl rfl ?_
      refine rr_iload_n hG dX8_takes_54 1 rfl rfl ?_
      refine rr_aload_n hG dX8_takes_55 0 rfl rfl ?_
      refine rr_get hG 8 13 (v := .ref (ph 87)) dX8_takes_56 ⟨rfl, by decide⟩ (by decide) rfl tX8_takes_X8 (by decide) kX8_takes_31 rfl rfl ?_
      refine rr_iload_n hG dX8_takes_59 1 rfl rfl ?_
      refine rr_iald hG dX8_takes_60 ⟨rfl, by decide⟩ hf (fun b7 hf => ?_)
      refine rr_iast hG dX8_takes_61 ⟨rfl, by decide⟩ hf (fun b8 hf => ?_)
      refine rr_bindM hf (fun M9 eM9 hf => ?_)
      refine rr_iinc hG (v := x1 + (1 : Int32)) (lv2 := [(1, .int (x1 + (1 : Int32))), (0, .ref (ph 79))]) (k := 1) dX8_takes_62 rfl rfl (by decide) rfl ?_
      refine rr_goto hG (tgt := 44) dX8_takes_65 (by decide) ?_
      exact rr_sub (lv2 := [(0, .ref (ph 79)), (1, .int (x1 + (1 : Int32)))]) [1, 0] rfl (ih _ _ hf)
set_option maxHeartbeats 4000000 in
set_option maxRecDepth 100000 in
theorem wX8_takes_L18 {G : rm_G} {ph : Nat → Nat} {rho : rm_M}  (hG : rm_k G 96 ph cX8_takes RX8 wsX8_takes 2 0 0) (hR : rm_rV G 96 ph rho)    : ∀ (n : Nat) (x1 : Int32) (M : rm_M), fX8_takes_L18 n x1 M = some rho → rm_L G 96 ph 2 18 [(0, .ref (ph 79)), (1, .int x1)] [] M := by
  intro n
  induction n with
  | zero => intro x1 M hf; rw [fX8_takes_L18] at hf; cases hf
  | succ n ih =>
    intro x1 M hf
    rw [fX8_takes_L18] at hf
    refine rr_iload_n hG dX8_takes_18 1 rfl rfl ?_
    refine rr_bipush hG (v := 36) dX8_takes_19 (by decide) ?_
    refine rr_icmp_ge hG (tgt := 42) dX8_takes_21 (by decide) hf (fun c10 hf => ?_) (fun c10 hf => ?_)
    · refine rr_iconst hG (v := 0) dX8_takes_42 (by decide) ?_
      refine rr_istore_n hG (lv2 := [(1, .int (0 : Int32)), (0, .ref (ph 79))]) dX8_takes_43 rfl (by decide) rfl ?_
      exact rr_sub (lv2 := [(0, .ref (ph 79)), (1, .int (0 : Int32))]) [1, 0] rfl (wX8_takes_L44 hG hR _ _ _ hf)
    · refine rr_aload_n hG dX8_takes_24 0 rfl rfl ?_
      refine rr_get hG 8 4 (v := .ref (ph 81)) dX8_takes_25 ⟨rfl, by decide⟩ (by decide) rfl tX8_takes_X8 (by decide) kX8_takes_13 rfl rfl ?_
      refine rr_iload_n hG dX8_takes_28 1 rfl rfl ?_
      refine rr_aload_n hG dX8_takes_29 0 rfl rfl ?_
      refine rr_get hG 8 11 (v := .ref (ph 85)) dX8_takes_30 ⟨rfl, by decide⟩ (by decide) rfl tX8_takes_X8 (by decide) kX8_takes_25 rfl rfl ?_
      refine rr_iload_n hG dX8_takes_33 1 rfl rfl ?_
      refine rr_iald hG dX8_takes_34 ⟨rfl, by decide⟩ hf (fun b11 hf => ?_)
      refine rr_iast hG dX8_takes_35 ⟨rfl, by decide⟩ hf (fun b12 hf => ?_)
      refine rr_bindM hf (fun M13 eM13 hf => ?_)
      refine rr_iinc hG (v := x1 + (1 : Int32)) (lv2 := [(1, .int (x1 + (1 : Int32))), (0, .ref (ph 79))]) (k := 1) dX8_takes_36 rfl rfl (by decide) rfl ?_
      refine rr_goto hG (tgt := 18) dX8_takes_39 (by decide) ?_
      exact rr_sub (lv2 := [(0, .ref (ph 79)), (1, .int (x1 + (1 : Int32)))]) [1, 0] rfl (ih _ _ hf)
set_option maxHeartbeats 4000000 in
set_option maxRecDepth 100000 in
theorem mX8_takes (ph : Nat → Nat)  (M : rm_M) (rho : rm_M)  (hf : fX8_takes M = some rho) : rm_CV yX8_takes wsX8_takes 0 0 [.ref (ph 79)] 96 ph M rho := by
  refine rm_metV (cc := cX8_takes) (maxL := 2) (by decide +kernel) rfl rfl (Nat.le_of_ble_eq_true rfl) rfl (fun G hG hR => ?_)
  unfold fX8_takes at hf
  refine rr_aload_n hG dX8_takes_0 0 rfl rfl ?_
  refine rr_aload_n hG dX8_takes_1 0 rfl rfl ?_
  refine rr_get hG 8 9 dX8_takes_2 ⟨rfl, by decide⟩ (by decide) rfl tX8_takes_X8 (by decide) kX8_takes_62 rfl rfl ?_
  refine rr_putI hG 8 2 dX8_takes_5 ⟨rfl, by decide⟩ (by decide) rfl tX8_takes_X8 tyX8_ok nmX8 (by decide) kX8_takes_76 rfl rfl rfl rfl rfl (Nat.le_of_ble_eq_true rfl) rfl ?_
  refine rr_bindM hf (fun M14 eM14 hf => ?_)
  refine rr_aload_n hG dX8_takes_8 0 rfl rfl ?_
  refine rr_aload_n hG dX8_takes_9 0 rfl rfl ?_
  refine rr_get hG 8 10 dX8_takes_10 ⟨rfl, by decide⟩ (by decide) rfl tX8_takes_X8 (by decide) kX8_takes_73 rfl rfl ?_
  refine rr_putI hG 8 3 dX8_takes_13 ⟨rfl, by decide⟩ (by decide) rfl tX8_takes_X8 tyX8_ok nmX8 (by decide) kX8_takes_79 rfl rfl rfl rfl rfl (Nat.le_of_ble_eq_true rfl) rfl ?_
  refine rr_bindM hf (fun M15 eM15 hf => ?_)
  refine rr_iconst hG (v := 0) dX8_takes_16 (by decide) ?_
  refine rr_istore_n hG (lv2 := [(1, .int (0 : Int32)), (0, .ref (ph 79))]) dX8_takes_17 rfl (by decide) rfl ?_
  exact rr_sub (lv2 := [(0, .ref (ph 79)), (1, .int (0 : Int32))]) [1, 0] rfl (wX8_takes_L18 hG hR _ _ _ hf)
/-! X8.letterAt -/
theorem tX8_letterAt_X8 : ∀ w ∈ u_ws RX8 TX8 26, w ∈ wsX8_letterAt := by decide +kernel
theorem kX8_letterAt_85 : Cond.fieldLink RX8 85 "RingPagesModel" "length" "I" ∈ wsX8_letterAt := by decide +kernel
theorem kX8_letterAt_7 : Cond.fieldLink RX8 7 "RingPagesModel" "text" "[I" ∈ wsX8_letterAt := by decide +kernel
set_option maxHeartbeats 4000000 in
set_option maxRecDepth 100000 in
theorem mX8_letterAt (ph : Nat → Nat) (a1 : Int32) (M : rm_M) (rho : Int32 × rm_M)  (hf : fX8_letterAt a1 M = some rho) : rm_CI yX8_letterAt wsX8_letterAt 0 0 [.ref (ph 79), .int a1] 96 ph M rho := by
  refine rm_metI (cc := cX8_letterAt) (maxL := 2) (by decide +kernel) rfl rfl (Nat.le_of_ble_eq_true rfl) rfl (fun G hG hR => ?_)
  unfold fX8_letterAt at hf
  refine rr_iload_n hG dX8_letterAt_0 1 rfl rfl ?_
  refine rr_aload_n hG dX8_letterAt_1 0 rfl rfl ?_
  refine rr_get hG 8 0 dX8_letterAt_2 ⟨rfl, by decide⟩ (by decide) rfl tX8_letterAt_X8 (by decide) kX8_letterAt_85 rfl rfl ?_
  refine rr_icmp_ge hG (tgt := 17) dX8_letterAt_5 (by decide) hf (fun c1 hf => ?_) (fun c1 hf => ?_)
  · refine rr_iconst hG (v := 0) dX8_letterAt_17 (by decide) ?_
    exact rr_iret hG hR dX8_letterAt_18 hf
  · refine rr_aload_n hG dX8_letterAt_8 0 rfl rfl ?_
    refine rr_get hG 8 1 (v := .ref (ph 80)) dX8_letterAt_9 ⟨rfl, by decide⟩ (by decide) rfl tX8_letterAt_X8 (by decide) kX8_letterAt_7 rfl rfl ?_
    refine rr_iload_n hG dX8_letterAt_12 1 rfl rfl ?_
    refine rr_iald hG dX8_letterAt_13 ⟨rfl, by decide⟩ hf (fun b2 hf => ?_)
    refine rr_goto hG (tgt := 18) dX8_letterAt_14 (by decide) ?_
    exact rr_iret hG hR dX8_letterAt_18 hf
/-! X8.number -/
theorem tX8_number_X8 : ∀ w ∈ u_ws RX8 TX8 26, w ∈ wsX8_number := by decide +kernel
theorem kX8_number_91 : Cond.fieldLink RX8 91 "RingPagesModel" "ends" "I" ∈ wsX8_number := by decide +kernel
theorem kX8_number_88 : Cond.fieldLink RX8 88 "RingPagesModel" "value" "I" ∈ wsX8_number := by decide +kernel
theorem kX8_number_7 : Cond.fieldLink RX8 7 "RingPagesModel" "text" "[I" ∈ wsX8_number := by decide +kernel
set_option maxHeartbeats 4000000 in
set_option maxRecDepth 100000 in
theorem wX8_number_L83 {G : rm_G} {ph : Nat → Nat} {rho : Int32 × rm_M} (a1 : Int32) (a2 : Int32) (a3 : Int32) (hG : rm_k G 96 ph cX8_number RX8 wsX8_number 4 1 22) (hR : rm_rI G 96 ph .boolean rho)    : ∀  (M : rm_M), fX8_number_L83 a1 a2 a3 M = some rho → rm_L G 96 ph 4 83 [(0, .ref (ph 79)), (1, .int a1), (2, .int a2), (3, .int a3)] [] M := by
  intro M hf
  unfold fX8_number_L83 at hf
  refine rr_aload_n hG dX8_number_83 0 rfl rfl ?_
  refine rr_get hG 8 15 dX8_number_84 ⟨rfl, by decide⟩ (by decide) rfl tX8_number_X8 (by decide) kX8_number_91 rfl rfl ?_
  refine rr_iload_n hG dX8_number_87 1 rfl rfl ?_
  refine rr_icmp_le hG (tgt := 107) dX8_number_88 (by decide) hf (fun c1 hf => ?_) (fun c1 hf => ?_)
  · refine rr_iconst hG (v := 0) dX8_number_107 (by decide) ?_
    exact rr_zret hG hR dX8_number_108 hf
  · refine rr_aload_n hG dX8_number_91 0 rfl rfl ?_
    refine rr_get hG 8 14 dX8_number_92 ⟨rfl, by decide⟩ (by decide) rfl tX8_number_X8 (by decide) kX8_number_88 rfl rfl ?_
    refine rr_iload_n hG dX8_number_95 2 rfl rfl ?_
    refine rr_iload_n hG dX8_number_96 3 rfl rfl ?_
    refine rr_cSI hG (st := []) (n := 3) (rf := 0) (rl := 0) [.int (M.1 79 14), .int a2, .int a3] dX8_number_97 hf gX8_number_X8_isIn rfl (by decide +kernel) rfl ⟨by decide, by decide⟩ rfl (Nat.le_of_ble_eq_true rfl) (fun r9 M9 h9 => mX8_isIn ph _ _ _ _ _ h9) (fun r3 M4 h2 hf => ?_)
    refine rr_if_eq hG (tgt := 107) dX8_number_100 (by decide) hf (fun c5 hf => ?_) (fun c5 hf => ?_)
    · refine rr_iconst hG (v := 0) dX8_number_107 (by decide) ?_
      exact rr_zret hG hR dX8_number_108 hf
    · refine rr_iconst hG (v := 1) dX8_number_103 (by decide) ?_
      refine rr_goto hG (tgt := 108) dX8_number_104 (by decide) ?_
      exact rr_zret hG hR dX8_number_108 hf
set_option maxHeartbeats 4000000 in
set_option maxRecDepth 100000 in
theorem wX8_number_L10 {G : rm_G} {ph : Nat → Nat} {rho : Int32 × rm_M} (a1 : Int32) (a2 : Int32) (a3 : Int32) (hG : rm_k G 96 ph cX8_number RX8 wsX8_number 4 1 22) (hR : rm_rI G 96 ph .boolean rho)    : ∀ (n : Nat)  (M : rm_M), fX8_number_L10 a1 a2 a3 n M = some rho → rm_L G 96 ph 4 10 [(0, .ref (ph 79)), (1, .int a1), (2, .int a2), (3, .int a3)] [] M := by
  intro n
  induction n with
  | zero => intro M hf; rw [fX8_number_L10] at hf; cases hf
  | succ n ih =>
    intro M hf
    rw [fX8_number_L10] at hf
    refine rr_aload_n hG dX8_number_10 0 rfl rfl ?_
    refine rr_get hG 8 15 dX8_number_11 ⟨rfl, by decide⟩ (by decide) rfl tX8_number_X8 (by decide) kX8_number_91 rfl rfl ?_
    refine rr_iload_n hG dX8_number_14 1 rfl rfl ?_
    refine rr_iconst hG (v := 2) dX8_number_15 (by decide) ?_
    refine rr_iadd hG dX8_number_16 ?_
    refine rr_icmp_ge hG (tgt := 83) dX8_number_17 (by decide) hf (fun c6 hf => ?_) (fun c6 hf => ?_)
    · exact rr_sub (lv2 := [(0, .ref (ph 79)), (1, .int a1), (2, .int a2), (3, .int a3)]) [0, 1, 2, 3] rfl (wX8_number_L83 _ _ _ hG hR _ hf)
    · refine rr_aload_n hG dX8_number_20 0 rfl rfl ?_
      refine rr_aload_n hG dX8_number_21 0 rfl rfl ?_
      refine rr_get hG 8 15 dX8_number_22 ⟨rfl, by decide⟩ (by decide) rfl tX8_number_X8 (by decide) kX8_number_91 rfl rfl ?_
      refine rr_cVI hG (st := []) (n := 1) (ci := 8) (rf := 0) (rl := 0) [.int (M.1 79 15)] dX8_number_25 hf ⟨rfl, by decide⟩ (by decide) rfl gX8_number_X8_letterAt rfl (by decide +kernel) rfl ⟨by decide, by decide⟩ rfl (Nat.le_of_ble_eq_true rfl) (fun r9 M9 h9 => mX8_letterAt ph _ _ _ h9) (fun r8 M9 h7 hf => ?_)
      refine rr_bipush hG (v := 48) dX8_number_28 (by decide) ?_
      refine rr_icmp_lt hG (tgt := 83) dX8_number_30 (by decide) hf (fun c10 hf => ?_) (fun c10 hf => ?_)
      · exact rr_sub (lv2 := [(0, .ref (ph 79)), (1, .int a1), (2, .int a2), (3, .int a3)]) [0, 1, 2, 3] rfl (wX8_number_L83 _ _ _ hG hR _ hf)
      · refine rr_aload_n hG dX8_number_33 0 rfl rfl ?_
        refine rr_aload_n hG dX8_number_34 0 rfl rfl ?_
        refine rr_get hG 8 15 dX8_number_35 ⟨rfl, by decide⟩ (by decide) rfl tX8_number_X8 (by decide) kX8_number_91 rfl rfl ?_
        refine rr_cVI hG (st := []) (n := 1) (ci := 8) (rf := 0) (rl := 0) [.int (M9.1 79 15)] dX8_number_38 hf ⟨rfl, by decide⟩ (by decide) rfl gX8_number_X8_letterAt rfl (by decide +kernel) rfl ⟨by decide, by decide⟩ rfl (Nat.le_of_ble_eq_true rfl) (fun r9 M9 h9 => mX8_letterAt ph _ _ _ h9) (fun r12 M13 h11 hf => ?_)
        refine rr_bipush hG (v := 57) dX8_number_41 (by decide) ?_
        refine rr_icmp_gt hG (tgt := 83) dX8_number_43 (by decide) hf (fun c14 hf => ?_) (fun c14 hf => ?_)
        · exact rr_sub (lv2 := [(0, .ref (ph 79)), (1, .int a1), (2, .int a2), (3, .int a3)]) [0, 1, 2, 3] rfl (wX8_number_L83 _ _ _ hG hR _ hf)
        · refine rr_aload_n hG dX8_number_46 0 rfl rfl ?_
          refine rr_bipush hG (v := 10) dX8_number_47 (by decide) ?_
          refine rr_aload_n hG dX8_number_49 0 rfl rfl ?_
          refine rr_get hG 8 14 dX8_number_50 ⟨rfl, by decide⟩ (by decide) rfl tX8_number_X8 (by decide) kX8_number_88 rfl rfl ?_
          refine rr_imul hG dX8_number_53 ?_
          refine rr_aload_n hG dX8_number_54 0 rfl rfl ?_
          refine rr_get hG 8 1 (v := .ref (ph 80)) dX8_number_55 ⟨rfl, by decide⟩ (by decide) rfl tX8_number_X8 (by decide) kX8_number_7 rfl rfl ?_
          refine rr_aload_n hG dX8_number_58 0 rfl rfl ?_
          refine rr_get hG 8 15 dX8_number_59 ⟨rfl, by decide⟩ (by decide) rfl tX8_number_X8 (by decide) kX8_number_91 rfl rfl ?_
          refine rr_iald hG dX8_number_62 ⟨rfl, by decide⟩ hf (fun b15 hf => ?_)
          refine rr_iadd hG dX8_number_63 ?_
          refine rr_bipush hG (v := 48) dX8_number_64 (by decide) ?_
          refine rr_isub hG dX8_number_66 ?_
          refine rr_putI hG 8 14 dX8_number_67 ⟨rfl, by decide⟩ (by decide) rfl tX8_number_X8 tyX8_ok nmX8 (by decide) kX8_number_88 rfl rfl rfl rfl rfl (Nat.le_of_ble_eq_true rfl) rfl ?_
          refine rr_bindM hf (fun M16 eM16 hf => ?_)
          refine rr_aload_n hG dX8_number_70 0 rfl rfl ?_
          refine rr_dup hG dX8_number_71 rfl ?_
          refine rr_get hG 8 15 dX8_number_72 ⟨rfl, by decide⟩ (by decide) rfl tX8_number_X8 (by decide) kX8_number_91 rfl rfl ?_
          refine rr_iconst hG (v := 1) dX8_number_75 (by decide) ?_
          refine rr_iadd hG dX8_number_76 ?_
          refine rr_putI hG 8 15 dX8_number_77 ⟨rfl, by decide⟩ (by decide) rfl tX8_number_X8 tyX8_ok nmX8 (by decide) kX8_number_91 rfl rfl rfl rfl rfl (Nat.le_of_ble_eq_true rfl) rfl ?_
          refine rr_bindM hf (fun M17 eM17 hf => ?_)
          refine rr_goto hG (tgt := 10) dX8_number_80 (by decide) ?_
          exact rr_sub (lv2 := [(0, .ref (ph 79)), (1, .int a1), (2, .int a2), (3, .int a3)]) [0, 1, 2, 3] rfl (ih _ hf)
set_option maxHeartbeats 4000000 in
set_option maxRecDepth 100000 in
theorem mX8_number (ph : Nat → Nat) (a1 : Int32) (a2 : Int32) (a3 : Int32) (M : rm_M) (rho : Int32 × rm_M)  (hf : fX8_number a1 a2 a3 M = some rho) : rm_CI yX8_number wsX8_number 1 22 [.ref (ph 79), .int a1, .int a2, .int a3] 96 ph M rho := by
  refine rm_metI (cc := cX8_number) (maxL := 4) (by decide +kernel) rfl rfl (Nat.le_of_ble_eq_true rfl) rfl (fun G hG hR => ?_)
  unfold fX8_number at hf
  refine rr_aload_n hG dX8_number_0 0 rfl rfl ?_
  refine rr_iconst hG (v := 0) dX8_number_1 (by decide) ?_
  refine rr_putI hG 8 14 dX8_number_2 ⟨rfl, by decide⟩ (by decide) rfl tX8_number_X8 tyX8_ok nmX8 (by decide) kX8_number_88 rfl rfl rfl rfl rfl (Nat.le_of_ble_eq_true rfl) rfl ?_
  refine rr_bindM hf (fun M18 eM18 hf => ?_)
  refine rr_aload_n hG dX8_number_5 0 rfl rfl ?_
  refine rr_iload_n hG dX8_number_6 1 rfl rfl ?_
  refine rr_putI hG 8 15 dX8_number_7 ⟨rfl, by decide⟩ (by decide) rfl tX8_number_X8 tyX8_ok nmX8 (by decide) kX8_number_91 rfl rfl rfl rfl rfl (Nat.le_of_ble_eq_true rfl) rfl ?_
  refine rr_bindM hf (fun M19 eM19 hf => ?_)
  exact rr_sub (lv2 := [(0, .ref (ph 79)), (1, .int a1), (2, .int a2), (3, .int a3)]) [0, 1, 2, 3] rfl (wX8_number_L10 _ _ _ hG hR _ _ hf)
/-! X8.more -/
theorem tX8_more_X8 : ∀ w ∈ u_ws RX8 TX8 26, w ∈ wsX8_more := by decide +kernel
theorem kX8_more_91 : Cond.fieldLink RX8 91 "RingPagesModel" "ends" "I" ∈ wsX8_more := by decide +kernel
set_option maxHeartbeats 4000000 in
set_option maxRecDepth 100000 in
theorem mX8_more (ph : Nat → Nat) (a1 : Int32) (a2 : Int32) (M : rm_M) (rho : Int32 × rm_M)  (hf : fX8_more a1 a2 M = some rho) : rm_CI yX8_more wsX8_more 2 45 [.ref (ph 79), .int a1, .int a2] 96 ph M rho := by
  refine rm_metI (cc := cX8_more) (maxL := 3) (by decide +kernel) rfl rfl (Nat.le_of_ble_eq_true rfl) rfl (fun G hG hR => ?_)
  unfold fX8_more at hf
  refine rr_aload_n hG dX8_more_0 0 rfl rfl ?_
  refine rr_aload_n hG dX8_more_1 0 rfl rfl ?_
  refine rr_get hG 8 15 dX8_more_2 ⟨rfl, by decide⟩ (by decide) rfl tX8_more_X8 (by decide) kX8_more_91 rfl rfl ?_
  refine rr_cVI hG (st := []) (n := 1) (ci := 8) (rf := 0) (rl := 0) [.int (M.1 79 15)] dX8_more_5 hf ⟨rfl, by decide⟩ (by decide) rfl gX8_more_X8_letterAt rfl (by decide +kernel) rfl ⟨by decide, by decide⟩ rfl (Nat.le_of_ble_eq_true rfl) (fun r9 M9 h9 => mX8_letterAt ph _ _ _ h9) (fun r2 M3 h1 hf => ?_)
  refine rr_bipush hG (v := 44) dX8_more_8 (by decide) ?_
  refine rr_icmp_ne hG (tgt := 32) dX8_more_10 (by decide) hf (fun c4 hf => ?_) (fun c4 hf => ?_)
  · refine rr_iconst hG (v := 0) dX8_more_32 (by decide) ?_
    exact rr_zret hG hR dX8_more_33 hf
  · refine rr_aload_n hG dX8_more_13 0 rfl rfl ?_
    refine rr_aload_n hG dX8_more_14 0 rfl rfl ?_
    refine rr_get hG 8 15 dX8_more_15 ⟨rfl, by decide⟩ (by decide) rfl tX8_more_X8 (by decide) kX8_more_91 rfl rfl ?_
    refine rr_iconst hG (v := 1) dX8_more_18 (by decide) ?_
    refine rr_iadd hG dX8_more_19 ?_
    refine rr_iload_n hG dX8_more_20 1 rfl rfl ?_
    refine rr_iload_n hG dX8_more_21 2 rfl rfl ?_
    refine rr_cVI hG (st := []) (n := 3) (ci := 8) (rf := 1) (rl := 22) [.int ((M3.1 79 15) + (1 : Int32)), .int a1, .int a2] dX8_more_22 hf ⟨rfl, by decide⟩ (by decide) rfl gX8_more_X8_number rfl (by decide +kernel) rfl ⟨by decide, by decide⟩ rfl (Nat.le_of_ble_eq_true rfl) (fun r9 M9 h9 => mX8_number ph _ _ _ _ _ h9) (fun r6 M7 h5 hf => ?_)
    refine rr_if_eq hG (tgt := 32) dX8_more_25 (by decide) hf (fun c8 hf => ?_) (fun c8 hf => ?_)
    · refine rr_iconst hG (v := 0) dX8_more_32 (by decide) ?_
      exact rr_zret hG hR dX8_more_33 hf
    · refine rr_iconst hG (v := 1) dX8_more_28 (by decide) ?_
      refine rr_goto hG (tgt := 33) dX8_more_29 (by decide) ?_
      exact rr_zret hG hR dX8_more_33 hf
/-! X8.readsJoin -/
theorem tX8_readsJoin_X8 : ∀ w ∈ u_ws RX8 TX8 26, w ∈ wsX8_readsJoin := by decide +kernel
theorem kX8_readsJoin_62 : Cond.fieldLink RX8 62 "RingPagesModel" "readCells" "I" ∈ wsX8_readsJoin := by decide +kernel
theorem kX8_readsJoin_88 : Cond.fieldLink RX8 88 "RingPagesModel" "value" "I" ∈ wsX8_readsJoin := by decide +kernel
theorem kX8_readsJoin_25 : Cond.fieldLink RX8 25 "RingPagesModel" "readWeight" "[I" ∈ wsX8_readsJoin := by decide +kernel
set_option maxHeartbeats 4000000 in
set_option maxRecDepth 100000 in
theorem mX8_readsJoin (ph : Nat → Nat) (a1 : Int32) (M : rm_M) (rho : Int32 × rm_M)  (hf : fX8_readsJoin a1 M = some rho) : rm_CI yX8_readsJoin wsX8_readsJoin 3 67 [.ref (ph 79), .int a1] 96 ph M rho := by
  refine rm_metI (cc := cX8_readsJoin) (maxL := 5) (by decide +kernel) rfl rfl (Nat.le_of_ble_eq_true rfl) rfl (fun G hG hR => ?_)
  unfold fX8_readsJoin at hf
  refine rr_aload_n hG dX8_readsJoin_0 0 rfl rfl ?_
  refine rr_iload_n hG dX8_readsJoin_1 1 rfl rfl ?_
  refine rr_iconst hG (v := 0) dX8_readsJoin_2 (by decide) ?_
  refine rr_aload_n hG dX8_readsJoin_3 0 rfl rfl ?_
  refine rr_get hG 8 9 dX8_readsJoin_4 ⟨rfl, by decide⟩ (by decide) rfl tX8_readsJoin_X8 (by decide) kX8_readsJoin_62 rfl rfl ?_
  refine rr_iconst hG (v := 1) dX8_readsJoin_7 (by decide) ?_
  refine rr_isub hG dX8_readsJoin_8 ?_
  refine rr_cVI hG (st := []) (n := 3) (ci := 8) (rf := 1) (rl := 22) [.int a1, .int (0 : Int32), .int ((M.1 79 9) - (1 : Int32))] dX8_readsJoin_9 hf ⟨rfl, by decide⟩ (by decide) rfl gX8_readsJoin_X8_number rfl (by decide +kernel) rfl ⟨by decide, by decide⟩ rfl (Nat.le_of_ble_eq_true rfl) (fun r9 M9 h9 => mX8_number ph _ _ _ _ _ h9) (fun r2 M3 h1 hf => ?_)
  refine rr_if_ne hG (tgt := 17) dX8_readsJoin_12 (by decide) hf (fun c4 hf => ?_) (fun c4 hf => ?_)
  · refine rr_aload_n hG dX8_readsJoin_17 0 rfl rfl ?_
    refine rr_get hG 8 14 dX8_readsJoin_18 ⟨rfl, by decide⟩ (by decide) rfl tX8_readsJoin_X8 (by decide) kX8_readsJoin_88 rfl rfl ?_
    refine rr_bindI hf (fun v5 ev5 hf => ?_)
    refine rr_istore_n hG (lv2 := [(2, .int v5), (0, .ref (ph 79)), (1, .int a1)]) dX8_readsJoin_21 rfl (by decide) rfl ?_
    refine rr_aload_n hG dX8_readsJoin_22 1 rfl rfl ?_
    refine rr_iconst hG (v := 0) dX8_readsJoin_23 (by decide) ?_
    refine rr_aload_n hG dX8_readsJoin_24 1 rfl rfl ?_
    refine rr_get hG 8 9 dX8_readsJoin_25 ⟨rfl, by decide⟩ (by decide) rfl tX8_readsJoin_X8 (by decide) kX8_readsJoin_62 rfl rfl ?_
    refine rr_iconst hG (v := 1) dX8_readsJoin_28 (by decide) ?_
    refine rr_isub hG dX8_readsJoin_29 ?_
    refine rr_cVI hG (st := []) (n := 2) (ci := 8) (rf := 2) (rl := 45) [.int (0 : Int32), .int ((M3.1 79 9) - (1 : Int32))] dX8_readsJoin_30 hf ⟨rfl, by decide⟩ (by decide) rfl gX8_readsJoin_X8_more rfl (by decide +kernel) rfl ⟨by decide, by decide⟩ rfl (Nat.le_of_ble_eq_true rfl) (fun r9 M9 h9 => mX8_more ph _ _ _ _ h9) (fun r7 M8 h6 hf => ?_)
    refine rr_if_ne hG (tgt := 38) dX8_readsJoin_33 (by decide) hf (fun c9 hf => ?_) (fun c9 hf => ?_)
    · refine rr_aload_n hG dX8_readsJoin_38 1 rfl rfl ?_
      refine rr_get hG 8 14 dX8_readsJoin_39 ⟨rfl, by decide⟩ (by decide) rfl tX8_readsJoin_X8 (by decide) kX8_readsJoin_88 rfl rfl ?_
      refine rr_bindI hf (fun v10 ev10 hf => ?_)
      refine rr_istore_n hG (lv2 := [(3, .int v10), (2, .int v5), (0, .ref (ph 79)), (1, .int a1)]) dX8_readsJoin_42 rfl (by decide) rfl ?_
      refine rr_iload_n hG dX8_readsJoin_43 1 rfl rfl ?_
      refine rr_iload_n hG dX8_readsJoin_44 0 rfl rfl ?_
      refine rr_icmp_eq hG (tgt := 71) dX8_readsJoin_45 (by decide) hf (fun c11 hf => ?_) (fun c11 hf => ?_)
      · refine rr_iconst hG (v := 0) dX8_readsJoin_71 (by decide) ?_
        exact rr_zret hG hR dX8_readsJoin_72 hf
      · refine rr_aload_n hG dX8_readsJoin_48 2 rfl rfl ?_
        refine rr_get hG 8 11 (v := .ref (ph 85)) dX8_readsJoin_49 ⟨rfl, by decide⟩ (by decide) rfl tX8_readsJoin_X8 (by decide) kX8_readsJoin_25 rfl rfl ?_
        refine rr_bipush hG (v := 6) dX8_readsJoin_52 (by decide) ?_
        refine rr_iload_n hG dX8_readsJoin_54 1 rfl rfl ?_
        refine rr_imul hG dX8_readsJoin_55 ?_
        refine rr_iload_n hG dX8_readsJoin_56 0 rfl rfl ?_
        refine rr_iadd hG dX8_readsJoin_57 ?_
        refine rr_iald hG dX8_readsJoin_58 ⟨rfl, by decide⟩ hf (fun b12 hf => ?_)
        refine rr_if_gt hG (tgt := 71) dX8_readsJoin_59 (by decide) hf (fun c13 hf => ?_) (fun c13 hf => ?_)
        · refine rr_iconst hG (v := 0) dX8_readsJoin_71 (by decide) ?_
          exact rr_zret hG hR dX8_readsJoin_72 hf
        · refine rr_aload_n hG dX8_readsJoin_62 2 rfl rfl ?_
          refine rr_iconst hG (v := 1) dX8_readsJoin_63 (by decide) ?_
          refine rr_iconst hG (v := 4) dX8_readsJoin_64 (by decide) ?_
          refine rr_cVI hG (st := []) (n := 2) (ci := 8) (rf := 2) (rl := 45) [.int (1 : Int32), .int (4 : Int32)] dX8_readsJoin_65 hf ⟨rfl, by decide⟩ (by decide) rfl gX8_readsJoin_X8_more rfl (by decide +kernel) rfl ⟨by decide, by decide⟩ rfl (Nat.le_of_ble_eq_true rfl) (fun r9 M9 h9 => mX8_more ph _ _ _ _ h9) (fun r15 M16 h14 hf => ?_)
          refine rr_if_ne hG (tgt := 73) dX8_readsJoin_68 (by decide) hf (fun c17 hf => ?_) (fun c17 hf => ?_)
          · refine rr_aload_n hG dX8_readsJoin_73 2 rfl rfl ?_
            refine rr_get hG 8 14 dX8_readsJoin_74 ⟨rfl, by decide⟩ (by decide) rfl tX8_readsJoin_X8 (by decide) kX8_readsJoin_88 rfl rfl ?_
            refine rr_bindI hf (fun v18 ev18 hf => ?_)
            refine rr_istore hG (lv2 := [(4, .int v18), (3, .int v10), (2, .int v5), (0, .ref (ph 79)), (1, .int a1)]) dX8_readsJoin_77 (by decide) rfl ?_
            refine rr_aload_n hG dX8_readsJoin_79 3 rfl rfl ?_
            refine rr_iconst hG (v := 1) dX8_readsJoin_80 (by decide) ?_
            refine rr_iconst hG (v := 4) dX8_readsJoin_81 (by decide) ?_
            refine rr_cVI hG (st := []) (n := 2) (ci := 8) (rf := 2) (rl := 45) [.int (1 : Int32), .int (4 : Int32)] dX8_readsJoin_82 hf ⟨rfl, by decide⟩ (by decide) rfl gX8_readsJoin_X8_more rfl (by decide +kernel) rfl ⟨by decide, by decide⟩ rfl (Nat.le_of_ble_eq_true rfl) (fun r9 M9 h9 => mX8_more ph _ _ _ _ h9) (fun r20 M21 h19 hf => ?_)
            refine rr_if_ne hG (tgt := 90) dX8_readsJoin_85 (by decide) hf (fun c22 hf => ?_) (fun c22 hf => ?_)
            · refine rr_aload_n hG dX8_readsJoin_90 3 rfl rfl ?_
              refine rr_iload_n hG dX8_readsJoin_91 2 rfl rfl ?_
              refine rr_iload_n hG dX8_readsJoin_92 1 rfl rfl ?_
              refine rr_iload hG dX8_readsJoin_93 0 rfl ?_
              refine rr_aload_n hG dX8_readsJoin_95 3 rfl rfl ?_
              refine rr_get hG 8 14 dX8_readsJoin_96 ⟨rfl, by decide⟩ (by decide) rfl tX8_readsJoin_X8 (by decide) kX8_readsJoin_88 rfl rfl ?_
              refine rr_cVV hG (st := []) (n := 4) (ci := 8) (rf := 0) (rl := 0) [.int v5, .int v10, .int v18, .int (M21.1 79 14)] dX8_readsJoin_99 hf ⟨rfl, by decide⟩ (by decide) rfl gX8_readsJoin_X8_joinOf rfl (by decide +kernel) rfl ⟨by decide, by decide⟩ rfl (Nat.le_of_ble_eq_true rfl) (fun M9 h9 => mX8_joinOf ph _ _ _ _ _ _ h9) (fun M24 h23 hf => ?_)
              refine rr_iconst hG (v := 1) dX8_readsJoin_102 (by decide) ?_
              exact rr_zret hG hR dX8_readsJoin_103 hf
            · refine rr_iconst hG (v := 0) dX8_readsJoin_88 (by decide) ?_
              exact rr_zret hG hR dX8_readsJoin_89 hf
          · refine rr_iconst hG (v := 0) dX8_readsJoin_71 (by decide) ?_
            exact rr_zret hG hR dX8_readsJoin_72 hf
    · refine rr_iconst hG (v := 0) dX8_readsJoin_36 (by decide) ?_
      exact rr_zret hG hR dX8_readsJoin_37 hf
  · refine rr_iconst hG (v := 0) dX8_readsJoin_15 (by decide) ?_
    exact rr_zret hG hR dX8_readsJoin_16 hf
/-! X8.readsCell -/
theorem tX8_readsCell_X8 : ∀ w ∈ u_ws RX8 TX8 26, w ∈ wsX8_readsCell := by decide +kernel
theorem kX8_readsCell_31 : Cond.fieldLink RX8 31 "RingPagesModel" "read" "[I" ∈ wsX8_readsCell := by decide +kernel
theorem kX8_readsCell_88 : Cond.fieldLink RX8 88 "RingPagesModel" "value" "I" ∈ wsX8_readsCell := by decide +kernel
theorem kX8_readsCell_62 : Cond.fieldLink RX8 62 "RingPagesModel" "readCells" "I" ∈ wsX8_readsCell := by decide +kernel
set_option maxHeartbeats 4000000 in
set_option maxRecDepth 100000 in
theorem wX8_readsCell_L34 {G : rm_G} {ph : Nat → Nat} {rho : Int32 × rm_M} (a1 : Int32) (a2 : Int32) (hG : rm_k G 96 ph cX8_readsCell RX8 wsX8_readsCell 5 3 67) (hR : rm_rI G 96 ph .boolean rho)    : ∀ (x3 : Int32) (s1 : Int32) (s2 : Int32) (M : rm_M), fX8_readsCell_L34 a1 a2 x3 s1 s2 M = some rho → rm_L G 96 ph 5 34 [(0, .ref (ph 79)), (2, .int a2), (3, .int x3)] [.int s2, .int s1, .ref (ph 79)] M := by
  intro x3 s1 s2 M hf
  unfold fX8_readsCell_L34 at hf
  refine rr_cVI hG (st := []) (n := 2) (ci := 8) (rf := 2) (rl := 45) [.int s1, .int s2] dX8_readsCell_34 hf ⟨rfl, by decide⟩ (by decide) rfl gX8_readsCell_X8_more rfl (by decide +kernel) rfl ⟨by decide, by decide⟩ rfl (Nat.le_of_ble_eq_true rfl) (fun r9 M9 h9 => mX8_more ph _ _ _ _ h9) (fun r2 M3 h1 hf => ?_)
  refine rr_istore hG (lv2 := [(4, .int r2), (0, .ref (ph 79)), (2, .int a2), (3, .int x3)]) dX8_readsCell_37 (by decide) rfl ?_
  refine rr_aload_n hG dX8_readsCell_39 1 rfl rfl ?_
  refine rr_get hG 8 13 (v := .ref (ph 87)) dX8_readsCell_40 ⟨rfl, by decide⟩ (by decide) rfl tX8_readsCell_X8 (by decide) kX8_readsCell_31 rfl rfl ?_
  refine rr_bipush hG (v := 6) dX8_readsCell_43 (by decide) ?_
  refine rr_iload_n hG dX8_readsCell_45 2 rfl rfl ?_
  refine rr_imul hG dX8_readsCell_46 ?_
  refine rr_iload_n hG dX8_readsCell_47 3 rfl rfl ?_
  refine rr_iadd hG dX8_readsCell_48 ?_
  refine rr_aload_n hG dX8_readsCell_49 1 rfl rfl ?_
  refine rr_get hG 8 14 dX8_readsCell_50 ⟨rfl, by decide⟩ (by decide) rfl tX8_readsCell_X8 (by decide) kX8_readsCell_88 rfl rfl ?_
  refine rr_iast hG dX8_readsCell_53 ⟨rfl, by decide⟩ hf (fun b4 hf => ?_)
  refine rr_bindM hf (fun M5 eM5 hf => ?_)
  refine rr_iload hG dX8_readsCell_54 0 rfl ?_
  exact rr_zret hG hR dX8_readsCell_56 hf
set_option maxHeartbeats 4000000 in
set_option maxRecDepth 100000 in
theorem mX8_readsCell (ph : Nat → Nat) (a1 : Int32) (a2 : Int32) (M : rm_M) (rho : Int32 × rm_M)  (hf : fX8_readsCell a1 a2 M = some rho) : rm_CI yX8_readsCell wsX8_readsCell 3 67 [.ref (ph 79), .int a1, .int a2] 96 ph M rho := by
  refine rm_metI (cc := cX8_readsCell) (maxL := 5) (by decide +kernel) rfl rfl (Nat.le_of_ble_eq_true rfl) rfl (fun G hG hR => ?_)
  unfold fX8_readsCell at hf
  refine rr_aload_n hG dX8_readsCell_0 0 rfl rfl ?_
  refine rr_iload_n hG dX8_readsCell_1 1 rfl rfl ?_
  refine rr_iconst hG (v := 0) dX8_readsCell_2 (by decide) ?_
  refine rr_aload_n hG dX8_readsCell_3 0 rfl rfl ?_
  refine rr_get hG 8 9 dX8_readsCell_4 ⟨rfl, by decide⟩ (by decide) rfl tX8_readsCell_X8 (by decide) kX8_readsCell_62 rfl rfl ?_
  refine rr_iconst hG (v := 1) dX8_readsCell_7 (by decide) ?_
  refine rr_isub hG dX8_readsCell_8 ?_
  refine rr_cVI hG (st := []) (n := 3) (ci := 8) (rf := 1) (rl := 22) [.int a1, .int (0 : Int32), .int ((M.1 79 9) - (1 : Int32))] dX8_readsCell_9 hf ⟨rfl, by decide⟩ (by decide) rfl gX8_readsCell_X8_number rfl (by decide +kernel) rfl ⟨by decide, by decide⟩ rfl (Nat.le_of_ble_eq_true rfl) (fun r9 M9 h9 => mX8_number ph _ _ _ _ _ h9) (fun r7 M8 h6 hf => ?_)
  refine rr_if_ne hG (tgt := 17) dX8_readsCell_12 (by decide) hf (fun c9 hf => ?_) (fun c9 hf => ?_)
  · refine rr_aload_n hG dX8_readsCell_17 0 rfl rfl ?_
    refine rr_get hG 8 14 dX8_readsCell_18 ⟨rfl, by decide⟩ (by decide) rfl tX8_readsCell_X8 (by decide) kX8_readsCell_88 rfl rfl ?_
    refine rr_bindI hf (fun v10 ev10 hf => ?_)
    refine rr_istore_n hG (lv2 := [(3, .int v10), (0, .ref (ph 79)), (1, .int a1), (2, .int a2)]) dX8_readsCell_21 rfl (by decide) rfl ?_
    refine rr_aload_n hG dX8_readsCell_22 1 rfl rfl ?_
    refine rr_iconst hG (v := 0) dX8_readsCell_23 (by decide) ?_
    refine rr_iload_n hG dX8_readsCell_24 3 rfl rfl ?_
    refine rr_if_ne hG (tgt := 33) dX8_readsCell_25 (by decide) hf (fun c11 hf => ?_) (fun c11 hf => ?_)
    · refine rr_iconst hG (v := 5) dX8_readsCell_33 (by decide) ?_
      exact rr_sub (lv2 := [(0, .ref (ph 79)), (2, .int a2), (3, .int v10)]) [1, 3, 0] rfl (wX8_readsCell_L34 _ _ hG hR _ _ _ _ hf)
    · refine rr_bipush hG (v := 9) dX8_readsCell_28 (by decide) ?_
      refine rr_goto hG (tgt := 34) dX8_readsCell_30 (by decide) ?_
      exact rr_sub (lv2 := [(0, .ref (ph 79)), (2, .int a2), (3, .int v10)]) [1, 3, 0] rfl (wX8_readsCell_L34 _ _ hG hR _ _ _ _ hf)
  · refine rr_iconst hG (v := 0) dX8_readsCell_15 (by decide) ?_
    exact rr_zret hG hR dX8_readsCell_16 hf
/-! X8.isLaw -/
set_option maxHeartbeats 4000000 in
set_option maxRecDepth 100000 in
theorem mX8_isLaw (ph : Nat → Nat) (a0 : Int32) (a1 : Int32) (M : rm_M) (rho : Int32 × rm_M)  (hf : fX8_isLaw a0 a1 M = some rho) : rm_CI yX8_isLaw wsX8_isLaw 1 22 [.int a0, .int a1] 96 ph M rho := by
  refine rm_metI (cc := cX8_isLaw) (maxL := 2) (by decide +kernel) rfl rfl (Nat.le_of_ble_eq_true rfl) rfl (fun G hG hR => ?_)
  unfold fX8_isLaw at hf
  refine rr_iload_n hG dX8_isLaw_0 0 rfl rfl ?_
  refine rr_if_ne hG (tgt := 16) dX8_isLaw_1 (by decide) hf (fun c1 hf => ?_) (fun c1 hf => ?_)
  · refine rr_iload_n hG dX8_isLaw_16 0 rfl rfl ?_
    refine rr_iconst hG (v := 1) dX8_isLaw_17 (by decide) ?_
    refine rr_iconst hG (v := 3) dX8_isLaw_18 (by decide) ?_
    refine rr_cSI hG (st := []) (n := 3) (rf := 0) (rl := 0) [.int a0, .int (1 : Int32), .int (3 : Int32)] dX8_isLaw_19 hf gX8_isLaw_X8_isIn rfl (by decide +kernel) rfl ⟨by decide, by decide⟩ rfl (Nat.le_of_ble_eq_true rfl) (fun r9 M9 h9 => mX8_isIn ph _ _ _ _ _ h9) (fun r3 M4 h2 hf => ?_)
    refine rr_if_eq hG (tgt := 39) dX8_isLaw_22 (by decide) hf (fun c5 hf => ?_) (fun c5 hf => ?_)
    · refine rr_iconst hG (v := 0) dX8_isLaw_39 (by decide) ?_
      exact rr_zret hG hR dX8_isLaw_40 hf
    · refine rr_iload_n hG dX8_isLaw_25 1 rfl rfl ?_
      refine rr_iconst hG (v := 1) dX8_isLaw_26 (by decide) ?_
      refine rr_bipush hG (v := 9) dX8_isLaw_27 (by decide) ?_
      refine rr_cSI hG (st := []) (n := 3) (rf := 0) (rl := 0) [.int a1, .int (1 : Int32), .int (9 : Int32)] dX8_isLaw_29 hf gX8_isLaw_X8_isIn rfl (by decide +kernel) rfl ⟨by decide, by decide⟩ rfl (Nat.le_of_ble_eq_true rfl) (fun r9 M9 h9 => mX8_isIn ph _ _ _ _ _ h9) (fun r7 M8 h6 hf => ?_)
      refine rr_if_eq hG (tgt := 39) dX8_isLaw_32 (by decide) hf (fun c9 hf => ?_) (fun c9 hf => ?_)
      · refine rr_iconst hG (v := 0) dX8_isLaw_39 (by decide) ?_
        exact rr_zret hG hR dX8_isLaw_40 hf
      · refine rr_iconst hG (v := 1) dX8_isLaw_35 (by decide) ?_
        refine rr_goto hG (tgt := 40) dX8_isLaw_36 (by decide) ?_
        exact rr_zret hG hR dX8_isLaw_40 hf
  · refine rr_iload_n hG dX8_isLaw_4 1 rfl rfl ?_
    refine rr_if_ne hG (tgt := 12) dX8_isLaw_5 (by decide) hf (fun c10 hf => ?_) (fun c10 hf => ?_)
    · refine rr_iconst hG (v := 0) dX8_isLaw_12 (by decide) ?_
      refine rr_goto hG (tgt := 40) dX8_isLaw_13 (by decide) ?_
      exact rr_zret hG hR dX8_isLaw_40 hf
    · refine rr_iconst hG (v := 1) dX8_isLaw_8 (by decide) ?_
      refine rr_goto hG (tgt := 40) dX8_isLaw_9 (by decide) ?_
      exact rr_zret hG hR dX8_isLaw_40 hf
/-! X8.readsLaw -/
theorem tX8_readsLaw_X8 : ∀ w ∈ u_ws RX8 TX8 26, w ∈ wsX8_readsLaw := by decide +kernel
theorem kX8_readsLaw_31 : Cond.fieldLink RX8 31 "RingPagesModel" "read" "[I" ∈ wsX8_readsLaw := by decide +kernel
theorem kX8_readsLaw_88 : Cond.fieldLink RX8 88 "RingPagesModel" "value" "I" ∈ wsX8_readsLaw := by decide +kernel
set_option maxHeartbeats 4000000 in
set_option maxRecDepth 100000 in
theorem wX8_readsLaw_L43 {G : rm_G} {ph : Nat → Nat} {rho : Int32 × rm_M} (a1 : Int32) (hG : rm_k G 96 ph cX8_readsLaw RX8 wsX8_readsLaw 4 3 67) (hR : rm_rI G 96 ph .boolean rho)    : ∀ (x2 : Int32) (s0 : Int32) (M : rm_M), fX8_readsLaw_L43 a1 x2 s0 M = some rho → rm_L G 96 ph 4 43 [(0, .ref (ph 79)), (2, .int x2)] [.int s0] M := by
  intro x2 s0 M hf
  unfold fX8_readsLaw_L43 at hf
  refine rr_istore_n hG (lv2 := [(3, .int s0), (0, .ref (ph 79)), (2, .int x2)]) dX8_readsLaw_43 rfl (by decide) rfl ?_
  refine rr_aload_n hG dX8_readsLaw_44 1 rfl rfl ?_
  refine rr_get hG 8 13 (v := .ref (ph 87)) dX8_readsLaw_45 ⟨rfl, by decide⟩ (by decide) rfl tX8_readsLaw_X8 (by decide) kX8_readsLaw_31 rfl rfl ?_
  refine rr_bipush hG (v := 12) dX8_readsLaw_48 (by decide) ?_
  refine rr_iload_n hG dX8_readsLaw_50 2 rfl rfl ?_
  refine rr_iast hG dX8_readsLaw_51 ⟨rfl, by decide⟩ hf (fun b1 hf => ?_)
  refine rr_bindM hf (fun M2 eM2 hf => ?_)
  refine rr_aload_n hG dX8_readsLaw_52 1 rfl rfl ?_
  refine rr_get hG 8 13 (v := .ref (ph 87)) dX8_readsLaw_53 ⟨rfl, by decide⟩ (by decide) rfl tX8_readsLaw_X8 (by decide) kX8_readsLaw_31 rfl rfl ?_
  refine rr_bipush hG (v := 13) dX8_readsLaw_56 (by decide) ?_
  refine rr_aload_n hG dX8_readsLaw_58 1 rfl rfl ?_
  refine rr_get hG 8 14 dX8_readsLaw_59 ⟨rfl, by decide⟩ (by decide) rfl tX8_readsLaw_X8 (by decide) kX8_readsLaw_88 rfl rfl ?_
  refine rr_iast hG dX8_readsLaw_62 ⟨rfl, by decide⟩ hf (fun b3 hf => ?_)
  refine rr_bindM hf (fun M4 eM4 hf => ?_)
  refine rr_iload_n hG dX8_readsLaw_63 0 rfl rfl ?_
  exact rr_zret hG hR dX8_readsLaw_64 hf
set_option maxHeartbeats 4000000 in
set_option maxRecDepth 100000 in
theorem wX8_readsLaw_L42 {G : rm_G} {ph : Nat → Nat} {rho : Int32 × rm_M} (a1 : Int32) (hG : rm_k G 96 ph cX8_readsLaw RX8 wsX8_readsLaw 4 3 67) (hR : rm_rI G 96 ph .boolean rho)    : ∀ (x2 : Int32) (M : rm_M), fX8_readsLaw_L42 a1 x2 M = some rho → rm_L G 96 ph 4 42 [(0, .ref (ph 79)), (2, .int x2)] [] M := by
  intro x2 M hf
  unfold fX8_readsLaw_L42 at hf
  refine rr_iconst hG (v := 0) dX8_readsLaw_42 (by decide) ?_
  exact rr_sub (lv2 := [(0, .ref (ph 79)), (2, .int x2)]) [0, 1] rfl (wX8_readsLaw_L43 _ hG hR _ _ _ hf)
set_option maxHeartbeats 4000000 in
set_option maxRecDepth 100000 in
theorem mX8_readsLaw (ph : Nat → Nat) (a1 : Int32) (M : rm_M) (rho : Int32 × rm_M)  (hf : fX8_readsLaw a1 M = some rho) : rm_CI yX8_readsLaw wsX8_readsLaw 3 67 [.ref (ph 79), .int a1] 96 ph M rho := by
  refine rm_metI (cc := cX8_readsLaw) (maxL := 4) (by decide +kernel) rfl rfl (Nat.le_of_ble_eq_true rfl) rfl (fun G hG hR => ?_)
  unfold fX8_readsLaw at hf
  refine rr_aload_n hG dX8_readsLaw_0 0 rfl rfl ?_
  refine rr_iload_n hG dX8_readsLaw_1 1 rfl rfl ?_
  refine rr_iconst hG (v := 0) dX8_readsLaw_2 (by decide) ?_
  refine rr_iconst hG (v := 3) dX8_readsLaw_3 (by decide) ?_
  refine rr_cVI hG (st := []) (n := 3) (ci := 8) (rf := 1) (rl := 22) [.int a1, .int (0 : Int32), .int (3 : Int32)] dX8_readsLaw_4 hf ⟨rfl, by decide⟩ (by decide) rfl gX8_readsLaw_X8_number rfl (by decide +kernel) rfl ⟨by decide, by decide⟩ rfl (Nat.le_of_ble_eq_true rfl) (fun r9 M9 h9 => mX8_number ph _ _ _ _ _ h9) (fun r6 M7 h5 hf => ?_)
  refine rr_if_ne hG (tgt := 12) dX8_readsLaw_7 (by decide) hf (fun c8 hf => ?_) (fun c8 hf => ?_)
  · refine rr_aload_n hG dX8_readsLaw_12 0 rfl rfl ?_
    refine rr_get hG 8 14 dX8_readsLaw_13 ⟨rfl, by decide⟩ (by decide) rfl tX8_readsLaw_X8 (by decide) kX8_readsLaw_88 rfl rfl ?_
    refine rr_bindI hf (fun v9 ev9 hf => ?_)
    refine rr_istore_n hG (lv2 := [(2, .int v9), (0, .ref (ph 79)), (1, .int a1)]) dX8_readsLaw_16 rfl (by decide) rfl ?_
    refine rr_aload_n hG dX8_readsLaw_17 1 rfl rfl ?_
    refine rr_iconst hG (v := 0) dX8_readsLaw_18 (by decide) ?_
    refine rr_bipush hG (v := 9) dX8_readsLaw_19 (by decide) ?_
    refine rr_cVI hG (st := []) (n := 2) (ci := 8) (rf := 2) (rl := 45) [.int (0 : Int32), .int (9 : Int32)] dX8_readsLaw_21 hf ⟨rfl, by decide⟩ (by decide) rfl gX8_readsLaw_X8_more rfl (by decide +kernel) rfl ⟨by decide, by decide⟩ rfl (Nat.le_of_ble_eq_true rfl) (fun r9 M9 h9 => mX8_more ph _ _ _ _ h9) (fun r11 M12 h10 hf => ?_)
    refine rr_if_eq hG (tgt := 42) dX8_readsLaw_24 (by decide) hf (fun c13 hf => ?_) (fun c13 hf => ?_)
    · exact rr_sub (lv2 := [(0, .ref (ph 79)), (2, .int v9)]) [1, 0] rfl (wX8_readsLaw_L42 _ hG hR _ _ hf)
    · refine rr_iload_n hG dX8_readsLaw_27 0 rfl rfl ?_
      refine rr_aload_n hG dX8_readsLaw_28 1 rfl rfl ?_
      refine rr_get hG 8 14 dX8_readsLaw_29 ⟨rfl, by decide⟩ (by decide) rfl tX8_readsLaw_X8 (by decide) kX8_readsLaw_88 rfl rfl ?_
      refine rr_cSI hG (st := []) (n := 2) (rf := 1) (rl := 22) [.int v9, .int (M12.1 79 14)] dX8_readsLaw_32 hf gX8_readsLaw_X8_isLaw rfl (by decide +kernel) rfl ⟨by decide, by decide⟩ rfl (Nat.le_of_ble_eq_true rfl) (fun r9 M9 h9 => mX8_isLaw ph _ _ _ _ h9) (fun r15 M16 h14 hf => ?_)
      refine rr_if_eq hG (tgt := 42) dX8_readsLaw_35 (by decide) hf (fun c17 hf => ?_) (fun c17 hf => ?_)
      · exact rr_sub (lv2 := [(0, .ref (ph 79)), (2, .int v9)]) [1, 0] rfl (wX8_readsLaw_L42 _ hG hR _ _ hf)
      · refine rr_iconst hG (v := 1) dX8_readsLaw_38 (by decide) ?_
        refine rr_goto hG (tgt := 43) dX8_readsLaw_39 (by decide) ?_
        exact rr_sub (lv2 := [(0, .ref (ph 79)), (2, .int v9)]) [1, 0] rfl (wX8_readsLaw_L43 _ hG hR _ _ _ hf)
  · refine rr_iconst hG (v := 0) dX8_readsLaw_10 (by decide) ?_
    exact rr_zret hG hR dX8_readsLaw_11 hf
/-! X8.readsPrice -/
theorem tX8_readsPrice_X8 : ∀ w ∈ u_ws RX8 TX8 26, w ∈ wsX8_readsPrice := by decide +kernel
theorem kX8_readsPrice_28 : Cond.fieldLink RX8 28 "RingPagesModel" "readPrice" "[I" ∈ wsX8_readsPrice := by decide +kernel
theorem kX8_readsPrice_88 : Cond.fieldLink RX8 88 "RingPagesModel" "value" "I" ∈ wsX8_readsPrice := by decide +kernel
set_option maxHeartbeats 4000000 in
set_option maxRecDepth 100000 in
theorem wX8_readsPrice_L59 {G : rm_G} {ph : Nat → Nat} {rho : Int32 × rm_M} (a1 : Int32) (hG : rm_k G 96 ph cX8_readsPrice RX8 wsX8_readsPrice 5 3 67) (hR : rm_rI G 96 ph .boolean rho)  (q2 : Int32 → rm_M → Option (Int32 × rm_M)) (hq2 : ∀ (x2 : Int32) (M : rm_M), q2 x2 M = some rho → rm_L G 96 ph 5 2 [(0, .ref (ph 79)), (1, .int a1), (2, .int x2)] [] M) : ∀ (x2 : Int32) (M : rm_M), fX8_readsPrice_L59 a1 q2 x2 M = some rho → rm_L G 96 ph 5 59 [(0, .ref (ph 79)), (1, .int a1), (2, .int x2)] [] M := by
  intro x2 M hf
  unfold fX8_readsPrice_L59 at hf
  refine rr_aload_n hG dX8_readsPrice_59 0 rfl rfl ?_
  refine rr_get hG 8 12 (v := .ref (ph 86)) dX8_readsPrice_60 ⟨rfl, by decide⟩ (by decide) rfl tX8_readsPrice_X8 (by decide) kX8_readsPrice_28 rfl rfl ?_
  refine rr_iload_n hG dX8_readsPrice_63 2 rfl rfl ?_
  refine rr_aload_n hG dX8_readsPrice_64 0 rfl rfl ?_
  refine rr_get hG 8 14 dX8_readsPrice_65 ⟨rfl, by decide⟩ (by decide) rfl tX8_readsPrice_X8 (by decide) kX8_readsPrice_88 rfl rfl ?_
  refine rr_iast hG dX8_readsPrice_68 ⟨rfl, by decide⟩ hf (fun b1 hf => ?_)
  refine rr_bindM hf (fun M2 eM2 hf => ?_)
  refine rr_iinc hG (v := x2 + (1 : Int32)) (lv2 := [(2, .int (x2 + (1 : Int32))), (0, .ref (ph 79)), (1, .int a1)]) (k := 2) dX8_readsPrice_69 rfl rfl (by decide) rfl ?_
  refine rr_goto hG (tgt := 2) dX8_readsPrice_72 (by decide) ?_
  exact rr_sub (lv2 := [(0, .ref (ph 79)), (1, .int a1), (2, .int (x2 + (1 : Int32)))]) [1, 2, 0] rfl (hq2 _ _ hf)
set_option maxHeartbeats 4000000 in
set_option maxRecDepth 100000 in
theorem wX8_readsPrice_L27 {G : rm_G} {ph : Nat → Nat} {rho : Int32 × rm_M} (a1 : Int32) (hG : rm_k G 96 ph cX8_readsPrice RX8 wsX8_readsPrice 5 3 67) (hR : rm_rI G 96 ph .boolean rho)  (q2 : Int32 → rm_M → Option (Int32 × rm_M)) (hq2 : ∀ (x2 : Int32) (M : rm_M), q2 x2 M = some rho → rm_L G 96 ph 5 2 [(0, .ref (ph 79)), (1, .int a1), (2, .int x2)] [] M) : ∀ (x2 : Int32) (x3 : Int32) (s0 : Int32) (M : rm_M), fX8_readsPrice_L27 a1 q2 x2 x3 s0 M = some rho → rm_L G 96 ph 5 27 [(0, .ref (ph 79)), (1, .int a1), (2, .int x2), (3, .int x3)] [.int s0] M := by
  intro x2 x3 s0 M hf
  unfold fX8_readsPrice_L27 at hf
  refine rr_istore hG (lv2 := [(4, .int s0), (0, .ref (ph 79)), (1, .int a1), (2, .int x2), (3, .int x3)]) dX8_readsPrice_27 (by decide) rfl ?_
  refine rr_iload_n hG dX8_readsPrice_29 3 rfl rfl ?_
  refine rr_if_ne hG (tgt := 47) dX8_readsPrice_30 (by decide) hf (fun c3 hf => ?_) (fun c3 hf => ?_)
  · refine rr_aload_n hG dX8_readsPrice_47 1 rfl rfl ?_
    refine rr_iload_n hG dX8_readsPrice_48 4 rfl rfl ?_
    refine rr_iload hG dX8_readsPrice_49 0 rfl ?_
    refine rr_cVI hG (st := []) (n := 2) (ci := 8) (rf := 2) (rl := 45) [.int x3, .int s0] dX8_readsPrice_51 hf ⟨rfl, by decide⟩ (by decide) rfl gX8_readsPrice_X8_more rfl (by decide +kernel) rfl ⟨by decide, by decide⟩ rfl (Nat.le_of_ble_eq_true rfl) (fun r9 M9 h9 => mX8_more ph _ _ _ _ h9) (fun r5 M6 h4 hf => ?_)
    refine rr_if_ne hG (tgt := 59) dX8_readsPrice_54 (by decide) hf (fun c7 hf => ?_) (fun c7 hf => ?_)
    · exact rr_sub (lv2 := [(0, .ref (ph 79)), (1, .int a1), (2, .int x2)]) [1, 2, 3] rfl (wX8_readsPrice_L59 _ hG hR _ (hq2) _ _ hf)
    · refine rr_iconst hG (v := 0) dX8_readsPrice_57 (by decide) ?_
      exact rr_zret hG hR dX8_readsPrice_58 hf
  · refine rr_aload_n hG dX8_readsPrice_33 1 rfl rfl ?_
    refine rr_iload_n hG dX8_readsPrice_34 2 rfl rfl ?_
    refine rr_iload_n hG dX8_readsPrice_35 4 rfl rfl ?_
    refine rr_iload hG dX8_readsPrice_36 0 rfl ?_
    refine rr_cVI hG (st := []) (n := 3) (ci := 8) (rf := 1) (rl := 22) [.int a1, .int x3, .int s0] dX8_readsPrice_38 hf ⟨rfl, by decide⟩ (by decide) rfl gX8_readsPrice_X8_number rfl (by decide +kernel) rfl ⟨by decide, by decide⟩ rfl (Nat.le_of_ble_eq_true rfl) (fun r9 M9 h9 => mX8_number ph _ _ _ _ _ h9) (fun r9 M10 h8 hf => ?_)
    refine rr_if_eq hG (tgt := 57) dX8_readsPrice_41 (by decide) hf (fun c11 hf => ?_) (fun c11 hf => ?_)
    · refine rr_iconst hG (v := 0) dX8_readsPrice_57 (by decide) ?_
      exact rr_zret hG hR dX8_readsPrice_58 hf
    · refine rr_goto hG (tgt := 59) dX8_readsPrice_44 (by decide) ?_
      exact rr_sub (lv2 := [(0, .ref (ph 79)), (1, .int a1), (2, .int x2)]) [1, 2, 3] rfl (wX8_readsPrice_L59 _ hG hR _ (hq2) _ _ hf)
set_option maxHeartbeats 4000000 in
set_option maxRecDepth 100000 in
theorem wX8_readsPrice_L16 {G : rm_G} {ph : Nat → Nat} {rho : Int32 × rm_M} (a1 : Int32) (hG : rm_k G 96 ph cX8_readsPrice RX8 wsX8_readsPrice 5 3 67) (hR : rm_rI G 96 ph .boolean rho)  (q2 : Int32 → rm_M → Option (Int32 × rm_M)) (hq2 : ∀ (x2 : Int32) (M : rm_M), q2 x2 M = some rho → rm_L G 96 ph 5 2 [(0, .ref (ph 79)), (1, .int a1), (2, .int x2)] [] M) : ∀ (x2 : Int32) (s0 : Int32) (M : rm_M), fX8_readsPrice_L16 a1 q2 x2 s0 M = some rho → rm_L G 96 ph 5 16 [(0, .ref (ph 79)), (1, .int a1), (2, .int x2)] [.int s0] M := by
  intro x2 s0 M hf
  unfold fX8_readsPrice_L16 at hf
  refine rr_istore_n hG (lv2 := [(3, .int s0), (0, .ref (ph 79)), (1, .int a1), (2, .int x2)]) dX8_readsPrice_16 rfl (by decide) rfl ?_
  refine rr_iload_n hG dX8_readsPrice_17 3 rfl rfl ?_
  refine rr_if_ne hG (tgt := 25) dX8_readsPrice_18 (by decide) hf (fun c12 hf => ?_) (fun c12 hf => ?_)
  · refine rr_bipush hG (v := 99) dX8_readsPrice_25 (by decide) ?_
    exact rr_sub (lv2 := [(0, .ref (ph 79)), (1, .int a1), (2, .int x2), (3, .int s0)]) [1, 2, 3, 0] rfl (wX8_readsPrice_L27 _ hG hR _ (hq2) _ _ _ _ hf)
  · refine rr_iconst hG (v := 4) dX8_readsPrice_21 (by decide) ?_
    refine rr_goto hG (tgt := 27) dX8_readsPrice_22 (by decide) ?_
    exact rr_sub (lv2 := [(0, .ref (ph 79)), (1, .int a1), (2, .int x2), (3, .int s0)]) [1, 2, 3, 0] rfl (wX8_readsPrice_L27 _ hG hR _ (hq2) _ _ _ _ hf)
set_option maxHeartbeats 4000000 in
set_option maxRecDepth 100000 in
theorem wX8_readsPrice_L2 {G : rm_G} {ph : Nat → Nat} {rho : Int32 × rm_M} (a1 : Int32) (hG : rm_k G 96 ph cX8_readsPrice RX8 wsX8_readsPrice 5 3 67) (hR : rm_rI G 96 ph .boolean rho)    : ∀ (n : Nat) (x2 : Int32) (M : rm_M), fX8_readsPrice_L2 a1 n x2 M = some rho → rm_L G 96 ph 5 2 [(0, .ref (ph 79)), (1, .int a1), (2, .int x2)] [] M := by
  intro n
  induction n with
  | zero => intro x2 M hf; rw [fX8_readsPrice_L2] at hf; cases hf
  | succ n ih =>
    intro x2 M hf
    rw [fX8_readsPrice_L2] at hf
    refine rr_iload_n hG dX8_readsPrice_2 2 rfl rfl ?_
    refine rr_iconst hG (v := 4) dX8_readsPrice_3 (by decide) ?_
    refine rr_icmp_ge hG (tgt := 75) dX8_readsPrice_4 (by decide) hf (fun c13 hf => ?_) (fun c13 hf => ?_)
    · refine rr_iconst hG (v := 1) dX8_readsPrice_75 (by decide) ?_
      exact rr_zret hG hR dX8_readsPrice_76 hf
    · refine rr_iload_n hG dX8_readsPrice_7 2 rfl rfl ?_
      refine rr_if_ne hG (tgt := 15) dX8_readsPrice_8 (by decide) hf (fun c14 hf => ?_) (fun c14 hf => ?_)
      · refine rr_iconst hG (v := 0) dX8_readsPrice_15 (by decide) ?_
        exact rr_sub (lv2 := [(0, .ref (ph 79)), (1, .int a1), (2, .int x2)]) [0, 1, 2] rfl (wX8_readsPrice_L16 _ hG hR _ (ih) _ _ _ hf)
      · refine rr_iconst hG (v := 1) dX8_readsPrice_11 (by decide) ?_
        refine rr_goto hG (tgt := 16) dX8_readsPrice_12 (by decide) ?_
        exact rr_sub (lv2 := [(0, .ref (ph 79)), (1, .int a1), (2, .int x2)]) [0, 1, 2] rfl (wX8_readsPrice_L16 _ hG hR _ (ih) _ _ _ hf)
set_option maxHeartbeats 4000000 in
set_option maxRecDepth 100000 in
theorem mX8_readsPrice (ph : Nat → Nat) (a1 : Int32) (M : rm_M) (rho : Int32 × rm_M)  (hf : fX8_readsPrice a1 M = some rho) : rm_CI yX8_readsPrice wsX8_readsPrice 3 67 [.ref (ph 79), .int a1] 96 ph M rho := by
  refine rm_metI (cc := cX8_readsPrice) (maxL := 5) (by decide +kernel) rfl rfl (Nat.le_of_ble_eq_true rfl) rfl (fun G hG hR => ?_)
  unfold fX8_readsPrice at hf
  refine rr_iconst hG (v := 0) dX8_readsPrice_0 (by decide) ?_
  refine rr_istore_n hG (lv2 := [(2, .int (0 : Int32)), (0, .ref (ph 79)), (1, .int a1)]) dX8_readsPrice_1 rfl (by decide) rfl ?_
  exact rr_sub (lv2 := [(0, .ref (ph 79)), (1, .int a1), (2, .int (0 : Int32))]) [1, 2, 0] rfl (wX8_readsPrice_L2 _ hG hR _ _ _ hf)
/-! X8.readsItem -/
theorem tX8_readsItem_X8 : ∀ w ∈ u_ws RX8 TX8 26, w ∈ wsX8_readsItem := by decide +kernel
theorem kX8_readsItem_62 : Cond.fieldLink RX8 62 "RingPagesModel" "readCells" "I" ∈ wsX8_readsItem := by decide +kernel
theorem kX8_readsItem_88 : Cond.fieldLink RX8 88 "RingPagesModel" "value" "I" ∈ wsX8_readsItem := by decide +kernel
set_option maxHeartbeats 4000000 in
set_option maxRecDepth 100000 in
theorem wX8_readsItem_L27 {G : rm_G} {ph : Nat → Nat} {rho : Int32 × rm_M} (a1 : Int32) (a2 : Int32) (hG : rm_k G 96 ph cX8_readsItem RX8 wsX8_readsItem 4 4 91) (hR : rm_rI G 96 ph .boolean rho)    : ∀ (s0 : Int32) (M : rm_M), fX8_readsItem_L27 a1 a2 s0 M = some rho → rm_L G 96 ph 4 27 [(0, .ref (ph 79))] [.int s0] M := by
  intro s0 M hf
  unfold fX8_readsItem_L27 at hf
  refine rr_istore_n hG (lv2 := [(3, .int s0), (0, .ref (ph 79))]) dX8_readsItem_27 rfl (by decide) rfl ?_
  refine rr_aload_n hG dX8_readsItem_28 1 rfl rfl ?_
  refine rr_iload_n hG dX8_readsItem_29 0 rfl rfl ?_
  refine rr_if_eq hG (tgt := 40) dX8_readsItem_30 (by decide) hf (fun c1 hf => ?_) (fun c1 hf => ?_)
  · refine rr_aload_n hG dX8_readsItem_40 1 rfl rfl ?_
    refine rr_get hG 8 9 dX8_readsItem_41 ⟨rfl, by decide⟩ (by decide) rfl tX8_readsItem_X8 (by decide) kX8_readsItem_62 rfl rfl ?_
    refine rr_putI hG 8 9 dX8_readsItem_44 ⟨rfl, by decide⟩ (by decide) rfl tX8_readsItem_X8 tyX8_ok nmX8 (by decide) kX8_readsItem_62 rfl rfl rfl rfl rfl (Nat.le_of_ble_eq_true rfl) rfl ?_
    refine rr_bindM hf (fun M2 eM2 hf => ?_)
    refine rr_iload_n hG dX8_readsItem_47 0 rfl rfl ?_
    exact rr_zret hG hR dX8_readsItem_48 hf
  · refine rr_aload_n hG dX8_readsItem_33 1 rfl rfl ?_
    refine rr_get hG 8 14 dX8_readsItem_34 ⟨rfl, by decide⟩ (by decide) rfl tX8_readsItem_X8 (by decide) kX8_readsItem_88 rfl rfl ?_
    refine rr_goto hG (tgt := 44) dX8_readsItem_37 (by decide) ?_
    refine rr_putI hG 8 9 dX8_readsItem_44 ⟨rfl, by decide⟩ (by decide) rfl tX8_readsItem_X8 tyX8_ok nmX8 (by decide) kX8_readsItem_62 rfl rfl rfl rfl rfl (Nat.le_of_ble_eq_true rfl) rfl ?_
    refine rr_bindM hf (fun M3 eM3 hf => ?_)
    refine rr_iload_n hG dX8_readsItem_47 0 rfl rfl ?_
    exact rr_zret hG hR dX8_readsItem_48 hf
set_option maxHeartbeats 4000000 in
set_option maxRecDepth 100000 in
theorem wX8_readsItem_L26 {G : rm_G} {ph : Nat → Nat} {rho : Int32 × rm_M} (a1 : Int32) (a2 : Int32) (hG : rm_k G 96 ph cX8_readsItem RX8 wsX8_readsItem 4 4 91) (hR : rm_rI G 96 ph .boolean rho)    : ∀  (M : rm_M), fX8_readsItem_L26 a1 a2 M = some rho → rm_L G 96 ph 4 26 [(0, .ref (ph 79))] [] M := by
  intro M hf
  unfold fX8_readsItem_L26 at hf
  refine rr_iconst hG (v := 0) dX8_readsItem_26 (by decide) ?_
  exact rr_sub (lv2 := [(0, .ref (ph 79))]) [0] rfl (wX8_readsItem_L27 _ _ hG hR _ _ hf)
set_option maxHeartbeats 4000000 in
set_option maxRecDepth 100000 in
theorem mX8_readsItem (ph : Nat → Nat) (a1 : Int32) (a2 : Int32) (M : rm_M) (rho : Int32 × rm_M)  (hf : fX8_readsItem a1 a2 M = some rho) : rm_CI yX8_readsItem wsX8_readsItem 4 91 [.ref (ph 79), .int a1, .int a2] 96 ph M rho := by
  refine rm_metI (cc := cX8_readsItem) (maxL := 4) (by decide +kernel) rfl rfl (Nat.le_of_ble_eq_true rfl) rfl (fun G hG hR => ?_)
  unfold fX8_readsItem at hf
  refine rr_iload_n hG dX8_readsItem_0 1 rfl rfl ?_
  refine rr_bipush hG (v := 110) dX8_readsItem_1 (by decide) ?_
  refine rr_icmp_ne hG (tgt := 49) dX8_readsItem_3 (by decide) hf (fun c4 hf => ?_) (fun c4 hf => ?_)
  · refine rr_aload_n hG dX8_readsItem_49 0 rfl rfl ?_
    refine rr_get hG 8 9 dX8_readsItem_50 ⟨rfl, by decide⟩ (by decide) rfl tX8_readsItem_X8 (by decide) kX8_readsItem_62 rfl rfl ?_
    refine rr_if_ne hG (tgt := 58) dX8_readsItem_53 (by decide) hf (fun c5 hf => ?_) (fun c5 hf => ?_)
    · refine rr_iload_n hG dX8_readsItem_58 1 rfl rfl ?_
      by_cases c6 : a1 = 97
      · rw [if_pos c6] at hf
        refine rr_lookup hG (tgt := 121) (off := 62) dX8_readsItem_59 (by decide) (by rw [c6] <;> rfl) (by decide) ?_
        refine rr_aload_n hG dX8_readsItem_121 0 rfl rfl ?_
        refine rr_iload_n hG dX8_readsItem_122 2 rfl rfl ?_
        refine rr_iconst hG (v := 1) dX8_readsItem_123 (by decide) ?_
        refine rr_cVI hG (st := []) (n := 2) (ci := 8) (rf := 3) (rl := 67) [.int a2, .int (1 : Int32)] dX8_readsItem_124 hf ⟨rfl, by decide⟩ (by decide) rfl gX8_readsItem_X8_readsCell rfl (by decide +kernel) rfl ⟨by decide, by decide⟩ rfl (Nat.le_of_ble_eq_true rfl) (fun r9 M9 h9 => mX8_readsCell ph _ _ _ _ h9) (fun r8 M9 h7 hf => ?_)
        exact rr_zret hG hR dX8_readsItem_127 hf
      · rw [if_neg c6] at hf
        by_cases c10 : a1 = 106
        · rw [if_pos c10] at hf
          refine rr_lookup hG (tgt := 108) (off := 49) dX8_readsItem_59 (by decide) (by rw [c10] <;> rfl) (by decide) ?_
          refine rr_aload_n hG dX8_readsItem_108 0 rfl rfl ?_
          refine rr_iload_n hG dX8_readsItem_109 2 rfl rfl ?_
          refine rr_cVI hG (st := []) (n := 1) (ci := 8) (rf := 3) (rl := 67) [.int a2] dX8_readsItem_110 hf ⟨rfl, by decide⟩ (by decide) rfl gX8_readsItem_X8_readsJoin rfl (by decide +kernel) rfl ⟨by decide, by decide⟩ rfl (Nat.le_of_ble_eq_true rfl) (fun r9 M9 h9 => mX8_readsJoin ph _ _ _ h9) (fun r12 M13 h11 hf => ?_)
          exact rr_zret hG hR dX8_readsItem_113 hf
        · rw [if_neg c10] at hf
          by_cases c14 : a1 = 108
          · rw [if_pos c14] at hf
            refine rr_lookup hG (tgt := 128) (off := 69) dX8_readsItem_59 (by decide) (by rw [c14] <;> rfl) (by decide) ?_
            refine rr_aload_n hG dX8_readsItem_128 0 rfl rfl ?_
            refine rr_iload_n hG dX8_readsItem_129 2 rfl rfl ?_
            refine rr_cVI hG (st := []) (n := 1) (ci := 8) (rf := 3) (rl := 67) [.int a2] dX8_readsItem_130 hf ⟨rfl, by decide⟩ (by decide) rfl gX8_readsItem_X8_readsLaw rfl (by decide +kernel) rfl ⟨by decide, by decide⟩ rfl (Nat.le_of_ble_eq_true rfl) (fun r9 M9 h9 => mX8_readsLaw ph _ _ _ h9) (fun r16 M17 h15 hf => ?_)
            exact rr_zret hG hR dX8_readsItem_133 hf
          · rw [if_neg c14] at hf
            by_cases c18 : a1 = 112
            · rw [if_pos c18] at hf
              refine rr_lookup hG (tgt := 134) (off := 75) dX8_readsItem_59 (by decide) (by rw [c18] <;> rfl) (by decide) ?_
              refine rr_aload_n hG dX8_readsItem_134 0 rfl rfl ?_
              refine rr_iload_n hG dX8_readsItem_135 2 rfl rfl ?_
              refine rr_cVI hG (st := []) (n := 1) (ci := 8) (rf := 3) (rl := 67) [.int a2] dX8_readsItem_136 hf ⟨rfl, by decide⟩ (by decide) rfl gX8_readsItem_X8_readsPrice rfl (by decide +kernel) rfl ⟨by decide, by decide⟩ rfl (Nat.le_of_ble_eq_true rfl) (fun r9 M9 h9 => mX8_readsPrice ph _ _ _ h9) (fun r20 M21 h19 hf => ?_)
              exact rr_zret hG hR dX8_readsItem_139 hf
            · rw [if_neg c18] at hf
              by_cases c22 : a1 = 115
              · rw [if_pos c22] at hf
                refine rr_lookup hG (tgt := 114) (off := 55) dX8_readsItem_59 (by decide) (by rw [c22] <;> rfl) (by decide) ?_
                refine rr_aload_n hG dX8_readsItem_114 0 rfl rfl ?_
                refine rr_iload_n hG dX8_readsItem_115 2 rfl rfl ?_
                refine rr_iconst hG (v := 0) dX8_readsItem_116 (by decide) ?_
                refine rr_cVI hG (st := []) (n := 2) (ci := 8) (rf := 3) (rl := 67) [.int a2, .int (0 : Int32)] dX8_readsItem_117 hf ⟨rfl, by decide⟩ (by decide) rfl gX8_readsItem_X8_readsCell rfl (by decide +kernel) rfl ⟨by decide, by decide⟩ rfl (Nat.le_of_ble_eq_true rfl) (fun r9 M9 h9 => mX8_readsCell ph _ _ _ _ h9) (fun r24 M25 h23 hf => ?_)
                exact rr_zret hG hR dX8_readsItem_120 hf
              · rw [if_neg c22] at hf
                refine rr_lookup hG (tgt := 140) (off := 81) dX8_readsItem_59 (by decide) (by show Op.lookupswitch.offset (_ :: _) _ _ = _; rw [lv_osw c6 (by decide), lv_osw c10 (by decide), lv_osw c14 (by decide), lv_osw c18 (by decide), lv_osw c22 (by decide)] <;> rfl) (by decide) ?_
                refine rr_iconst hG (v := 0) dX8_readsItem_140 (by decide) ?_
                exact rr_zret hG hR dX8_readsItem_141 hf
    · refine rr_iconst hG (v := 0) dX8_readsItem_56 (by decide) ?_
      exact rr_zret hG hR dX8_readsItem_57 hf
  · refine rr_iload_n hG dX8_readsItem_6 2 rfl rfl ?_
    refine rr_iconst hG (v := 1) dX8_readsItem_7 (by decide) ?_
    refine rr_icmp_ne hG (tgt := 26) dX8_readsItem_8 (by decide) hf (fun c26 hf => ?_) (fun c26 hf => ?_)
    · exact rr_sub (lv2 := [(0, .ref (ph 79))]) [0] rfl (wX8_readsItem_L26 _ _ hG hR _ hf)
    · refine rr_aload_n hG dX8_readsItem_11 0 rfl rfl ?_
      refine rr_iload_n hG dX8_readsItem_12 2 rfl rfl ?_
      refine rr_iconst hG (v := 2) dX8_readsItem_13 (by decide) ?_
      refine rr_bipush hG (v := 6) dX8_readsItem_14 (by decide) ?_
      refine rr_cVI hG (st := []) (n := 3) (ci := 8) (rf := 1) (rl := 22) [.int a2, .int (2 : Int32), .int (6 : Int32)] dX8_readsItem_16 hf ⟨rfl, by decide⟩ (by decide) rfl gX8_readsItem_X8_number rfl (by decide +kernel) rfl ⟨by decide, by decide⟩ rfl (Nat.le_of_ble_eq_true rfl) (fun r9 M9 h9 => mX8_number ph _ _ _ _ _ h9) (fun r28 M29 h27 hf => ?_)
      refine rr_if_eq hG (tgt := 26) dX8_readsItem_19 (by decide) hf (fun c30 hf => ?_) (fun c30 hf => ?_)
      · exact rr_sub (lv2 := [(0, .ref (ph 79))]) [0] rfl (wX8_readsItem_L26 _ _ hG hR _ hf)
      · refine rr_iconst hG (v := 1) dX8_readsItem_22 (by decide) ?_
        refine rr_goto hG (tgt := 27) dX8_readsItem_23 (by decide) ?_
        exact rr_sub (lv2 := [(0, .ref (ph 79))]) [0] rfl (wX8_readsItem_L27 _ _ hG hR _ _ hf)
