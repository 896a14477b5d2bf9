/-! X7.fault -/
theorem tX7_fault_X7 : ∀ w ∈ u_ws RX7 TX7 10, w ∈ wsX7_fault := by decide +kernel
theorem kX7_fault_10 : Cond.fieldLink RX7 10 "RingPages" "text" "LRingPages$Text;" ∈ wsX7_fault := by decide +kernel
theorem kX7_fault_61 : Cond.fieldLink RX7 61 "RingPages" "draftNet" "LRingPages$Net;" ∈ wsX7_fault := by decide +kernel
theorem kX7_fault_64 : Cond.fieldLink RX7 64 "RingPages" "draftState" "LRingPages$State;" ∈ wsX7_fault := by decide +kernel
set_option maxHeartbeats 4000000 in
set_option maxRecDepth 100000 in
theorem mX7_fault {NC : Nat} (hN : 79 ≤ NC) (ph : Nat → Nat)  (M : rm_M) (rho : Int32 × rm_M)  (hf : fX7_fault M = some rho) : rm_CI yX7_fault wsX7_fault 5 118 [.ref (ph 0)] NC ph M rho := by
  refine rm_metI (cc := cX7_fault) (maxL := 1) (by decide +kernel) rfl rfl (Nat.le_of_ble_eq_true rfl) rfl (fun G hG hR => ?_)
  unfold fX7_fault at hf
  refine rr_aload_n hG dX7_fault_0 0 rfl rfl ?_
  refine rr_get hG 7 0 (v := .ref (ph 1)) dX7_fault_1 (rm_c hN rfl (by decide)) (by decide) rfl tX7_fault_X7 (by decide) kX7_fault_10 rfl rfl ?_
  refine rr_aload_n hG dX7_fault_4 0 rfl rfl ?_
  refine rr_get hG 7 8 dX7_fault_5 (rm_c hN rfl (by decide)) (by decide) rfl tX7_fault_X7 (by decide) kX7_fault_61 rfl rfl ?_
  refine rr_bindP hf (fun p1 ep1 hf => ?_)
  obtain ⟨kp1, hf⟩ := rm_if hf
  have kp1 := rm_kc1 hN kp1
  refine rr_aload_n hG dX7_fault_8 0 rfl rfl ?_
  refine rr_get hG 7 9 dX7_fault_9 (rm_c hN rfl (by decide)) (by decide) rfl tX7_fault_X7 (by decide) kX7_fault_64 rfl rfl ?_
  refine rr_bindP hf (fun p2 ep2 hf => ?_)
  obtain ⟨kp2, hf⟩ := rm_if hf
  have kp2 := rm_kc4 hN kp2
  refine rr_cVI hG (st := []) (n := 2) (ci := 5) (rf := 4) (rl := 94) [.ref (ph p1), .ref (ph p2)] dX7_fault_12 hf (rm_c hN rfl (by decide)) (by decide) rfl gX7_fault_X5_readInto rfl (by decide +kernel) rfl ⟨by decide, by decide⟩ rfl (Nat.le_of_ble_eq_true rfl) (fun r9 M9 h9 => mX5_readInto hN ph _ _ _ _ kp1 kp2 h9) (fun r4 M5 h3 hf => ?_)
  exact rr_iret hG hR dX7_fault_15 hf
/-! X7.layText -/
theorem tX7_layText_X2 : ∀ w ∈ u_ws RX2 TX2 3, w ∈ wsX7_layText := by decide +kernel
theorem tX7_layText_X7 : ∀ w ∈ u_ws RX7 TX7 10, w ∈ wsX7_layText := by decide +kernel
theorem kX7_layText_10 : Cond.fieldLink RX7 10 "RingPages" "text" "LRingPages$Text;" ∈ wsX7_layText := by decide +kernel
theorem kX7_layText_61 : Cond.fieldLink RX7 61 "RingPages" "draftNet" "LRingPages$Net;" ∈ wsX7_layText := by decide +kernel
theorem kX7_layText_64 : Cond.fieldLink RX7 64 "RingPages" "draftState" "LRingPages$State;" ∈ wsX7_layText := by decide +kernel
theorem kX7_layText_54 : Cond.fieldLink RX7 54 "RingPages" "net" "LRingPages$Net;" ∈ wsX7_layText := by decide +kernel
theorem kX7_layText_58 : Cond.fieldLink RX7 58 "RingPages" "state" "LRingPages$State;" ∈ wsX7_layText := by decide +kernel
theorem kX7_layText_19 : Cond.fieldLink RX7 19 "RingPages" "past" "LRingPages$Past;" ∈ wsX7_layText := by decide +kernel
theorem kX7_layText_103 : Cond.fieldLink RX7 103 "RingPages$Past" "held" "I" ∈ wsX7_layText := by decide +kernel
theorem kX7_layText_26 : Cond.fieldLink RX7 26 "RingPages" "longRun" "LRingPages$LongRun;" ∈ wsX7_layText := by decide +kernel
set_option maxHeartbeats 4000000 in
set_option maxRecDepth 100000 in
theorem mX7_layText {NC : Nat} (hN : 79 ≤ NC) (ph : Nat → Nat)  (M : rm_M) (rho : Int32 × rm_M)  (hf : fX7_layText M = some rho) : rm_CI yX7_layText wsX7_layText 5 118 [.ref (ph 0)] NC ph M rho := by
  refine rm_metI (cc := cX7_layText) (maxL := 3) (by decide +kernel) rfl rfl (Nat.le_of_ble_eq_true rfl) rfl (fun G hG hR => ?_)
  unfold fX7_layText at hf
  refine rr_aload_n hG dX7_layText_0 0 rfl rfl ?_
  refine rr_get hG 7 0 (v := .ref (ph 1)) dX7_layText_1 (rm_c hN rfl (by decide)) (by decide) rfl tX7_layText_X7 (by decide) kX7_layText_10 rfl rfl ?_
  refine rr_aload_n hG dX7_layText_4 0 rfl rfl ?_
  refine rr_get hG 7 8 dX7_layText_5 (rm_c hN rfl (by decide)) (by decide) rfl tX7_layText_X7 (by decide) kX7_layText_61 rfl rfl ?_
  refine rr_bindP hf (fun p1 ep1 hf => ?_)
  obtain ⟨kp1, hf⟩ := rm_if hf
  have kp1 := rm_kc1 hN kp1
  refine rr_aload_n hG dX7_layText_8 0 rfl rfl ?_
  refine rr_get hG 7 9 dX7_layText_9 (rm_c hN rfl (by decide)) (by decide) rfl tX7_layText_X7 (by decide) kX7_layText_64 rfl rfl ?_
  refine rr_bindP hf (fun p2 ep2 hf => ?_)
  obtain ⟨kp2, hf⟩ := rm_if hf
  have kp2 := rm_kc4 hN kp2
  refine rr_cVI hG (st := []) (n := 2) (ci := 5) (rf := 4) (rl := 94) [.ref (ph p1), .ref (ph p2)] dX7_layText_12 hf (rm_c hN rfl (by decide)) (by decide) rfl gX7_layText_X5_readInto rfl (by decide +kernel) rfl ⟨by decide, by decide⟩ rfl (Nat.le_of_ble_eq_true rfl) (fun r9 M9 h9 => mX5_readInto hN ph _ _ _ _ kp1 kp2 h9) (fun r4 M5 h3 hf => ?_)
  refine rr_bipush hG (v := (-4)) dX7_layText_15 (by decide) ?_
  refine rr_icmp_ne hG (tgt := 30) dX7_layText_17 (by decide) hf (fun c6 hf => ?_) (fun c6 hf => ?_)
  · refine rr_iconst hG (v := 0) dX7_layText_30 (by decide) ?_
    exact rr_zret hG hR dX7_layText_31 hf
  · refine rr_aload_n hG dX7_layText_20 0 rfl rfl ?_
    refine rr_get hG 7 8 dX7_layText_21 (rm_c hN rfl (by decide)) (by decide) rfl tX7_layText_X7 (by decide) kX7_layText_61 rfl rfl ?_
    refine rr_bindP hf (fun p7 ep7 hf => ?_)
    obtain ⟨kp7, hf⟩ := rm_if hf
    have kp7 := rm_kc1 hN kp7
    refine rr_cVI hG (st := []) (n := 0) (ci := 1) (rf := 1) (rl := 21) [] dX7_layText_24 hf kp7 (by decide) rfl gX7_layText_X1_isWhole rfl (by decide +kernel) rfl ⟨by decide, by decide⟩ rfl (Nat.le_of_ble_eq_true rfl) (fun r9 M9 h9 => mX1_isWhole hN ph _ _ _ kp7 h9) (fun r9 M10 h8 hf => ?_)
    refine rr_if_ne hG (tgt := 32) dX7_layText_27 (by decide) hf (fun c11 hf => ?_) (fun c11 hf => ?_)
    · refine rr_aload_n hG dX7_layText_32 0 rfl rfl ?_
      refine rr_get hG 7 6 dX7_layText_33 (rm_c hN rfl (by decide)) (by decide) rfl tX7_layText_X7 (by decide) kX7_layText_54 rfl rfl ?_
      refine rr_bindP hf (fun p12 ep12 hf => ?_)
      obtain ⟨kp12, hf⟩ := rm_if hf
      have kp12 := rm_kc1 hN kp12
      refine rr_astore_n hG (lv2 := [(1, .ref (ph p12)), (0, .ref (ph 0))]) dX7_layText_36 rfl (by decide) rfl ?_
      refine rr_aload_n hG dX7_layText_37 1 rfl rfl ?_
      refine rr_get hG 7 7 dX7_layText_38 (rm_c hN rfl (by decide)) (by decide) rfl tX7_layText_X7 (by decide) kX7_layText_58 rfl rfl ?_
      refine rr_bindP hf (fun p13 ep13 hf => ?_)
      obtain ⟨kp13, hf⟩ := rm_if hf
      have kp13 := rm_kc4 hN kp13
      refine rr_astore_n hG (lv2 := [(2, .ref (ph p13)), (1, .ref (ph p12)), (0, .ref (ph 0))]) dX7_layText_41 rfl (by decide) rfl ?_
      refine rr_aload_n hG dX7_layText_42 2 rfl rfl ?_
      refine rr_aload_n hG dX7_layText_43 2 rfl rfl ?_
      refine rr_get hG 7 8 dX7_layText_44 (rm_c hN rfl (by decide)) (by decide) rfl tX7_layText_X7 (by decide) kX7_layText_61 rfl rfl ?_
      refine rr_bindP hf (fun p14 ep14 hf => ?_)
      obtain ⟨kp14, hf⟩ := rm_if hf
      have kp14 := rm_kc1 hN kp14
      refine rr_putR hG (Nat.lt_of_lt_of_le (by decide) hN) 6 dX7_layText_47 rfl tX7_layText_X7 tyX7_ok nmX7 (by decide) kX7_layText_54 rfl rfl rfl rfl rfl (Nat.le_of_ble_eq_true rfl) rfl ?_
      refine rr_bindM hf (fun M15 eM15 hf => ?_)
      refine rr_aload_n hG dX7_layText_50 2 rfl rfl ?_
      refine rr_aload_n hG dX7_layText_51 2 rfl rfl ?_
      refine rr_get hG 7 9 dX7_layText_52 (rm_c hN rfl (by decide)) (by decide) rfl tX7_layText_X7 (by decide) kX7_layText_64 rfl rfl ?_
      refine rr_bindP hf (fun p16 ep16 hf => ?_)
      obtain ⟨kp16, hf⟩ := rm_if hf
      have kp16 := rm_kc4 hN kp16
      refine rr_putR hG (Nat.lt_of_lt_of_le (by decide) hN) 7 dX7_layText_55 rfl tX7_layText_X7 tyX7_ok nmX7 (by decide) kX7_layText_58 rfl rfl rfl rfl rfl (Nat.le_of_ble_eq_true rfl) rfl ?_
      refine rr_bindM hf (fun M17 eM17 hf => ?_)
      refine rr_aload_n hG dX7_layText_58 2 rfl rfl ?_
      refine rr_aload_n hG dX7_layText_59 1 rfl rfl ?_
      refine rr_putR hG (Nat.lt_of_lt_of_le (by decide) hN) 8 dX7_layText_60 rfl tX7_layText_X7 tyX7_ok nmX7 (by decide) kX7_layText_61 rfl rfl rfl rfl rfl (Nat.le_of_ble_eq_true rfl) rfl ?_
      refine rr_bindM hf (fun M18 eM18 hf => ?_)
      refine rr_aload_n hG dX7_layText_63 2 rfl rfl ?_
      refine rr_aload_n hG dX7_layText_64 0 rfl rfl ?_
      refine rr_putR hG (Nat.lt_of_lt_of_le (by decide) hN) 9 dX7_layText_65 rfl tX7_layText_X7 tyX7_ok nmX7 (by decide) kX7_layText_64 rfl rfl rfl rfl rfl (Nat.le_of_ble_eq_true rfl) rfl ?_
      refine rr_bindM hf (fun M19 eM19 hf => ?_)
      refine rr_aload_n hG dX7_layText_68 2 rfl rfl ?_
      refine rr_get hG 7 6 dX7_layText_69 (rm_c hN rfl (by decide)) (by decide) rfl tX7_layText_X7 (by decide) kX7_layText_54 rfl rfl ?_
      refine rr_bindP hf (fun p20 ep20 hf => ?_)
      obtain ⟨kp20, hf⟩ := rm_if hf
      have kp20 := rm_kc1 hN kp20
      refine rr_cVV hG (st := []) (n := 0) (ci := 1) (rf := 3) (rl := 72) [] dX7_layText_72 hf kp20 (by decide) rfl gX7_layText_X1_growTrees rfl (by decide +kernel) rfl ⟨by decide, by decide⟩ rfl (Nat.le_of_ble_eq_true rfl) (fun M9 h9 => mX1_growTrees hN ph _ _ _ kp20 h9) (fun M22 h21 hf => ?_)
      refine rr_aload_n hG dX7_layText_75 2 rfl rfl ?_
      refine rr_get hG 7 1 (v := .ref (ph 4)) dX7_layText_76 (rm_c hN rfl (by decide)) (by decide) rfl tX7_layText_X7 (by decide) kX7_layText_19 rfl rfl ?_
      refine rr_iconst hG (v := 0) dX7_layText_79 (by decide) ?_
      refine rr_putI hG 2 2 dX7_layText_80 (rm_c hN rfl (by decide)) (by decide) rfl tX7_layText_X2 tyX2_ok nmX2 (by decide) kX7_layText_103 rfl rfl rfl rfl rfl (Nat.le_of_ble_eq_true rfl) rfl ?_
      refine rr_bindM hf (fun M23 eM23 hf => ?_)
      refine rr_aload_n hG dX7_layText_83 2 rfl rfl ?_
      refine rr_get hG 7 2 (v := .ref (ph 6)) dX7_layText_84 (rm_c hN rfl (by decide)) (by decide) rfl tX7_layText_X7 (by decide) kX7_layText_26 rfl rfl ?_
      refine rr_aload_n hG dX7_layText_87 2 rfl rfl ?_
      refine rr_get hG 7 6 dX7_layText_88 (rm_c hN rfl (by decide)) (by decide) rfl tX7_layText_X7 (by decide) kX7_layText_54 rfl rfl ?_
      refine rr_bindP hf (fun p24 ep24 hf => ?_)
      obtain ⟨kp24, hf⟩ := rm_if hf
      have kp24 := rm_kc1 hN kp24
      refine rr_aload_n hG dX7_layText_91 2 rfl rfl ?_
      refine rr_get hG 7 7 dX7_layText_92 (rm_c hN rfl (by decide)) (by decide) rfl tX7_layText_X7 (by decide) kX7_layText_58 rfl rfl ?_
      refine rr_bindP hf (fun p25 ep25 hf => ?_)
      obtain ⟨kp25, hf⟩ := rm_if hf
      have kp25 := rm_kc4 hN kp25
      refine rr_cVV hG (st := []) (n := 2) (ci := 0) (rf := 0) (rl := 0) [.ref (ph p24), .ref (ph p25)] dX7_layText_95 hf (rm_c hN rfl (by decide)) (by decide) rfl gX7_layText_X0_reckon rfl (by decide +kernel) rfl ⟨by decide, by decide⟩ rfl (Nat.le_of_ble_eq_true rfl) (fun M9 h9 => mX0_reckon hN ph _ _ _ _ kp24 kp25 h9) (fun M27 h26 hf => ?_)
      refine rr_iconst hG (v := 1) dX7_layText_98 (by decide) ?_
      exact rr_zret hG hR dX7_layText_99 hf
    · refine rr_iconst hG (v := 0) dX7_layText_30 (by decide) ?_
      exact rr_zret hG hR dX7_layText_31 hf
/-! X7.lay -/
theorem tX7_lay_X1 : ∀ w ∈ u_ws RX1 TX1 12, w ∈ wsX7_lay := by decide +kernel
theorem tX7_lay_X7 : ∀ w ∈ u_ws RX7 TX7 10, w ∈ wsX7_lay := by decide +kernel
theorem kX7_lay_54 : Cond.fieldLink RX7 54 "RingPages" "net" "LRingPages$Net;" ∈ wsX7_lay := by decide +kernel
theorem kX7_lay_94 : Cond.fieldLink RX7 94 "RingPages$Net" "cells" "I" ∈ wsX7_lay := by decide +kernel
set_option maxHeartbeats 4000000 in
set_option maxRecDepth 100000 in
theorem mX7_lay {NC : Nat} (hN : 79 ≤ NC) (ph : Nat → Nat)  (M : rm_M) (rho : Int32 × rm_M)  (hf : fX7_lay M = some rho) : rm_CI yX7_lay wsX7_lay 6 140 [.ref (ph 0)] NC ph M rho := by
  refine rm_metI (cc := cX7_lay) (maxL := 1) (by decide +kernel) rfl rfl (Nat.le_of_ble_eq_true rfl) rfl (fun G hG hR => ?_)
  unfold fX7_lay at hf
  refine rr_aload_n hG dX7_lay_0 0 rfl rfl ?_
  refine rr_cVI hG (st := []) (n := 0) (ci := 7) (rf := 5) (rl := 118) [] dX7_lay_1 hf (rm_c hN rfl (by decide)) (by decide) rfl gX7_lay_X7_layText rfl (by decide +kernel) rfl ⟨by decide, by decide⟩ rfl (Nat.le_of_ble_eq_true rfl) (fun r9 M9 h9 => mX7_layText hN ph _ _ h9) (fun r2 M3 h1 hf => ?_)
  refine rr_if_eq hG (tgt := 17) dX7_lay_4 (by decide) hf (fun c4 hf => ?_) (fun c4 hf => ?_)
  · refine rr_bipush hG (v := (-2)) dX7_lay_17 (by decide) ?_
    exact rr_iret hG hR dX7_lay_19 hf
  · refine rr_aload_n hG dX7_lay_7 0 rfl rfl ?_
    refine rr_get hG 7 6 dX7_lay_8 (rm_c hN rfl (by decide)) (by decide) rfl tX7_lay_X7 (by decide) kX7_lay_54 rfl rfl ?_
    refine rr_bindP hf (fun p5 ep5 hf => ?_)
    obtain ⟨kp5, hf⟩ := rm_if hf
    have kp5 := rm_kc1 hN kp5
    refine rr_get hG 1 0 dX7_lay_11 kp5 (by decide) rfl tX7_lay_X1 (by decide) kX7_lay_94 rfl rfl ?_
    refine rr_goto hG (tgt := 19) dX7_lay_14 (by decide) ?_
    exact rr_iret hG hR dX7_lay_19 hf
/-! X7.isCell -/
theorem tX7_isCell_X1 : ∀ w ∈ u_ws RX1 TX1 12, w ∈ wsX7_isCell := by decide +kernel
theorem tX7_isCell_X7 : ∀ w ∈ u_ws RX7 TX7 10, w ∈ wsX7_isCell := by decide +kernel
theorem kX7_isCell_54 : Cond.fieldLink RX7 54 "RingPages" "net" "LRingPages$Net;" ∈ wsX7_isCell := by decide +kernel
theorem kX7_isCell_94 : Cond.fieldLink RX7 94 "RingPages$Net" "cells" "I" ∈ wsX7_isCell := by decide +kernel
set_option maxHeartbeats 4000000 in
set_option maxRecDepth 100000 in
theorem mX7_isCell {NC : Nat} (hN : 79 ≤ NC) (ph : Nat → Nat) (a1 : Int32) (M : rm_M) (rho : Int32 × rm_M)  (hf : fX7_isCell a1 M = some rho) : rm_CI yX7_isCell wsX7_isCell 0 0 [.ref (ph 0), .int a1] NC ph M rho := by
  refine rm_metI (cc := cX7_isCell) (maxL := 2) (by decide +kernel) rfl rfl (Nat.le_of_ble_eq_true rfl) rfl (fun G hG hR => ?_)
  unfold fX7_isCell at hf
  refine rr_iload_n hG dX7_isCell_0 1 rfl rfl ?_
  refine rr_if_lt hG (tgt := 19) dX7_isCell_1 (by decide) hf (fun c1 hf => ?_) (fun c1 hf => ?_)
  · refine rr_iconst hG (v := 0) dX7_isCell_19 (by decide) ?_
    exact rr_zret hG hR dX7_isCell_20 hf
  · refine rr_iload_n hG dX7_isCell_4 1 rfl rfl ?_
    refine rr_aload_n hG dX7_isCell_5 0 rfl rfl ?_
    refine rr_get hG 7 6 dX7_isCell_6 (rm_c hN rfl (by decide)) (by decide) rfl tX7_isCell_X7 (by decide) kX7_isCell_54 rfl rfl ?_
    refine rr_bindP hf (fun p2 ep2 hf => ?_)
    obtain ⟨kp2, hf⟩ := rm_if hf
    have kp2 := rm_kc1 hN kp2
    refine rr_get hG 1 0 dX7_isCell_9 kp2 (by decide) rfl tX7_isCell_X1 (by decide) kX7_isCell_94 rfl rfl ?_
    refine rr_icmp_ge hG (tgt := 19) dX7_isCell_12 (by decide) hf (fun c3 hf => ?_) (fun c3 hf => ?_)
    · refine rr_iconst hG (v := 0) dX7_isCell_19 (by decide) ?_
      exact rr_zret hG hR dX7_isCell_20 hf
    · refine rr_iconst hG (v := 1) dX7_isCell_15 (by decide) ?_
      refine rr_goto hG (tgt := 20) dX7_isCell_16 (by decide) ?_
      exact rr_zret hG hR dX7_isCell_20 hf
/-! X7.set -/
theorem tX7_set_X4 : ∀ w ∈ u_ws RX4 TX4 10, w ∈ wsX7_set := by decide +kernel
theorem tX7_set_X7 : ∀ w ∈ u_ws RX7 TX7 10, w ∈ wsX7_set := by decide +kernel
theorem kX7_set_58 : Cond.fieldLink RX7 58 "RingPages" "state" "LRingPages$State;" ∈ wsX7_set := by decide +kernel
theorem kX7_set_19 : Cond.fieldLink RX7 19 "RingPages" "past" "LRingPages$Past;" ∈ wsX7_set := by decide +kernel
theorem kX7_set_117 : Cond.fieldLink RX7 117 "RingPages$State" "area" "[I" ∈ wsX7_set := by decide +kernel
theorem kX7_set_113 : Cond.fieldLink RX7 113 "RingPages$State" "stay" "[I" ∈ wsX7_set := by decide +kernel
theorem kX7_set_26 : Cond.fieldLink RX7 26 "RingPages" "longRun" "LRingPages$LongRun;" ∈ wsX7_set := by decide +kernel
theorem kX7_set_54 : Cond.fieldLink RX7 54 "RingPages" "net" "LRingPages$Net;" ∈ wsX7_set := by decide +kernel
set_option maxHeartbeats 4000000 in
set_option maxRecDepth 100000 in
theorem wX7_set_L126 {G : rm_G} {NC : Nat} (hN : 79 ≤ NC) {ph : Nat → Nat} {rho : Int32 × rm_M} (a1 : Int32) (a2 : Int32) (a3 : Int32) (hG : rm_k G NC ph cX7_set RX7 wsX7_set 5 3 82) (hR : rm_rI G NC ph .int rho)    : ∀ (x4 : Int32) (M : rm_M), fX7_set_L126 a1 a2 a3 x4 M = some rho → rm_L G NC ph 5 126 [(0, .ref (ph 0)), (4, .int x4)] [] M := by
  intro x4 M hf
  unfold fX7_set_L126 at hf
  refine rr_aload_n hG dX7_set_126 0 rfl rfl ?_
  refine rr_get hG 7 7 dX7_set_127 (rm_c hN rfl (by decide)) (by decide) rfl tX7_set_X7 (by decide) kX7_set_58 rfl rfl ?_
  refine rr_bindP hf (fun p1 ep1 hf => ?_)
  obtain ⟨kp1, hf⟩ := rm_if hf
  have kp1 := rm_kc4 hN kp1
  refine rr_cVV hG (st := []) (n := 0) (ci := 4) (rf := 0) (rl := 0) [] dX7_set_130 hf kp1 (by decide) rfl gX7_set_X4_register rfl (by decide +kernel) rfl ⟨by decide, by decide⟩ rfl (Nat.le_of_ble_eq_true rfl) (fun M9 h9 => mX4_register hN ph _ _ _ kp1 h9) (fun M3 h2 hf => ?_)
  refine rr_iload hG dX7_set_133 1 rfl ?_
  exact rr_iret hG hR dX7_set_135 hf
set_option maxHeartbeats 4000000 in
set_option maxRecDepth 100000 in
theorem wX7_set_L62 {G : rm_G} {NC : Nat} (hN : 79 ≤ NC) {ph : Nat → Nat} {rho : Int32 × rm_M} (a1 : Int32) (a2 : Int32) (a3 : Int32) (hG : rm_k G NC ph cX7_set RX7 wsX7_set 5 3 82) (hR : rm_rI G NC ph .int rho)    : ∀ (s0 : Int32) (M : rm_M), fX7_set_L62 a1 a2 a3 s0 M = some rho → rm_L G NC ph 5 62 [(0, .ref (ph 0)), (1, .int a1), (2, .int a2), (3, .int a3)] [.int s0] M := by
  intro s0 M hf
  unfold fX7_set_L62 at hf
  refine rr_istore hG (lv2 := [(4, .int s0), (0, .ref (ph 0)), (1, .int a1), (2, .int a2), (3, .int a3)]) dX7_set_62 (by decide) rfl ?_
  refine rr_iload hG dX7_set_64 0 rfl ?_
  refine rr_iload_n hG dX7_set_66 4 rfl rfl ?_
  refine rr_icmp_ne hG (tgt := 73) dX7_set_67 (by decide) hf (fun c4 hf => ?_) (fun c4 hf => ?_)
  · refine rr_aload_n hG dX7_set_73 1 rfl rfl ?_
    refine rr_get hG 7 1 (v := .ref (ph 4)) dX7_set_74 (rm_c hN rfl (by decide)) (by decide) rfl tX7_set_X7 (by decide) kX7_set_19 rfl rfl ?_
    refine rr_aload_n hG dX7_set_77 1 rfl rfl ?_
    refine rr_get hG 7 7 dX7_set_78 (rm_c hN rfl (by decide)) (by decide) rfl tX7_set_X7 (by decide) kX7_set_58 rfl rfl ?_
    refine rr_bindP hf (fun p5 ep5 hf => ?_)
    obtain ⟨kp5, hf⟩ := rm_if hf
    have kp5 := rm_kc4 hN kp5
    refine rr_cVV hG (st := []) (n := 1) (ci := 2) (rf := 2) (rl := 61) [.ref (ph p5)] dX7_set_81 hf (rm_c hN rfl (by decide)) (by decide) rfl gX7_set_X2_keep rfl (by decide +kernel) rfl ⟨by decide, by decide⟩ rfl (Nat.le_of_ble_eq_true rfl) (fun M9 h9 => mX2_keep hN ph _ _ _ kp5 h9) (fun M7 h6 hf => ?_)
    refine rr_iload_n hG dX7_set_84 3 rfl rfl ?_
    refine rr_if_ne hG (tgt := 116) dX7_set_85 (by decide) hf (fun c8 hf => ?_) (fun c8 hf => ?_)
    · refine rr_aload_n hG dX7_set_116 1 rfl rfl ?_
      refine rr_get hG 7 7 dX7_set_117 (rm_c hN rfl (by decide)) (by decide) rfl tX7_set_X7 (by decide) kX7_set_58 rfl rfl ?_
      refine rr_bindP hf (fun p9 ep9 hf => ?_)
      obtain ⟨kp9, hf⟩ := rm_if hf
      have kp9 := rm_kc4 hN kp9
      refine rr_get hG 4 1 (v := .ref (ph (p9 + 2))) dX7_set_120 kp9 (by decide) rfl tX7_set_X4 (by decide) kX7_set_117 rfl rfl ?_
      refine rr_iload_n hG dX7_set_123 2 rfl rfl ?_
      refine rr_iload_n hG dX7_set_124 4 rfl rfl ?_
      refine rr_iast hG dX7_set_125 (rm_kX4_2 hN kp9) hf (fun b10 hf => ?_)
      refine rr_bindM hf (fun M11 eM11 hf => ?_)
      exact rr_sub (lv2 := [(0, .ref (ph 0)), (4, .int s0)]) [1, 0] rfl (wX7_set_L126 hN _ _ _ hG hR _ _ hf)
    · refine rr_aload_n hG dX7_set_88 1 rfl rfl ?_
      refine rr_get hG 7 7 dX7_set_89 (rm_c hN rfl (by decide)) (by decide) rfl tX7_set_X7 (by decide) kX7_set_58 rfl rfl ?_
      refine rr_bindP hf (fun p12 ep12 hf => ?_)
      obtain ⟨kp12, hf⟩ := rm_if hf
      have kp12 := rm_kc4 hN kp12
      refine rr_get hG 4 0 (v := .ref (ph (p12 + 1))) dX7_set_92 kp12 (by decide) rfl tX7_set_X4 (by decide) kX7_set_113 rfl rfl ?_
      refine rr_iload_n hG dX7_set_95 2 rfl rfl ?_
      refine rr_iload_n hG dX7_set_96 4 rfl rfl ?_
      refine rr_iast hG dX7_set_97 (rm_kX4_1 hN kp12) hf (fun b13 hf => ?_)
      refine rr_bindM hf (fun M14 eM14 hf => ?_)
      refine rr_aload_n hG dX7_set_98 1 rfl rfl ?_
      refine rr_get hG 7 2 (v := .ref (ph 6)) dX7_set_99 (rm_c hN rfl (by decide)) (by decide) rfl tX7_set_X7 (by decide) kX7_set_26 rfl rfl ?_
      refine rr_aload_n hG dX7_set_102 1 rfl rfl ?_
      refine rr_get hG 7 6 dX7_set_103 (rm_c hN rfl (by decide)) (by decide) rfl tX7_set_X7 (by decide) kX7_set_54 rfl rfl ?_
      refine rr_bindP hf (fun p15 ep15 hf => ?_)
      obtain ⟨kp15, hf⟩ := rm_if hf
      have kp15 := rm_kc1 hN kp15
      refine rr_aload_n hG dX7_set_106 1 rfl rfl ?_
      refine rr_get hG 7 7 dX7_set_107 (rm_c hN rfl (by decide)) (by decide) rfl tX7_set_X7 (by decide) kX7_set_58 rfl rfl ?_
      refine rr_bindP hf (fun p16 ep16 hf => ?_)
      obtain ⟨kp16, hf⟩ := rm_if hf
      have kp16 := rm_kc4 hN kp16
      refine rr_cVV hG (st := []) (n := 2) (ci := 0) (rf := 0) (rl := 0) [.ref (ph p15), .ref (ph p16)] dX7_set_110 hf (rm_c hN rfl (by decide)) (by decide) rfl gX7_set_X0_reckon rfl (by decide +kernel) rfl ⟨by decide, by decide⟩ rfl (Nat.le_of_ble_eq_true rfl) (fun M9 h9 => mX0_reckon hN ph _ _ _ _ kp15 kp16 h9) (fun M18 h17 hf => ?_)
      refine rr_goto hG (tgt := 126) dX7_set_113 (by decide) ?_
      exact rr_sub (lv2 := [(0, .ref (ph 0)), (4, .int s0)]) [1, 0] rfl (wX7_set_L126 hN _ _ _ hG hR _ _ hf)
  · refine rr_bipush hG (v := (-2)) dX7_set_70 (by decide) ?_
    exact rr_iret hG hR dX7_set_72 hf
set_option maxHeartbeats 4000000 in
set_option maxRecDepth 100000 in
theorem wX7_set_L32 {G : rm_G} {NC : Nat} (hN : 79 ≤ NC) {ph : Nat → Nat} {rho : Int32 × rm_M} (a1 : Int32) (a2 : Int32) (a3 : Int32) (hG : rm_k G NC ph cX7_set RX7 wsX7_set 5 3 82) (hR : rm_rI G NC ph .int rho)    : ∀ (s1 : Int32) (M : rm_M), fX7_set_L32 a1 a2 a3 s1 M = some rho → rm_L G NC ph 5 32 [(0, .ref (ph 0)), (1, .int a1), (2, .int a2), (3, .int a3)] [.int s1, .int a3] M := by
  intro s1 M hf
  unfold fX7_set_L32 at hf
  refine rr_icmp_le hG (tgt := 37) dX7_set_32 (by decide) hf (fun c19 hf => ?_) (fun c19 hf => ?_)
  · refine rr_iload_n hG dX7_set_37 2 rfl rfl ?_
    refine rr_if_ne hG (tgt := 53) dX7_set_38 (by decide) hf (fun c20 hf => ?_) (fun c20 hf => ?_)
    · refine rr_aload_n hG dX7_set_53 0 rfl rfl ?_
      refine rr_get hG 7 7 dX7_set_54 (rm_c hN rfl (by decide)) (by decide) rfl tX7_set_X7 (by decide) kX7_set_58 rfl rfl ?_
      refine rr_bindP hf (fun p21 ep21 hf => ?_)
      obtain ⟨kp21, hf⟩ := rm_if hf
      have kp21 := rm_kc4 hN kp21
      refine rr_get hG 4 1 (v := .ref (ph (p21 + 2))) dX7_set_57 kp21 (by decide) rfl tX7_set_X4 (by decide) kX7_set_117 rfl rfl ?_
      refine rr_iload_n hG dX7_set_60 1 rfl rfl ?_
      refine rr_iald hG dX7_set_61 (rm_kX4_2 hN kp21) hf (fun b22 hf => ?_)
      exact rr_sub (lv2 := [(0, .ref (ph 0)), (1, .int a1), (2, .int a2), (3, .int a3)]) [0, 1, 2, 3] rfl (wX7_set_L62 hN _ _ _ hG hR _ _ hf)
    · refine rr_aload_n hG dX7_set_41 0 rfl rfl ?_
      refine rr_get hG 7 7 dX7_set_42 (rm_c hN rfl (by decide)) (by decide) rfl tX7_set_X7 (by decide) kX7_set_58 rfl rfl ?_
      refine rr_bindP hf (fun p23 ep23 hf => ?_)
      obtain ⟨kp23, hf⟩ := rm_if hf
      have kp23 := rm_kc4 hN kp23
      refine rr_get hG 4 0 (v := .ref (ph (p23 + 1))) dX7_set_45 kp23 (by decide) rfl tX7_set_X4 (by decide) kX7_set_113 rfl rfl ?_
      refine rr_iload_n hG dX7_set_48 1 rfl rfl ?_
      refine rr_iald hG dX7_set_49 (rm_kX4_1 hN kp23) hf (fun b24 hf => ?_)
      refine rr_goto hG (tgt := 62) dX7_set_50 (by decide) ?_
      exact rr_sub (lv2 := [(0, .ref (ph 0)), (1, .int a1), (2, .int a2), (3, .int a3)]) [0, 1, 2, 3] rfl (wX7_set_L62 hN _ _ _ hG hR _ _ hf)
  · refine rr_iconst hG (v := (-1)) dX7_set_35 (by decide) ?_
    exact rr_iret hG hR dX7_set_36 hf
set_option maxHeartbeats 4000000 in
set_option maxRecDepth 100000 in
theorem mX7_set {NC : Nat} (hN : 79 ≤ NC) (ph : Nat → Nat) (a1 : Int32) (a2 : Int32) (a3 : Int32) (M : rm_M) (rho : Int32 × rm_M)  (hf : fX7_set a1 a2 a3 M = some rho) : rm_CI yX7_set wsX7_set 3 82 [.ref (ph 0), .int a1, .int a2, .int a3] NC ph M rho := by
  refine rm_metI (cc := cX7_set) (maxL := 5) (by decide +kernel) rfl rfl (Nat.le_of_ble_eq_true rfl) rfl (fun G hG hR => ?_)
  unfold fX7_set at hf
  refine rr_aload_n hG dX7_set_0 0 rfl rfl ?_
  refine rr_iload_n hG dX7_set_1 1 rfl rfl ?_
  refine rr_cVI hG (st := []) (n := 1) (ci := 7) (rf := 0) (rl := 0) [.int a1] dX7_set_2 hf (rm_c hN rfl (by decide)) (by decide) rfl gX7_set_X7_isCell rfl (by decide +kernel) rfl ⟨by decide, by decide⟩ rfl (Nat.le_of_ble_eq_true rfl) (fun r9 M9 h9 => mX7_isCell hN ph _ _ _ h9) (fun r26 M27 h25 hf => ?_)
  refine rr_if_eq hG (tgt := 35) dX7_set_5 (by decide) hf (fun c28 hf => ?_) (fun c28 hf => ?_)
  · refine rr_iconst hG (v := (-1)) dX7_set_35 (by decide) ?_
    exact rr_iret hG hR dX7_set_36 hf
  · refine rr_iload_n hG dX7_set_8 2 rfl rfl ?_
    refine rr_if_lt hG (tgt := 35) dX7_set_9 (by decide) hf (fun c29 hf => ?_) (fun c29 hf => ?_)
    · refine rr_iconst hG (v := (-1)) dX7_set_35 (by decide) ?_
      exact rr_iret hG hR dX7_set_36 hf
    · refine rr_iload_n hG dX7_set_12 2 rfl rfl ?_
      refine rr_iconst hG (v := 1) dX7_set_13 (by decide) ?_
      refine rr_icmp_gt hG (tgt := 35) dX7_set_14 (by decide) hf (fun c30 hf => ?_) (fun c30 hf => ?_)
      · refine rr_iconst hG (v := (-1)) dX7_set_35 (by decide) ?_
        exact rr_iret hG hR dX7_set_36 hf
      · refine rr_iload_n hG dX7_set_17 3 rfl rfl ?_
        refine rr_if_lt hG (tgt := 35) dX7_set_18 (by decide) hf (fun c31 hf => ?_) (fun c31 hf => ?_)
        · refine rr_iconst hG (v := (-1)) dX7_set_35 (by decide) ?_
          exact rr_iret hG hR dX7_set_36 hf
        · refine rr_iload_n hG dX7_set_21 3 rfl rfl ?_
          refine rr_iload_n hG dX7_set_22 2 rfl rfl ?_
          refine rr_if_ne hG (tgt := 31) dX7_set_23 (by decide) hf (fun c32 hf => ?_) (fun c32 hf => ?_)
          · refine rr_iconst hG (v := 5) dX7_set_31 (by decide) ?_
            exact rr_sub (lv2 := [(0, .ref (ph 0)), (1, .int a1), (2, .int a2), (3, .int a3)]) [0, 1, 2, 3] rfl (wX7_set_L32 hN _ _ _ hG hR _ _ hf)
          · refine rr_bipush hG (v := 9) dX7_set_26 (by decide) ?_
            refine rr_goto hG (tgt := 32) dX7_set_28 (by decide) ?_
            exact rr_sub (lv2 := [(0, .ref (ph 0)), (1, .int a1), (2, .int a2), (3, .int a3)]) [0, 1, 2, 3] rfl (wX7_set_L32 hN _ _ _ hG hR _ _ hf)
/-! X7.law -/
theorem tX7_law_X4 : ∀ w ∈ u_ws RX4 TX4 10, w ∈ wsX7_law := by decide +kernel
theorem tX7_law_X7 : ∀ w ∈ u_ws RX7 TX7 10, w ∈ wsX7_law := by decide +kernel
theorem kX7_law_58 : Cond.fieldLink RX7 58 "RingPages" "state" "LRingPages$State;" ∈ wsX7_law := by decide +kernel
theorem kX7_law_131 : Cond.fieldLink RX7 131 "RingPages$State" "kind" "I" ∈ wsX7_law := by decide +kernel
theorem kX7_law_134 : Cond.fieldLink RX7 134 "RingPages$State" "value" "I" ∈ wsX7_law := by decide +kernel
theorem kX7_law_19 : Cond.fieldLink RX7 19 "RingPages" "past" "LRingPages$Past;" ∈ wsX7_law := by decide +kernel
set_option maxHeartbeats 4000000 in
set_option maxRecDepth 100000 in
theorem wX7_law_L35 {G : rm_G} {NC : Nat} (hN : 79 ≤ NC) {ph : Nat → Nat} {rho : Int32 × rm_M} (a1 : Int32) (a2 : Int32) (hG : rm_k G NC ph cX7_law RX7 wsX7_law 4 3 82) (hR : rm_rI G NC ph .int rho)    : ∀  (M : rm_M), fX7_law_L35 a1 a2 M = some rho → rm_L G NC ph 4 35 [(0, .ref (ph 0)), (1, .int a1), (2, .int a2)] [] M := by
  intro M hf
  unfold fX7_law_L35 at hf
  refine rr_bipush hG (v := 10) dX7_law_35 (by decide) ?_
  refine rr_aload_n hG dX7_law_37 0 rfl rfl ?_
  refine rr_get hG 7 7 dX7_law_38 (rm_c hN rfl (by decide)) (by decide) rfl tX7_law_X7 (by decide) kX7_law_58 rfl rfl ?_
  refine rr_bindP hf (fun p1 ep1 hf => ?_)
  obtain ⟨kp1, hf⟩ := rm_if hf
  have kp1 := rm_kc4 hN kp1
  refine rr_get hG 4 2 dX7_law_41 kp1 (by decide) rfl tX7_law_X4 (by decide) kX7_law_131 rfl rfl ?_
  refine rr_imul hG dX7_law_44 ?_
  refine rr_aload_n hG dX7_law_45 0 rfl rfl ?_
  refine rr_get hG 7 7 dX7_law_46 (rm_c hN rfl (by decide)) (by decide) rfl tX7_law_X7 (by decide) kX7_law_58 rfl rfl ?_
  refine rr_bindP hf (fun p2 ep2 hf => ?_)
  obtain ⟨kp2, hf⟩ := rm_if hf
  have kp2 := rm_kc4 hN kp2
  refine rr_get hG 4 3 dX7_law_49 kp2 (by decide) rfl tX7_law_X4 (by decide) kX7_law_134 rfl rfl ?_
  refine rr_iadd hG dX7_law_52 ?_
  refine rr_bindI hf (fun v3 ev3 hf => ?_)
  refine rr_istore_n hG (lv2 := [(3, .int v3), (0, .ref (ph 0)), (1, .int a1), (2, .int a2)]) dX7_law_53 rfl (by decide) rfl ?_
  refine rr_aload_n hG dX7_law_54 1 rfl rfl ?_
  refine rr_get hG 7 1 (v := .ref (ph 4)) dX7_law_55 (rm_c hN rfl (by decide)) (by decide) rfl tX7_law_X7 (by decide) kX7_law_19 rfl rfl ?_
  refine rr_aload_n hG dX7_law_58 1 rfl rfl ?_
  refine rr_get hG 7 7 dX7_law_59 (rm_c hN rfl (by decide)) (by decide) rfl tX7_law_X7 (by decide) kX7_law_58 rfl rfl ?_
  refine rr_bindP hf (fun p4 ep4 hf => ?_)
  obtain ⟨kp4, hf⟩ := rm_if hf
  have kp4 := rm_kc4 hN kp4
  refine rr_cVV hG (st := []) (n := 1) (ci := 2) (rf := 2) (rl := 61) [.ref (ph p4)] dX7_law_62 hf (rm_c hN rfl (by decide)) (by decide) rfl gX7_law_X2_keep rfl (by decide +kernel) rfl ⟨by decide, by decide⟩ rfl (Nat.le_of_ble_eq_true rfl) (fun M9 h9 => mX2_keep hN ph _ _ _ kp4 h9) (fun M6 h5 hf => ?_)
  refine rr_aload_n hG dX7_law_65 1 rfl rfl ?_
  refine rr_get hG 7 7 dX7_law_66 (rm_c hN rfl (by decide)) (by decide) rfl tX7_law_X7 (by decide) kX7_law_58 rfl rfl ?_
  refine rr_bindP hf (fun p7 ep7 hf => ?_)
  obtain ⟨kp7, hf⟩ := rm_if hf
  have kp7 := rm_kc4 hN kp7
  refine rr_iload_n hG dX7_law_69 2 rfl rfl ?_
  refine rr_putI hG 4 2 dX7_law_70 kp7 (by decide) rfl tX7_law_X4 tyX4_ok nmX4 (by decide) kX7_law_131 rfl rfl rfl rfl rfl (Nat.le_of_ble_eq_true rfl) rfl ?_
  refine rr_bindM hf (fun M8 eM8 hf => ?_)
  refine rr_aload_n hG dX7_law_73 1 rfl rfl ?_
  refine rr_get hG 7 7 dX7_law_74 (rm_c hN rfl (by decide)) (by decide) rfl tX7_law_X7 (by decide) kX7_law_58 rfl rfl ?_
  refine rr_bindP hf (fun p9 ep9 hf => ?_)
  obtain ⟨kp9, hf⟩ := rm_if hf
  have kp9 := rm_kc4 hN kp9
  refine rr_iload_n hG dX7_law_77 3 rfl rfl ?_
  refine rr_putI hG 4 3 dX7_law_78 kp9 (by decide) rfl tX7_law_X4 tyX4_ok nmX4 (by decide) kX7_law_134 rfl rfl rfl rfl rfl (Nat.le_of_ble_eq_true rfl) rfl ?_
  refine rr_bindM hf (fun M10 eM10 hf => ?_)
  refine rr_aload_n hG dX7_law_81 1 rfl rfl ?_
  refine rr_get hG 7 7 dX7_law_82 (rm_c hN rfl (by decide)) (by decide) rfl tX7_law_X7 (by decide) kX7_law_58 rfl rfl ?_
  refine rr_bindP hf (fun p11 ep11 hf => ?_)
  obtain ⟨kp11, hf⟩ := rm_if hf
  have kp11 := rm_kc4 hN kp11
  refine rr_cVV hG (st := []) (n := 0) (ci := 4) (rf := 0) (rl := 0) [] dX7_law_85 hf kp11 (by decide) rfl gX7_law_X4_register rfl (by decide +kernel) rfl ⟨by decide, by decide⟩ rfl (Nat.le_of_ble_eq_true rfl) (fun M9 h9 => mX4_register hN ph _ _ _ kp11 h9) (fun M13 h12 hf => ?_)
  refine rr_iload_n hG dX7_law_88 0 rfl rfl ?_
  exact rr_iret hG hR dX7_law_89 hf
set_option maxHeartbeats 4000000 in
set_option maxRecDepth 100000 in
theorem mX7_law {NC : Nat} (hN : 79 ≤ NC) (ph : Nat → Nat) (a1 : Int32) (a2 : Int32) (M : rm_M) (rho : Int32 × rm_M)  (hf : fX7_law a1 a2 M = some rho) : rm_CI yX7_law wsX7_law 3 82 [.ref (ph 0), .int a1, .int a2] NC ph M rho := by
  refine rm_metI (cc := cX7_law) (maxL := 4) (by decide +kernel) rfl rfl (Nat.le_of_ble_eq_true rfl) rfl (fun G hG hR => ?_)
  unfold fX7_law at hf
  refine rr_iload_n hG dX7_law_0 1 rfl rfl ?_
  refine rr_iload_n hG dX7_law_1 2 rfl rfl ?_
  refine rr_cSI hG (st := []) (n := 2) (rf := 0) (rl := 0) [.int a1, .int a2] dX7_law_2 hf gX7_law_X7_isLaw rfl (by decide +kernel) rfl ⟨by decide, by decide⟩ rfl (Nat.le_of_ble_eq_true rfl) (fun r9 M9 h9 => mX7_isLaw hN ph _ _ _ _ h9) (fun r15 M16 h14 hf => ?_)
  refine rr_if_ne hG (tgt := 10) dX7_law_5 (by decide) hf (fun c17 hf => ?_) (fun c17 hf => ?_)
  · refine rr_aload_n hG dX7_law_10 0 rfl rfl ?_
    refine rr_get hG 7 7 dX7_law_11 (rm_c hN rfl (by decide)) (by decide) rfl tX7_law_X7 (by decide) kX7_law_58 rfl rfl ?_
    refine rr_bindP hf (fun p18 ep18 hf => ?_)
    obtain ⟨kp18, hf⟩ := rm_if hf
    have kp18 := rm_kc4 hN kp18
    refine rr_get hG 4 2 dX7_law_14 kp18 (by decide) rfl tX7_law_X4 (by decide) kX7_law_131 rfl rfl ?_
    refine rr_iload_n hG dX7_law_17 1 rfl rfl ?_
    refine rr_icmp_ne hG (tgt := 35) dX7_law_18 (by decide) hf (fun c19 hf => ?_) (fun c19 hf => ?_)
    · exact rr_sub (lv2 := [(0, .ref (ph 0)), (1, .int a1), (2, .int a2)]) [0, 1, 2] rfl (wX7_law_L35 hN _ _ hG hR _ hf)
    · refine rr_aload_n hG dX7_law_21 0 rfl rfl ?_
      refine rr_get hG 7 7 dX7_law_22 (rm_c hN rfl (by decide)) (by decide) rfl tX7_law_X7 (by decide) kX7_law_58 rfl rfl ?_
      refine rr_bindP hf (fun p20 ep20 hf => ?_)
      obtain ⟨kp20, hf⟩ := rm_if hf
      have kp20 := rm_kc4 hN kp20
      refine rr_get hG 4 3 dX7_law_25 kp20 (by decide) rfl tX7_law_X4 (by decide) kX7_law_134 rfl rfl ?_
      refine rr_iload_n hG dX7_law_28 2 rfl rfl ?_
      refine rr_icmp_ne hG (tgt := 35) dX7_law_29 (by decide) hf (fun c21 hf => ?_) (fun c21 hf => ?_)
      · exact rr_sub (lv2 := [(0, .ref (ph 0)), (1, .int a1), (2, .int a2)]) [0, 1, 2] rfl (wX7_law_L35 hN _ _ hG hR _ hf)
      · refine rr_bipush hG (v := (-2)) dX7_law_32 (by decide) ?_
        exact rr_iret hG hR dX7_law_34 hf
  · refine rr_iconst hG (v := (-1)) dX7_law_8 (by decide) ?_
    exact rr_iret hG hR dX7_law_9 hf
/-! X7.give -/
theorem tX7_give_X0 : ∀ w ∈ u_ws RX0 TX0 6, w ∈ wsX7_give := by decide +kernel
theorem tX7_give_X1 : ∀ w ∈ u_ws RX1 TX1 12, w ∈ wsX7_give := by decide +kernel
theorem tX7_give_X4 : ∀ w ∈ u_ws RX4 TX4 10, w ∈ wsX7_give := by decide +kernel
theorem tX7_give_X7 : ∀ w ∈ u_ws RX7 TX7 10, w ∈ wsX7_give := by decide +kernel
theorem kX7_give_58 : Cond.fieldLink RX7 58 "RingPages" "state" "LRingPages$State;" ∈ wsX7_give := by decide +kernel
theorem kX7_give_117 : Cond.fieldLink RX7 117 "RingPages$State" "area" "[I" ∈ wsX7_give := by decide +kernel
theorem kX7_give_26 : Cond.fieldLink RX7 26 "RingPages" "longRun" "LRingPages$LongRun;" ∈ wsX7_give := by decide +kernel
theorem kX7_give_141 : Cond.fieldLink RX7 141 "RingPages$LongRun" "best" "[I" ∈ wsX7_give := by decide +kernel
theorem kX7_give_54 : Cond.fieldLink RX7 54 "RingPages" "net" "LRingPages$Net;" ∈ wsX7_give := by decide +kernel
theorem kX7_give_94 : Cond.fieldLink RX7 94 "RingPages$Net" "cells" "I" ∈ wsX7_give := by decide +kernel
theorem kX7_give_19 : Cond.fieldLink RX7 19 "RingPages" "past" "LRingPages$Past;" ∈ wsX7_give := by decide +kernel
set_option maxHeartbeats 4000000 in
set_option maxRecDepth 100000 in
theorem wX7_give_L61 {G : rm_G} {NC : Nat} (hN : 79 ≤ NC) {ph : Nat → Nat} {rho : Int32 × rm_M}  (hG : rm_k G NC ph cX7_give RX7 wsX7_give 3 4 90) (hR : rm_rI G NC ph .int rho)  (q26 : Int32 → Int32 → rm_M → Option (Int32 × rm_M)) (hq26 : ∀ (x1 : Int32) (x2 : Int32) (M : rm_M), q26 x1 x2 M = some rho → rm_L G NC ph 3 26 [(0, .ref (ph 0)), (1, .int x1), (2, .int x2)] [] M) : ∀ (x1 : Int32) (x2 : Int32) (M : rm_M), fX7_give_L61 q26 x1 x2 M = some rho → rm_L G NC ph 3 61 [(0, .ref (ph 0)), (1, .int x1), (2, .int x2)] [] M := by
  intro x1 x2 M hf
  unfold fX7_give_L61 at hf
  refine rr_aload_n hG dX7_give_61 0 rfl rfl ?_
  refine rr_get hG 7 7 dX7_give_62 (rm_c hN rfl (by decide)) (by decide) rfl tX7_give_X7 (by decide) kX7_give_58 rfl rfl ?_
  refine rr_bindP hf (fun p1 ep1 hf => ?_)
  obtain ⟨kp1, hf⟩ := rm_if hf
  have kp1 := rm_kc4 hN kp1
  refine rr_get hG 4 1 (v := .ref (ph (p1 + 2))) dX7_give_65 kp1 (by decide) rfl tX7_give_X4 (by decide) kX7_give_117 rfl rfl ?_
  refine rr_iload_n hG dX7_give_68 2 rfl rfl ?_
  refine rr_aload_n hG dX7_give_69 0 rfl rfl ?_
  refine rr_get hG 7 2 (v := .ref (ph 6)) dX7_give_70 (rm_c hN rfl (by decide)) (by decide) rfl tX7_give_X7 (by decide) kX7_give_26 rfl rfl ?_
  refine rr_get hG 0 2 (v := .ref (ph 8)) dX7_give_73 (rm_c hN rfl (by decide)) (by decide) rfl tX7_give_X0 (by decide) kX7_give_141 rfl rfl ?_
  refine rr_iload_n hG dX7_give_76 2 rfl rfl ?_
  refine rr_iald hG dX7_give_77 (rm_c hN rfl (by decide)) hf (fun b2 hf => ?_)
  refine rr_iast hG dX7_give_78 (rm_kX4_2 hN kp1) hf (fun b3 hf => ?_)
  refine rr_bindM hf (fun M4 eM4 hf => ?_)
  refine rr_iinc hG (v := x2 + (1 : Int32)) (lv2 := [(2, .int (x2 + (1 : Int32))), (0, .ref (ph 0)), (1, .int x1)]) (k := 2) dX7_give_79 rfl rfl (by decide) rfl ?_
  refine rr_goto hG (tgt := 26) dX7_give_82 (by decide) ?_
  exact rr_sub (lv2 := [(0, .ref (ph 0)), (1, .int x1), (2, .int (x2 + (1 : Int32)))]) [1, 2, 0] rfl (hq26 _ _ _ hf)
set_option maxHeartbeats 4000000 in
set_option maxRecDepth 100000 in
theorem wX7_give_L26 {G : rm_G} {NC : Nat} (hN : 79 ≤ NC) {ph : Nat → Nat} {rho : Int32 × rm_M}  (hG : rm_k G NC ph cX7_give RX7 wsX7_give 3 4 90) (hR : rm_rI G NC ph .int rho)    : ∀ (n : Nat) (x1 : Int32) (x2 : Int32) (M : rm_M), fX7_give_L26 n x1 x2 M = some rho → rm_L G NC ph 3 26 [(0, .ref (ph 0)), (1, .int x1), (2, .int x2)] [] M := by
  intro n
  induction n with
  | zero => intro x1 x2 M hf; rw [fX7_give_L26] at hf; cases hf
  | succ n ih =>
    intro x1 x2 M hf
    rw [fX7_give_L26] at hf
    refine rr_iload_n hG dX7_give_26 2 rfl rfl ?_
    refine rr_aload_n hG dX7_give_27 0 rfl rfl ?_
    refine rr_get hG 7 6 dX7_give_28 (rm_c hN rfl (by decide)) (by decide) rfl tX7_give_X7 (by decide) kX7_give_54 rfl rfl ?_
    refine rr_bindP hf (fun p5 ep5 hf => ?_)
    obtain ⟨kp5, hf⟩ := rm_if hf
    have kp5 := rm_kc1 hN kp5
    refine rr_get hG 1 0 dX7_give_31 kp5 (by decide) rfl tX7_give_X1 (by decide) kX7_give_94 rfl rfl ?_
    refine rr_icmp_ge hG (tgt := 85) dX7_give_34 (by decide) hf (fun c6 hf => ?_) (fun c6 hf => ?_)
    · refine rr_aload_n hG dX7_give_85 0 rfl rfl ?_
      refine rr_get hG 7 7 dX7_give_86 (rm_c hN rfl (by decide)) (by decide) rfl tX7_give_X7 (by decide) kX7_give_58 rfl rfl ?_
      refine rr_bindP hf (fun p7 ep7 hf => ?_)
      obtain ⟨kp7, hf⟩ := rm_if hf
      have kp7 := rm_kc4 hN kp7
      refine rr_cVV hG (st := []) (n := 0) (ci := 4) (rf := 0) (rl := 0) [] dX7_give_89 hf kp7 (by decide) rfl gX7_give_X4_register rfl (by decide +kernel) rfl ⟨by decide, by decide⟩ rfl (Nat.le_of_ble_eq_true rfl) (fun M9 h9 => mX4_register hN ph _ _ _ kp7 h9) (fun M9 h8 hf => ?_)
      refine rr_iload_n hG dX7_give_92 1 rfl rfl ?_
      exact rr_iret hG hR dX7_give_93 hf
    · refine rr_aload_n hG dX7_give_37 0 rfl rfl ?_
      refine rr_get hG 7 7 dX7_give_38 (rm_c hN rfl (by decide)) (by decide) rfl tX7_give_X7 (by decide) kX7_give_58 rfl rfl ?_
      refine rr_bindP hf (fun p10 ep10 hf => ?_)
      obtain ⟨kp10, hf⟩ := rm_if hf
      have kp10 := rm_kc4 hN kp10
      refine rr_get hG 4 1 (v := .ref (ph (p10 + 2))) dX7_give_41 kp10 (by decide) rfl tX7_give_X4 (by decide) kX7_give_117 rfl rfl ?_
      refine rr_iload_n hG dX7_give_44 2 rfl rfl ?_
      refine rr_iald hG dX7_give_45 (rm_kX4_2 hN kp10) hf (fun b11 hf => ?_)
      refine rr_aload_n hG dX7_give_46 0 rfl rfl ?_
      refine rr_get hG 7 2 (v := .ref (ph 6)) dX7_give_47 (rm_c hN rfl (by decide)) (by decide) rfl tX7_give_X7 (by decide) kX7_give_26 rfl rfl ?_
      refine rr_get hG 0 2 (v := .ref (ph 8)) dX7_give_50 (rm_c hN rfl (by decide)) (by decide) rfl tX7_give_X0 (by decide) kX7_give_141 rfl rfl ?_
      refine rr_iload_n hG dX7_give_53 2 rfl rfl ?_
      refine rr_iald hG dX7_give_54 (rm_c hN rfl (by decide)) hf (fun b12 hf => ?_)
      refine rr_icmp_eq hG (tgt := 61) dX7_give_55 (by decide) hf (fun c13 hf => ?_) (fun c13 hf => ?_)
      · exact rr_sub (lv2 := [(0, .ref (ph 0)), (1, .int x1), (2, .int x2)]) [0, 1, 2] rfl (wX7_give_L61 hN hG hR _ (ih) _ _ _ hf)
      · refine rr_iinc hG (v := x1 + (1 : Int32)) (lv2 := [(1, .int (x1 + (1 : Int32))), (0, .ref (ph 0)), (2, .int x2)]) (k := 1) dX7_give_58 rfl rfl (by decide) rfl ?_
        exact rr_sub (lv2 := [(0, .ref (ph 0)), (1, .int (x1 + (1 : Int32))), (2, .int x2)]) [1, 0, 2] rfl (wX7_give_L61 hN hG hR _ (ih) _ _ _ hf)
set_option maxHeartbeats 4000000 in
set_option maxRecDepth 100000 in
theorem mX7_give {NC : Nat} (hN : 79 ≤ NC) (ph : Nat → Nat)  (M : rm_M) (rho : Int32 × rm_M)  (hf : fX7_give M = some rho) : rm_CI yX7_give wsX7_give 4 90 [.ref (ph 0)] NC ph M rho := by
  refine rm_metI (cc := cX7_give) (maxL := 3) (by decide +kernel) rfl rfl (Nat.le_of_ble_eq_true rfl) rfl (fun G hG hR => ?_)
  unfold fX7_give at hf
  refine rr_aload_n hG dX7_give_0 0 rfl rfl ?_
  refine rr_get hG 7 2 (v := .ref (ph 6)) dX7_give_1 (rm_c hN rfl (by decide)) (by decide) rfl tX7_give_X7 (by decide) kX7_give_26 rfl rfl ?_
  refine rr_aload_n hG dX7_give_4 0 rfl rfl ?_
  refine rr_get hG 7 6 dX7_give_5 (rm_c hN rfl (by decide)) (by decide) rfl tX7_give_X7 (by decide) kX7_give_54 rfl rfl ?_
  refine rr_bindP hf (fun p14 ep14 hf => ?_)
  obtain ⟨kp14, hf⟩ := rm_if hf
  have kp14 := rm_kc1 hN kp14
  refine rr_cVV hG (st := []) (n := 1) (ci := 0) (rf := 3) (rl := 66) [.ref (ph p14)] dX7_give_8 hf (rm_c hN rfl (by decide)) (by decide) rfl gX7_give_X0_findBest rfl (by decide +kernel) rfl ⟨by decide, by decide⟩ rfl (Nat.le_of_ble_eq_true rfl) (fun M9 h9 => mX0_findBest hN ph _ _ _ kp14 h9) (fun M16 h15 hf => ?_)
  refine rr_aload_n hG dX7_give_11 0 rfl rfl ?_
  refine rr_get hG 7 1 (v := .ref (ph 4)) dX7_give_12 (rm_c hN rfl (by decide)) (by decide) rfl tX7_give_X7 (by decide) kX7_give_19 rfl rfl ?_
  refine rr_aload_n hG dX7_give_15 0 rfl rfl ?_
  refine rr_get hG 7 7 dX7_give_16 (rm_c hN rfl (by decide)) (by decide) rfl tX7_give_X7 (by decide) kX7_give_58 rfl rfl ?_
  refine rr_bindP hf (fun p17 ep17 hf => ?_)
  obtain ⟨kp17, hf⟩ := rm_if hf
  have kp17 := rm_kc4 hN kp17
  refine rr_cVV hG (st := []) (n := 1) (ci := 2) (rf := 2) (rl := 61) [.ref (ph p17)] dX7_give_19 hf (rm_c hN rfl (by decide)) (by decide) rfl gX7_give_X2_keep rfl (by decide +kernel) rfl ⟨by decide, by decide⟩ rfl (Nat.le_of_ble_eq_true rfl) (fun M9 h9 => mX2_keep hN ph _ _ _ kp17 h9) (fun M19 h18 hf => ?_)
  refine rr_iconst hG (v := 0) dX7_give_22 (by decide) ?_
  refine rr_istore_n hG (lv2 := [(1, .int (0 : Int32)), (0, .ref (ph 0))]) dX7_give_23 rfl (by decide) rfl ?_
  refine rr_iconst hG (v := 0) dX7_give_24 (by decide) ?_
  refine rr_istore_n hG (lv2 := [(2, .int (0 : Int32)), (1, .int (0 : Int32)), (0, .ref (ph 0))]) dX7_give_25 rfl (by decide) rfl ?_
  exact rr_sub (lv2 := [(0, .ref (ph 0)), (1, .int (0 : Int32)), (2, .int (0 : Int32))]) [2, 1, 0] rfl (wX7_give_L26 hN hG hR _ _ _ _ hf)
/-! X7.undo -/
theorem tX7_undo_X2 : ∀ w ∈ u_ws RX2 TX2 3, w ∈ wsX7_undo := by decide +kernel
theorem tX7_undo_X7 : ∀ w ∈ u_ws RX7 TX7 10, w ∈ wsX7_undo := by decide +kernel
theorem kX7_undo_19 : Cond.fieldLink RX7 19 "RingPages" "past" "LRingPages$Past;" ∈ wsX7_undo := by decide +kernel
theorem kX7_undo_58 : Cond.fieldLink RX7 58 "RingPages" "state" "LRingPages$State;" ∈ wsX7_undo := by decide +kernel
theorem kX7_undo_26 : Cond.fieldLink RX7 26 "RingPages" "longRun" "LRingPages$LongRun;" ∈ wsX7_undo := by decide +kernel
theorem kX7_undo_54 : Cond.fieldLink RX7 54 "RingPages" "net" "LRingPages$Net;" ∈ wsX7_undo := by decide +kernel
theorem kX7_undo_103 : Cond.fieldLink RX7 103 "RingPages$Past" "held" "I" ∈ wsX7_undo := by decide +kernel
set_option maxHeartbeats 4000000 in
set_option maxRecDepth 100000 in
theorem mX7_undo {NC : Nat} (hN : 79 ≤ NC) (ph : Nat → Nat)  (M : rm_M) (rho : Int32 × rm_M)  (hf : fX7_undo M = some rho) : rm_CI yX7_undo wsX7_undo 3 82 [.ref (ph 0)] NC ph M rho := by
  refine rm_metI (cc := cX7_undo) (maxL := 1) (by decide +kernel) rfl rfl (Nat.le_of_ble_eq_true rfl) rfl (fun G hG hR => ?_)
  unfold fX7_undo at hf
  refine rr_aload_n hG dX7_undo_0 0 rfl rfl ?_
  refine rr_get hG 7 1 (v := .ref (ph 4)) dX7_undo_1 (rm_c hN rfl (by decide)) (by decide) rfl tX7_undo_X7 (by decide) kX7_undo_19 rfl rfl ?_
  refine rr_aload_n hG dX7_undo_4 0 rfl rfl ?_
  refine rr_get hG 7 7 dX7_undo_5 (rm_c hN rfl (by decide)) (by decide) rfl tX7_undo_X7 (by decide) kX7_undo_58 rfl rfl ?_
  refine rr_bindP hf (fun p1 ep1 hf => ?_)
  obtain ⟨kp1, hf⟩ := rm_if hf
  have kp1 := rm_kc4 hN kp1
  refine rr_cVI hG (st := []) (n := 1) (ci := 2) (rf := 2) (rl := 61) [.ref (ph p1)] dX7_undo_8 hf (rm_c hN rfl (by decide)) (by decide) rfl gX7_undo_X2_bringBack rfl (by decide +kernel) rfl ⟨by decide, by decide⟩ rfl (Nat.le_of_ble_eq_true rfl) (fun r9 M9 h9 => mX2_bringBack hN ph _ _ _ kp1 h9) (fun r3 M4 h2 hf => ?_)
  refine rr_if_ne hG (tgt := 17) dX7_undo_11 (by decide) hf (fun c5 hf => ?_) (fun c5 hf => ?_)
  · refine rr_aload_n hG dX7_undo_17 0 rfl rfl ?_
    refine rr_get hG 7 2 (v := .ref (ph 6)) dX7_undo_18 (rm_c hN rfl (by decide)) (by decide) rfl tX7_undo_X7 (by decide) kX7_undo_26 rfl rfl ?_
    refine rr_aload_n hG dX7_undo_21 0 rfl rfl ?_
    refine rr_get hG 7 6 dX7_undo_22 (rm_c hN rfl (by decide)) (by decide) rfl tX7_undo_X7 (by decide) kX7_undo_54 rfl rfl ?_
    refine rr_bindP hf (fun p6 ep6 hf => ?_)
    obtain ⟨kp6, hf⟩ := rm_if hf
    have kp6 := rm_kc1 hN kp6
    refine rr_aload_n hG dX7_undo_25 0 rfl rfl ?_
    refine rr_get hG 7 7 dX7_undo_26 (rm_c hN rfl (by decide)) (by decide) rfl tX7_undo_X7 (by decide) kX7_undo_58 rfl rfl ?_
    refine rr_bindP hf (fun p7 ep7 hf => ?_)
    obtain ⟨kp7, hf⟩ := rm_if hf
    have kp7 := rm_kc4 hN kp7
    refine rr_cVV hG (st := []) (n := 2) (ci := 0) (rf := 0) (rl := 0) [.ref (ph p6), .ref (ph p7)] dX7_undo_29 hf (rm_c hN rfl (by decide)) (by decide) rfl gX7_undo_X0_reckon rfl (by decide +kernel) rfl ⟨by decide, by decide⟩ rfl (Nat.le_of_ble_eq_true rfl) (fun M9 h9 => mX0_reckon hN ph _ _ _ _ kp6 kp7 h9) (fun M9 h8 hf => ?_)
    refine rr_aload_n hG dX7_undo_32 0 rfl rfl ?_
    refine rr_get hG 7 1 (v := .ref (ph 4)) dX7_undo_33 (rm_c hN rfl (by decide)) (by decide) rfl tX7_undo_X7 (by decide) kX7_undo_19 rfl rfl ?_
    refine rr_get hG 2 2 dX7_undo_36 (rm_c hN rfl (by decide)) (by decide) rfl tX7_undo_X2 (by decide) kX7_undo_103 rfl rfl ?_
    exact rr_iret hG hR dX7_undo_39 hf
  · refine rr_bipush hG (v := (-2)) dX7_undo_14 (by decide) ?_
    exact rr_iret hG hR dX7_undo_16 hf
/-! X7.cell -/
theorem tX7_cell_X1 : ∀ w ∈ u_ws RX1 TX1 12, w ∈ wsX7_cell := by decide +kernel
theorem tX7_cell_X4 : ∀ w ∈ u_ws RX4 TX4 10, w ∈ wsX7_cell := by decide +kernel
theorem tX7_cell_X7 : ∀ w ∈ u_ws RX7 TX7 10, w ∈ wsX7_cell := by decide +kernel
theorem kX7_cell_58 : Cond.fieldLink RX7 58 "RingPages" "state" "LRingPages$State;" ∈ wsX7_cell := by decide +kernel
theorem kX7_cell_113 : Cond.fieldLink RX7 113 "RingPages$State" "stay" "[I" ∈ wsX7_cell := by decide +kernel
theorem kX7_cell_117 : Cond.fieldLink RX7 117 "RingPages$State" "area" "[I" ∈ wsX7_cell := by decide +kernel
theorem kX7_cell_54 : Cond.fieldLink RX7 54 "RingPages" "net" "LRingPages$Net;" ∈ wsX7_cell := by decide +kernel
theorem kX7_cell_148 : Cond.fieldLink RX7 148 "RingPages$Net" "out" "[I" ∈ wsX7_cell := by decide +kernel
theorem kX7_cell_151 : Cond.fieldLink RX7 151 "RingPages$Net" "near" "[I" ∈ wsX7_cell := by decide +kernel
theorem kX7_cell_94 : Cond.fieldLink RX7 94 "RingPages$Net" "cells" "I" ∈ wsX7_cell := by decide +kernel
set_option maxHeartbeats 4000000 in
set_option maxRecDepth 100000 in
theorem mX7_cell {NC : Nat} (hN : 79 ≤ NC) (ph : Nat → Nat) (a1 : Int32) (a2 : Int32) (M : rm_M) (rho : Int32 × rm_M)  (hf : fX7_cell a1 a2 M = some rho) : rm_CI yX7_cell wsX7_cell 1 24 [.ref (ph 0), .int a1, .int a2] NC ph M rho := by
  refine rm_metI (cc := cX7_cell) (maxL := 3) (by decide +kernel) rfl rfl (Nat.le_of_ble_eq_true rfl) rfl (fun G hG hR => ?_)
  unfold fX7_cell at hf
  refine rr_aload_n hG dX7_cell_0 0 rfl rfl ?_
  refine rr_iload_n hG dX7_cell_1 1 rfl rfl ?_
  refine rr_cVI hG (st := []) (n := 1) (ci := 7) (rf := 0) (rl := 0) [.int a1] dX7_cell_2 hf (rm_c hN rfl (by decide)) (by decide) rfl gX7_cell_X7_isCell rfl (by decide +kernel) rfl ⟨by decide, by decide⟩ rfl (Nat.le_of_ble_eq_true rfl) (fun r9 M9 h9 => mX7_isCell hN ph _ _ _ h9) (fun r2 M3 h1 hf => ?_)
  refine rr_if_ne hG (tgt := 10) dX7_cell_5 (by decide) hf (fun c4 hf => ?_) (fun c4 hf => ?_)
  · refine rr_iload_n hG dX7_cell_10 2 rfl rfl ?_
    by_cases c5 : a2 = 0
    · rw [if_pos c5] at hf
      refine rr_tableIn hG (tgt := 44) (0) dX7_cell_11 (by rw [c5]; decide) (by decide) (by decide) rfl (by decide) ?_
      refine rr_aload_n hG dX7_cell_44 0 rfl rfl ?_
      refine rr_get hG 7 7 dX7_cell_45 (rm_c hN rfl (by decide)) (by decide) rfl tX7_cell_X7 (by decide) kX7_cell_58 rfl rfl ?_
      refine rr_bindP hf (fun p6 ep6 hf => ?_)
      obtain ⟨kp6, hf⟩ := rm_if hf
      have kp6 := rm_kc4 hN kp6
      refine rr_get hG 4 0 (v := .ref (ph (p6 + 1))) dX7_cell_48 kp6 (by decide) rfl tX7_cell_X4 (by decide) kX7_cell_113 rfl rfl ?_
      refine rr_iload_n hG dX7_cell_51 1 rfl rfl ?_
      refine rr_iald hG dX7_cell_52 (rm_kX4_1 hN kp6) hf (fun b7 hf => ?_)
      exact rr_iret hG hR dX7_cell_53 hf
    · rw [if_neg c5] at hf
      by_cases c8 : a2 = 1
      · rw [if_pos c8] at hf
        refine rr_tableIn hG (tgt := 54) (1) dX7_cell_11 (by rw [c8]; decide) (by decide) (by decide) rfl (by decide) ?_
        refine rr_aload_n hG dX7_cell_54 0 rfl rfl ?_
        refine rr_get hG 7 7 dX7_cell_55 (rm_c hN rfl (by decide)) (by decide) rfl tX7_cell_X7 (by decide) kX7_cell_58 rfl rfl ?_
        refine rr_bindP hf (fun p9 ep9 hf => ?_)
        obtain ⟨kp9, hf⟩ := rm_if hf
        have kp9 := rm_kc4 hN kp9
        refine rr_get hG 4 1 (v := .ref (ph (p9 + 2))) dX7_cell_58 kp9 (by decide) rfl tX7_cell_X4 (by decide) kX7_cell_117 rfl rfl ?_
        refine rr_iload_n hG dX7_cell_61 1 rfl rfl ?_
        refine rr_iald hG dX7_cell_62 (rm_kX4_2 hN kp9) hf (fun b10 hf => ?_)
        exact rr_iret hG hR dX7_cell_63 hf
      · rw [if_neg c8] at hf
        by_cases c11 : a2 = 2
        · rw [if_pos c11] at hf
          refine rr_tableIn hG (tgt := 64) (2) dX7_cell_11 (by rw [c11]; decide) (by decide) (by decide) rfl (by decide) ?_
          refine rr_aload_n hG dX7_cell_64 0 rfl rfl ?_
          refine rr_get hG 7 7 dX7_cell_65 (rm_c hN rfl (by decide)) (by decide) rfl tX7_cell_X7 (by decide) kX7_cell_58 rfl rfl ?_
          refine rr_bindP hf (fun p12 ep12 hf => ?_)
          obtain ⟨kp12, hf⟩ := rm_if hf
          have kp12 := rm_kc4 hN kp12
          refine rr_get hG 4 0 (v := .ref (ph (p12 + 1))) dX7_cell_68 kp12 (by decide) rfl tX7_cell_X4 (by decide) kX7_cell_113 rfl rfl ?_
          refine rr_iload_n hG dX7_cell_71 1 rfl rfl ?_
          refine rr_iald hG dX7_cell_72 (rm_kX4_1 hN kp12) hf (fun b13 hf => ?_)
          refine rr_aload_n hG dX7_cell_73 0 rfl rfl ?_
          refine rr_get hG 7 6 dX7_cell_74 (rm_c hN rfl (by decide)) (by decide) rfl tX7_cell_X7 (by decide) kX7_cell_54 rfl rfl ?_
          refine rr_bindP hf (fun p14 ep14 hf => ?_)
          obtain ⟨kp14, hf⟩ := rm_if hf
          have kp14 := rm_kc1 hN kp14
          refine rr_get hG 1 9 (v := .ref (ph (p14 + 16))) dX7_cell_77 kp14 (by decide) rfl tX7_cell_X1 (by decide) kX7_cell_148 rfl rfl ?_
          refine rr_iload_n hG dX7_cell_80 1 rfl rfl ?_
          refine rr_iald hG dX7_cell_81 (rm_kX1_16 hN kp14) hf (fun b15 hf => ?_)
          refine rr_iadd hG dX7_cell_82 ?_
          exact rr_iret hG hR dX7_cell_83 hf
        · rw [if_neg c11] at hf
          by_cases c16 : a2 = 3
          · rw [if_pos c16] at hf
            refine rr_tableIn hG (tgt := 84) (3) dX7_cell_11 (by rw [c16]; decide) (by decide) (by decide) rfl (by decide) ?_
            refine rr_aload_n hG dX7_cell_84 0 rfl rfl ?_
            refine rr_get hG 7 6 dX7_cell_85 (rm_c hN rfl (by decide)) (by decide) rfl tX7_cell_X7 (by decide) kX7_cell_54 rfl rfl ?_
            refine rr_bindP hf (fun p17 ep17 hf => ?_)
            obtain ⟨kp17, hf⟩ := rm_if hf
            have kp17 := rm_kc1 hN kp17
            refine rr_get hG 1 8 (v := .ref (ph (p17 + 15))) dX7_cell_88 kp17 (by decide) rfl tX7_cell_X1 (by decide) kX7_cell_151 rfl rfl ?_
            refine rr_iload_n hG dX7_cell_91 1 rfl rfl ?_
            refine rr_iald hG dX7_cell_92 (rm_kX1_15 hN kp17) hf (fun b18 hf => ?_)
            exact rr_iret hG hR dX7_cell_93 hf
          · rw [if_neg c16] at hf
            by_cases c19 : a2 = 4
            · rw [if_pos c19] at hf
              refine rr_tableIn hG (tgt := 94) (4) dX7_cell_11 (by rw [c19]; decide) (by decide) (by decide) rfl (by decide) ?_
              refine rr_aload_n hG dX7_cell_94 0 rfl rfl ?_
              refine rr_get hG 7 6 dX7_cell_95 (rm_c hN rfl (by decide)) (by decide) rfl tX7_cell_X7 (by decide) kX7_cell_54 rfl rfl ?_
              refine rr_bindP hf (fun p20 ep20 hf => ?_)
              obtain ⟨kp20, hf⟩ := rm_if hf
              have kp20 := rm_kc1 hN kp20
              refine rr_get hG 1 0 dX7_cell_98 kp20 (by decide) rfl tX7_cell_X1 (by decide) kX7_cell_94 rfl rfl ?_
              refine rr_aload_n hG dX7_cell_101 0 rfl rfl ?_
              refine rr_get hG 7 7 dX7_cell_102 (rm_c hN rfl (by decide)) (by decide) rfl tX7_cell_X7 (by decide) kX7_cell_58 rfl rfl ?_
              refine rr_bindP hf (fun p21 ep21 hf => ?_)
              obtain ⟨kp21, hf⟩ := rm_if hf
              have kp21 := rm_kc4 hN kp21
              refine rr_get hG 4 1 (v := .ref (ph (p21 + 2))) dX7_cell_105 kp21 (by decide) rfl tX7_cell_X4 (by decide) kX7_cell_117 rfl rfl ?_
              refine rr_iload_n hG dX7_cell_108 1 rfl rfl ?_
              refine rr_cSI hG (st := []) (n := 3) (rf := 0) (rl := 0) [.int (M3.1 p20 0), .ref (ph (p21 + 2)), .int a1] dX7_cell_109 hf gX7_cell_X7_sameArea rfl (by decide +kernel) rfl ⟨by decide, by decide⟩ rfl (Nat.le_of_ble_eq_true rfl) (fun r9 M9 h9 => mX7_sameArea hN ph _ _ _ _ _ (rm_kself (rm_kX4_2 hN kp21)) h9) (fun r23 M24 h22 hf => ?_)
              exact rr_iret hG hR dX7_cell_112 hf
            · rw [if_neg c19] at hf
              have kk : rm_L G NC ph 3 113 [(0, .ref (ph 0)), (1, .int a1), (2, .int a2)] [] M3 := by
                refine rr_iconst hG (v := (-1)) dX7_cell_113 (by decide) ?_
                exact rr_iret hG hR dX7_cell_114 hf
              have hz : a2.toInt < 0 ∨ 4 < a2.toInt := by have n0 := lv_neT c5 (a := 0) (by decide); have n1 := lv_neT c8 (a := 1) (by decide); have n2 := lv_neT c11 (a := 2) (by decide); have n3 := lv_neT c16 (a := 3) (by decide); have n4 := lv_neT c19 (a := 4) (by decide); omega
              rcases hz with hz | hz
              · exact rr_tableOut hG (tgt := 113) dX7_cell_11 (Or.inl hz) (by decide) kk
              · exact rr_tableOut hG (tgt := 113) dX7_cell_11 (Or.inr hz) (by decide) kk
  · refine rr_iconst hG (v := (-1)) dX7_cell_8 (by decide) ?_
    exact rr_iret hG hR dX7_cell_9 hf
/-! X7.weight -/
theorem tX7_weight_X1 : ∀ w ∈ u_ws RX1 TX1 12, w ∈ wsX7_weight := by decide +kernel
theorem tX7_weight_X7 : ∀ w ∈ u_ws RX7 TX7 10, w ∈ wsX7_weight := by decide +kernel
theorem kX7_weight_54 : Cond.fieldLink RX7 54 "RingPages" "net" "LRingPages$Net;" ∈ wsX7_weight := by decide +kernel
theorem kX7_weight_158 : Cond.fieldLink RX7 158 "RingPages$Net" "weight" "[[I" ∈ wsX7_weight := by decide +kernel
set_option maxHeartbeats 4000000 in
set_option maxRecDepth 100000 in
theorem mX7_weight {NC : Nat} (hN : 79 ≤ NC) (ph : Nat → Nat) (a1 : Int32) (a2 : Int32) (M : rm_M) (rho : Int32 × rm_M)  (hf : fX7_weight a1 a2 M = some rho) : rm_CI yX7_weight wsX7_weight 1 21 [.ref (ph 0), .int a1, .int a2] NC ph M rho := by
  refine rm_metI (cc := cX7_weight) (maxL := 3) (by decide +kernel) rfl rfl (Nat.le_of_ble_eq_true rfl) rfl (fun G hG hR => ?_)
  unfold fX7_weight at hf
  refine rr_aload_n hG dX7_weight_0 0 rfl rfl ?_
  refine rr_iload_n hG dX7_weight_1 1 rfl rfl ?_
  refine rr_cVI hG (st := []) (n := 1) (ci := 7) (rf := 0) (rl := 0) [.int a1] dX7_weight_2 hf (rm_c hN rfl (by decide)) (by decide) rfl gX7_weight_X7_isCell rfl (by decide +kernel) rfl ⟨by decide, by decide⟩ rfl (Nat.le_of_ble_eq_true rfl) (fun r9 M9 h9 => mX7_isCell hN ph _ _ _ h9) (fun r2 M3 h1 hf => ?_)
  refine rr_if_eq hG (tgt := 21) dX7_weight_5 (by decide) hf (fun c4 hf => ?_) (fun c4 hf => ?_)
  · refine rr_iconst hG (v := (-1)) dX7_weight_21 (by decide) ?_
    exact rr_iret hG hR dX7_weight_22 hf
  · refine rr_aload_n hG dX7_weight_8 0 rfl rfl ?_
    refine rr_iload_n hG dX7_weight_9 2 rfl rfl ?_
    refine rr_cVI hG (st := []) (n := 1) (ci := 7) (rf := 0) (rl := 0) [.int a2] dX7_weight_10 hf (rm_c hN rfl (by decide)) (by decide) rfl gX7_weight_X7_isCell rfl (by decide +kernel) rfl ⟨by decide, by decide⟩ rfl (Nat.le_of_ble_eq_true rfl) (fun r9 M9 h9 => mX7_isCell hN ph _ _ _ h9) (fun r6 M7 h5 hf => ?_)
    refine rr_if_eq hG (tgt := 21) dX7_weight_13 (by decide) hf (fun c8 hf => ?_) (fun c8 hf => ?_)
    · refine rr_iconst hG (v := (-1)) dX7_weight_21 (by decide) ?_
      exact rr_iret hG hR dX7_weight_22 hf
    · refine rr_iload_n hG dX7_weight_16 1 rfl rfl ?_
      refine rr_iload_n hG dX7_weight_17 2 rfl rfl ?_
      refine rr_icmp_ne hG (tgt := 23) dX7_weight_18 (by decide) hf (fun c9 hf => ?_) (fun c9 hf => ?_)
      · refine rr_aload_n hG dX7_weight_23 0 rfl rfl ?_
        refine rr_get hG 7 6 dX7_weight_24 (rm_c hN rfl (by decide)) (by decide) rfl tX7_weight_X7 (by decide) kX7_weight_54 rfl rfl ?_
        refine rr_bindP hf (fun p10 ep10 hf => ?_)
        obtain ⟨kp10, hf⟩ := rm_if hf
        have kp10 := rm_kc1 hN kp10
        refine rr_get hG 1 6 (v := .ref (ph (p10 + 1))) dX7_weight_27 kp10 (by decide) rfl tX7_weight_X1 (by decide) kX7_weight_158 rfl rfl ?_
        refine rr_iload_n hG dX7_weight_30 1 rfl rfl ?_
        refine rr_aldR hG dX7_weight_31 (rm_kX1_1 hN kp10) hf (fun b11 hf => ?_)
        refine rr_iload_n hG dX7_weight_32 2 rfl rfl ?_
        refine rr_iald hG dX7_weight_33 (rm_kR hN (rm_kX1_1 hN kp10) b11) hf (fun b12 hf => ?_)
        exact rr_iret hG hR dX7_weight_34 hf
      · refine rr_iconst hG (v := (-1)) dX7_weight_21 (by decide) ?_
        exact rr_iret hG hR dX7_weight_22 hf
