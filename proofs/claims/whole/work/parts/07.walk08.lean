/-! X7.mean -/
theorem tX7_mean_X0 : ∀ w ∈ u_ws RX0 TX0 6, w ∈ wsX7_mean := by decide +kernel
theorem tX7_mean_X4 : ∀ w ∈ u_ws RX4 TX4 10, w ∈ wsX7_mean := by decide +kernel
theorem tX7_mean_X7 : ∀ w ∈ u_ws RX7 TX7 10, w ∈ wsX7_mean := by decide +kernel
theorem kX7_mean_26 : Cond.fieldLink RX7 26 "RingPages" "longRun" "LRingPages$LongRun;" ∈ wsX7_mean := by decide +kernel
theorem kX7_mean_54 : Cond.fieldLink RX7 54 "RingPages" "net" "LRingPages$Net;" ∈ wsX7_mean := by decide +kernel
theorem kX7_mean_58 : Cond.fieldLink RX7 58 "RingPages" "state" "LRingPages$State;" ∈ wsX7_mean := by decide +kernel
theorem kX7_mean_117 : Cond.fieldLink RX7 117 "RingPages$State" "area" "[I" ∈ wsX7_mean := by decide +kernel
theorem kX7_mean_236 : Cond.fieldLink RX7 236 "RingPages$LongRun" "below" "J" ∈ wsX7_mean := by decide +kernel
theorem kX7_mean_259 : Cond.constantLong RX7 259 (100) ∈ wsX7_mean := by decide +kernel
theorem kX7_mean_234 : Cond.constantLong RX7 234 (-1) ∈ wsX7_mean := by decide +kernel
set_option maxHeartbeats 4000000 in
set_option maxRecDepth 100000 in
theorem mX7_mean {NC : Nat} (hN : 79 ≤ NC) (ph : Nat → Nat) (a1 : Int32) (a2 : Int32) (M : rm_M) (rho : Int64 × rm_M)  (hf : fX7_mean a1 a2 M = some rho) : rm_CJ yX7_mean wsX7_mean 3 73 [.ref (ph 0), .int a1, .int a2] NC ph M rho := by
  refine rm_metJ (cc := cX7_mean) (maxL := 3) (by decide +kernel) rfl rfl (Nat.le_of_ble_eq_true rfl) rfl (fun G hG hR => ?_)
  unfold fX7_mean at hf
  refine rr_iload_n hG dX7_mean_0 2 rfl rfl ?_
  refine rr_cSI hG (st := []) (n := 1) (rf := 0) (rl := 0) [.int a2] dX7_mean_1 hf gX7_mean_X7_isPart rfl (by decide +kernel) rfl ⟨by decide, by decide⟩ rfl (Nat.le_of_ble_eq_true rfl) (fun r9 M9 h9 => mX7_isPart hN ph _ _ _ h9) (fun r2 M3 h1 hf => ?_)
  refine rr_if_ne hG (tgt := 11) dX7_mean_4 (by decide) hf (fun c4 hf => ?_) (fun c4 hf => ?_)
  · refine rr_iload_n hG dX7_mean_11 1 rfl rfl ?_
    by_cases c5 : a1 = 0
    · rw [if_pos c5] at hf
      refine rr_tableIn hG (tgt := 44) (0) dX7_mean_12 (by rw [c5]; decide) (by decide) (by decide) rfl (by decide) ?_
      refine rr_aload_n hG dX7_mean_44 0 rfl rfl ?_
      refine rr_get hG 7 2 (v := .ref (ph 6)) dX7_mean_45 (rm_c hN rfl (by decide)) (by decide) rfl tX7_mean_X7 (by decide) kX7_mean_26 rfl rfl ?_
      refine rr_aload_n hG dX7_mean_48 0 rfl rfl ?_
      refine rr_get hG 7 6 dX7_mean_49 (rm_c hN rfl (by decide)) (by decide) rfl tX7_mean_X7 (by decide) kX7_mean_54 rfl rfl ?_
      refine rr_bindP hf (fun p6 ep6 hf => ?_)
      obtain ⟨kp6, hf⟩ := rm_if hf
      have kp6 := rm_kc1 hN kp6
      refine rr_aload_n hG dX7_mean_52 0 rfl rfl ?_
      refine rr_get hG 7 7 dX7_mean_53 (rm_c hN rfl (by decide)) (by decide) rfl tX7_mean_X7 (by decide) kX7_mean_58 rfl rfl ?_
      refine rr_bindP hf (fun p7 ep7 hf => ?_)
      obtain ⟨kp7, hf⟩ := rm_if hf
      have kp7 := rm_kc4 hN kp7
      refine rr_get hG 4 1 (v := .ref (ph (p7 + 2))) dX7_mean_56 kp7 (by decide) rfl tX7_mean_X4 (by decide) kX7_mean_117 rfl rfl ?_
      refine rr_cVJ hG (st := []) (n := 2) (ci := 0) (rf := 0) (rl := 0) [.ref (ph p6), .ref (ph (p7 + 2))] dX7_mean_59 hf (rm_c hN rfl (by decide)) (by decide) rfl gX7_mean_X0_crosses rfl (by decide +kernel) rfl ⟨by decide, by decide⟩ rfl (Nat.le_of_ble_eq_true rfl) (fun r9 M9 h9 => mX0_crosses hN ph _ _ _ _ kp6 (rm_kself (rm_kX4_2 hN kp7)) h9) (fun r9 M10 h8 hf => ?_)
      refine rr_aload_n hG dX7_mean_62 0 rfl rfl ?_
      refine rr_get hG 7 2 (v := .ref (ph 6)) dX7_mean_63 (rm_c hN rfl (by decide)) (by decide) rfl tX7_mean_X7 (by decide) kX7_mean_26 rfl rfl ?_
      refine rr_get hG 0 1 dX7_mean_66 (rm_c hN rfl (by decide)) (by decide) rfl tX7_mean_X0 (by decide) kX7_mean_236 rfl rfl ?_
      refine rr_iload_n hG dX7_mean_69 2 rfl rfl ?_
      refine rr_cSJ hG (st := []) (n := 3) (rf := 1) (rl := 26) [.long r9, .long (M10.2.1 6 1), .int a2] dX7_mean_70 hf gX7_mean_X7_lowest rfl (by decide +kernel) rfl ⟨by decide, by decide⟩ rfl (Nat.le_of_ble_eq_true rfl) (fun r9 M9 h9 => mX7_lowest hN ph _ _ _ _ _ h9) (fun r12 M13 h11 hf => ?_)
      exact rr_lret hG hR dX7_mean_73 hf
    · rw [if_neg c5] at hf
      by_cases c14 : a1 = 1
      · rw [if_pos c14] at hf
        refine rr_tableIn hG (tgt := 74) (1) dX7_mean_12 (by rw [c14]; decide) (by decide) (by decide) rfl (by decide) ?_
        refine rr_aload_n hG dX7_mean_74 0 rfl rfl ?_
        refine rr_get hG 7 2 (v := .ref (ph 6)) dX7_mean_75 (rm_c hN rfl (by decide)) (by decide) rfl tX7_mean_X7 (by decide) kX7_mean_26 rfl rfl ?_
        refine rr_aload_n hG dX7_mean_78 0 rfl rfl ?_
        refine rr_get hG 7 6 dX7_mean_79 (rm_c hN rfl (by decide)) (by decide) rfl tX7_mean_X7 (by decide) kX7_mean_54 rfl rfl ?_
        refine rr_bindP hf (fun p15 ep15 hf => ?_)
        obtain ⟨kp15, hf⟩ := rm_if hf
        have kp15 := rm_kc1 hN kp15
        refine rr_cVJ hG (st := []) (n := 1) (ci := 0) (rf := 0) (rl := 0) [.ref (ph p15)] dX7_mean_82 hf (rm_c hN rfl (by decide)) (by decide) rfl gX7_mean_X0_movesOn rfl (by decide +kernel) rfl ⟨by decide, by decide⟩ rfl (Nat.le_of_ble_eq_true rfl) (fun r9 M9 h9 => mX0_movesOn hN ph _ _ _ kp15 h9) (fun r17 M18 h16 hf => ?_)
        refine rr_aload_n hG dX7_mean_85 0 rfl rfl ?_
        refine rr_get hG 7 2 (v := .ref (ph 6)) dX7_mean_86 (rm_c hN rfl (by decide)) (by decide) rfl tX7_mean_X7 (by decide) kX7_mean_26 rfl rfl ?_
        refine rr_get hG 0 1 dX7_mean_89 (rm_c hN rfl (by decide)) (by decide) rfl tX7_mean_X0 (by decide) kX7_mean_236 rfl rfl ?_
        refine rr_iload_n hG dX7_mean_92 2 rfl rfl ?_
        refine rr_cSJ hG (st := []) (n := 3) (rf := 1) (rl := 26) [.long r17, .long (M18.2.1 6 1), .int a2] dX7_mean_93 hf gX7_mean_X7_lowest rfl (by decide +kernel) rfl ⟨by decide, by decide⟩ rfl (Nat.le_of_ble_eq_true rfl) (fun r9 M9 h9 => mX7_lowest hN ph _ _ _ _ _ h9) (fun r20 M21 h19 hf => ?_)
        exact rr_lret hG hR dX7_mean_96 hf
      · rw [if_neg c14] at hf
        by_cases c22 : a1 = 2
        · rw [if_pos c22] at hf
          refine rr_tableIn hG (tgt := 97) (2) dX7_mean_12 (by rw [c22]; decide) (by decide) (by decide) rfl (by decide) ?_
          refine rr_aload_n hG dX7_mean_97 0 rfl rfl ?_
          refine rr_iload_n hG dX7_mean_98 2 rfl rfl ?_
          refine rr_cVJ hG (st := []) (n := 1) (ci := 7) (rf := 2) (rl := 52) [.int a2] dX7_mean_99 hf (rm_c hN rfl (by decide)) (by decide) rfl gX7_mean_X7_rate rfl (by decide +kernel) rfl ⟨by decide, by decide⟩ rfl (Nat.le_of_ble_eq_true rfl) (fun r9 M9 h9 => mX7_rate hN ph _ _ _ h9) (fun r24 M25 h23 hf => ?_)
          exact rr_lret hG hR dX7_mean_102 hf
        · rw [if_neg c22] at hf
          by_cases c26 : a1 = 3
          · rw [if_pos c26] at hf
            refine rr_tableIn hG (tgt := 103) (3) dX7_mean_12 (by rw [c26]; decide) (by decide) (by decide) rfl (by decide) ?_
            refine rr_aload_n hG dX7_mean_103 0 rfl rfl ?_
            refine rr_get hG 7 2 (v := .ref (ph 6)) dX7_mean_104 (rm_c hN rfl (by decide)) (by decide) rfl tX7_mean_X7 (by decide) kX7_mean_26 rfl rfl ?_
            refine rr_aload_n hG dX7_mean_107 0 rfl rfl ?_
            refine rr_get hG 7 6 dX7_mean_108 (rm_c hN rfl (by decide)) (by decide) rfl tX7_mean_X7 (by decide) kX7_mean_54 rfl rfl ?_
            refine rr_bindP hf (fun p27 ep27 hf => ?_)
            obtain ⟨kp27, hf⟩ := rm_if hf
            have kp27 := rm_kc1 hN kp27
            refine rr_aload_n hG dX7_mean_111 0 rfl rfl ?_
            refine rr_get hG 7 7 dX7_mean_112 (rm_c hN rfl (by decide)) (by decide) rfl tX7_mean_X7 (by decide) kX7_mean_58 rfl rfl ?_
            refine rr_bindP hf (fun p28 ep28 hf => ?_)
            obtain ⟨kp28, hf⟩ := rm_if hf
            have kp28 := rm_kc4 hN kp28
            refine rr_get hG 4 1 (v := .ref (ph (p28 + 2))) dX7_mean_115 kp28 (by decide) rfl tX7_mean_X4 (by decide) kX7_mean_117 rfl rfl ?_
            refine rr_cVJ hG (st := []) (n := 2) (ci := 0) (rf := 1) (rl := 26) [.ref (ph p27), .ref (ph (p28 + 2))] dX7_mean_118 hf (rm_c hN rfl (by decide)) (by decide) rfl gX7_mean_X0_expense rfl (by decide +kernel) rfl ⟨by decide, by decide⟩ rfl (Nat.le_of_ble_eq_true rfl) (fun r9 M9 h9 => mX0_expense hN ph _ _ _ _ kp27 (rm_kself (rm_kX4_2 hN kp28)) h9) (fun r30 M31 h29 hf => ?_)
            refine rr_ldc2 hG (v := (100)) dX7_mean_121 kX7_mean_259 ?_
            refine rr_aload_n hG dX7_mean_124 0 rfl rfl ?_
            refine rr_get hG 7 2 (v := .ref (ph 6)) dX7_mean_125 (rm_c hN rfl (by decide)) (by decide) rfl tX7_mean_X7 (by decide) kX7_mean_26 rfl rfl ?_
            refine rr_get hG 0 1 dX7_mean_128 (rm_c hN rfl (by decide)) (by decide) rfl tX7_mean_X0 (by decide) kX7_mean_236 rfl rfl ?_
            refine rr_lmul hG dX7_mean_131 ?_
            refine rr_iload_n hG dX7_mean_132 2 rfl rfl ?_
            refine rr_cSJ hG (st := []) (n := 3) (rf := 1) (rl := 26) [.long r30, .long ((100 : Int64) * (M31.2.1 6 1)), .int a2] dX7_mean_133 hf gX7_mean_X7_lowest rfl (by decide +kernel) rfl ⟨by decide, by decide⟩ rfl (Nat.le_of_ble_eq_true rfl) (fun r9 M9 h9 => mX7_lowest hN ph _ _ _ _ _ h9) (fun r33 M34 h32 hf => ?_)
            exact rr_lret hG hR dX7_mean_136 hf
          · rw [if_neg c26] at hf
            have kk : rm_L G NC ph 3 137 [(0, .ref (ph 0)), (1, .int a1), (2, .int a2)] [] M3 := by
              refine rr_ldc2 hG (v := (-1)) dX7_mean_137 kX7_mean_234 ?_
              exact rr_lret hG hR dX7_mean_140 hf
            have hz : a1.toInt < 0 ∨ 3 < a1.toInt := by have n0 := lv_neT c5 (a := 0) (by decide); have n1 := lv_neT c14 (a := 1) (by decide); have n2 := lv_neT c22 (a := 2) (by decide); have n3 := lv_neT c26 (a := 3) (by decide); omega
            rcases hz with hz | hz
            · exact rr_tableOut hG (tgt := 137) dX7_mean_12 (Or.inl hz) (by decide) kk
            · exact rr_tableOut hG (tgt := 137) dX7_mean_12 (Or.inr hz) (by decide) kk
  · refine rr_ldc2 hG (v := (-1)) dX7_mean_7 kX7_mean_234 ?_
    exact rr_lret hG hR dX7_mean_10 hf
/-! X7.best -/
theorem tX7_best_X0 : ∀ w ∈ u_ws RX0 TX0 6, w ∈ wsX7_best := by decide +kernel
theorem tX7_best_X7 : ∀ w ∈ u_ws RX7 TX7 10, w ∈ wsX7_best := by decide +kernel
theorem kX7_best_26 : Cond.fieldLink RX7 26 "RingPages" "longRun" "LRingPages$LongRun;" ∈ wsX7_best := by decide +kernel
theorem kX7_best_54 : Cond.fieldLink RX7 54 "RingPages" "net" "LRingPages$Net;" ∈ wsX7_best := by decide +kernel
theorem kX7_best_141 : Cond.fieldLink RX7 141 "RingPages$LongRun" "best" "[I" ∈ wsX7_best := by decide +kernel
set_option maxHeartbeats 4000000 in
set_option maxRecDepth 100000 in
theorem mX7_best {NC : Nat} (hN : 79 ≤ NC) (ph : Nat → Nat) (a1 : Int32) (M : rm_M) (rho : Int32 × rm_M)  (hf : fX7_best a1 M = some rho) : rm_CI yX7_best wsX7_best 4 90 [.ref (ph 0), .int a1] NC ph M rho := by
  refine rm_metI (cc := cX7_best) (maxL := 2) (by decide +kernel) rfl rfl (Nat.le_of_ble_eq_true rfl) rfl (fun G hG hR => ?_)
  unfold fX7_best at hf
  refine rr_aload_n hG dX7_best_0 0 rfl rfl ?_
  refine rr_iload_n hG dX7_best_1 1 rfl rfl ?_
  refine rr_cVI hG (st := []) (n := 1) (ci := 7) (rf := 0) (rl := 0) [.int a1] dX7_best_2 hf (rm_c hN rfl (by decide)) (by decide) rfl gX7_best_X7_isCell rfl (by decide +kernel) rfl ⟨by decide, by decide⟩ rfl (Nat.le_of_ble_eq_true rfl) (fun r9 M9 h9 => mX7_isCell hN ph _ _ _ h9) (fun r2 M3 h1 hf => ?_)
  refine rr_if_ne hG (tgt := 10) dX7_best_5 (by decide) hf (fun c4 hf => ?_) (fun c4 hf => ?_)
  · refine rr_aload_n hG dX7_best_10 0 rfl rfl ?_
    refine rr_get hG 7 2 (v := .ref (ph 6)) dX7_best_11 (rm_c hN rfl (by decide)) (by decide) rfl tX7_best_X7 (by decide) kX7_best_26 rfl rfl ?_
    refine rr_aload_n hG dX7_best_14 0 rfl rfl ?_
    refine rr_get hG 7 6 dX7_best_15 (rm_c hN rfl (by decide)) (by decide) rfl tX7_best_X7 (by decide) kX7_best_54 rfl rfl ?_
    refine rr_bindP hf (fun p5 ep5 hf => ?_)
    obtain ⟨kp5, hf⟩ := rm_if hf
    have kp5 := rm_kc1 hN kp5
    refine rr_cVV hG (st := []) (n := 1) (ci := 0) (rf := 3) (rl := 66) [.ref (ph p5)] dX7_best_18 hf (rm_c hN rfl (by decide)) (by decide) rfl gX7_best_X0_findBest rfl (by decide +kernel) rfl ⟨by decide, by decide⟩ rfl (Nat.le_of_ble_eq_true rfl) (fun M9 h9 => mX0_findBest hN ph _ _ _ kp5 h9) (fun M7 h6 hf => ?_)
    refine rr_aload_n hG dX7_best_21 0 rfl rfl ?_
    refine rr_get hG 7 2 (v := .ref (ph 6)) dX7_best_22 (rm_c hN rfl (by decide)) (by decide) rfl tX7_best_X7 (by decide) kX7_best_26 rfl rfl ?_
    refine rr_get hG 0 2 (v := .ref (ph 8)) dX7_best_25 (rm_c hN rfl (by decide)) (by decide) rfl tX7_best_X0 (by decide) kX7_best_141 rfl rfl ?_
    refine rr_iload_n hG dX7_best_28 1 rfl rfl ?_
    refine rr_iald hG dX7_best_29 (rm_c hN rfl (by decide)) hf (fun b8 hf => ?_)
    exact rr_iret hG hR dX7_best_30 hf
  · refine rr_iconst hG (v := (-1)) dX7_best_8 (by decide) ?_
    exact rr_iret hG hR dX7_best_9 hf
/-! X7.least -/
theorem tX7_least_X0 : ∀ w ∈ u_ws RX0 TX0 6, w ∈ wsX7_least := by decide +kernel
theorem tX7_least_X7 : ∀ w ∈ u_ws RX7 TX7 10, w ∈ wsX7_least := by decide +kernel
theorem kX7_least_26 : Cond.fieldLink RX7 26 "RingPages" "longRun" "LRingPages$LongRun;" ∈ wsX7_least := by decide +kernel
theorem kX7_least_54 : Cond.fieldLink RX7 54 "RingPages" "net" "LRingPages$Net;" ∈ wsX7_least := by decide +kernel
theorem kX7_least_263 : Cond.fieldLink RX7 263 "RingPages$LongRun" "leastExpense" "J" ∈ wsX7_least := by decide +kernel
theorem kX7_least_259 : Cond.constantLong RX7 259 (100) ∈ wsX7_least := by decide +kernel
theorem kX7_least_236 : Cond.fieldLink RX7 236 "RingPages$LongRun" "below" "J" ∈ wsX7_least := by decide +kernel
theorem kX7_least_234 : Cond.constantLong RX7 234 (-1) ∈ wsX7_least := by decide +kernel
set_option maxHeartbeats 4000000 in
set_option maxRecDepth 100000 in
theorem mX7_least {NC : Nat} (hN : 79 ≤ NC) (ph : Nat → Nat) (a1 : Int32) (M : rm_M) (rho : Int64 × rm_M)  (hf : fX7_least a1 M = some rho) : rm_CJ yX7_least wsX7_least 4 90 [.ref (ph 0), .int a1] NC ph M rho := by
  refine rm_metJ (cc := cX7_least) (maxL := 2) (by decide +kernel) rfl rfl (Nat.le_of_ble_eq_true rfl) rfl (fun G hG hR => ?_)
  unfold fX7_least at hf
  refine rr_iload_n hG dX7_least_0 1 rfl rfl ?_
  refine rr_cSI hG (st := []) (n := 1) (rf := 0) (rl := 0) [.int a1] dX7_least_1 hf gX7_least_X7_isPart rfl (by decide +kernel) rfl ⟨by decide, by decide⟩ rfl (Nat.le_of_ble_eq_true rfl) (fun r9 M9 h9 => mX7_isPart hN ph _ _ _ h9) (fun r2 M3 h1 hf => ?_)
  refine rr_if_ne hG (tgt := 11) dX7_least_4 (by decide) hf (fun c4 hf => ?_) (fun c4 hf => ?_)
  · refine rr_aload_n hG dX7_least_11 0 rfl rfl ?_
    refine rr_get hG 7 2 (v := .ref (ph 6)) dX7_least_12 (rm_c hN rfl (by decide)) (by decide) rfl tX7_least_X7 (by decide) kX7_least_26 rfl rfl ?_
    refine rr_aload_n hG dX7_least_15 0 rfl rfl ?_
    refine rr_get hG 7 6 dX7_least_16 (rm_c hN rfl (by decide)) (by decide) rfl tX7_least_X7 (by decide) kX7_least_54 rfl rfl ?_
    refine rr_bindP hf (fun p5 ep5 hf => ?_)
    obtain ⟨kp5, hf⟩ := rm_if hf
    have kp5 := rm_kc1 hN kp5
    refine rr_cVV hG (st := []) (n := 1) (ci := 0) (rf := 3) (rl := 66) [.ref (ph p5)] dX7_least_19 hf (rm_c hN rfl (by decide)) (by decide) rfl gX7_least_X0_findBest rfl (by decide +kernel) rfl ⟨by decide, by decide⟩ rfl (Nat.le_of_ble_eq_true rfl) (fun M9 h9 => mX0_findBest hN ph _ _ _ kp5 h9) (fun M7 h6 hf => ?_)
    refine rr_aload_n hG dX7_least_22 0 rfl rfl ?_
    refine rr_get hG 7 2 (v := .ref (ph 6)) dX7_least_23 (rm_c hN rfl (by decide)) (by decide) rfl tX7_least_X7 (by decide) kX7_least_26 rfl rfl ?_
    refine rr_get hG 0 3 dX7_least_26 (rm_c hN rfl (by decide)) (by decide) rfl tX7_least_X0 (by decide) kX7_least_263 rfl rfl ?_
    refine rr_ldc2 hG (v := (100)) dX7_least_29 kX7_least_259 ?_
    refine rr_aload_n hG dX7_least_32 0 rfl rfl ?_
    refine rr_get hG 7 2 (v := .ref (ph 6)) dX7_least_33 (rm_c hN rfl (by decide)) (by decide) rfl tX7_least_X7 (by decide) kX7_least_26 rfl rfl ?_
    refine rr_get hG 0 1 dX7_least_36 (rm_c hN rfl (by decide)) (by decide) rfl tX7_least_X0 (by decide) kX7_least_236 rfl rfl ?_
    refine rr_lmul hG dX7_least_39 ?_
    refine rr_iload_n hG dX7_least_40 1 rfl rfl ?_
    refine rr_cSJ hG (st := []) (n := 3) (rf := 1) (rl := 26) [.long (M7.2.1 6 3), .long ((100 : Int64) * (M7.2.1 6 1)), .int a1] dX7_least_41 hf gX7_least_X7_lowest rfl (by decide +kernel) rfl ⟨by decide, by decide⟩ rfl (Nat.le_of_ble_eq_true rfl) (fun r9 M9 h9 => mX7_lowest hN ph _ _ _ _ _ h9) (fun r9 M10 h8 hf => ?_)
    exact rr_lret hG hR dX7_least_44 hf
  · refine rr_ldc2 hG (v := (-1)) dX7_least_7 kX7_least_234 ?_
    exact rr_lret hG hR dX7_least_10 hf
/-! X7.draw -/
theorem kX7_draw_283 : Cond.constantLong RX7 283 (7919) ∈ wsX7_draw := by decide +kernel
theorem kX7_draw_285 : Cond.constantLong RX7 285 (6151) ∈ wsX7_draw := by decide +kernel
theorem kX7_draw_287 : Cond.constantLong RX7 287 (65521) ∈ wsX7_draw := by decide +kernel
set_option maxHeartbeats 4000000 in
set_option maxRecDepth 100000 in
theorem mX7_draw {NC : Nat} (hN : 79 ≤ NC) (ph : Nat → Nat) (a0 : Int32) (a1 : Int32) (M : rm_M) (rho : Int32 × rm_M)  (hf : fX7_draw a0 a1 M = some rho) : rm_CI yX7_draw wsX7_draw 0 0 [.int a0, .int a1] NC ph M rho := by
  refine rm_metI (cc := cX7_draw) (maxL := 4) (by decide +kernel) rfl rfl (Nat.le_of_ble_eq_true rfl) rfl (fun G hG hR => ?_)
  unfold fX7_draw at hf
  refine rr_ldc2 hG (v := (7919)) dX7_draw_0 kX7_draw_283 ?_
  refine rr_iload_n hG dX7_draw_3 0 rfl rfl ?_
  refine rr_i2l hG dX7_draw_4 ?_
  refine rr_lmul hG dX7_draw_5 ?_
  refine rr_ldc2 hG (v := (6151)) dX7_draw_6 kX7_draw_285 ?_
  refine rr_iload_n hG dX7_draw_9 1 rfl rfl ?_
  refine rr_i2l hG dX7_draw_10 ?_
  refine rr_lmul hG dX7_draw_11 ?_
  refine rr_ladd hG dX7_draw_12 ?_
  refine rr_lconst hG (v := 1) dX7_draw_13 (by decide) ?_
  refine rr_ladd hG dX7_draw_14 ?_
  refine rr_bindJ hf (fun v1 ev1 hf => ?_)
  refine rr_lstore_n hG (lv2 := [(2, .long v1), (0, .int a0), (1, .int a1)]) dX7_draw_15 rfl (by decide) rfl ?_
  refine rr_lload_n hG dX7_draw_16 0 rfl rfl ?_
  refine rr_lload_n hG dX7_draw_17 0 rfl rfl ?_
  refine rr_lmul hG dX7_draw_18 ?_
  refine rr_ldc2 hG (v := (65521)) dX7_draw_19 kX7_draw_287 ?_
  refine rr_lrem hG dX7_draw_22 hf (fun hf => ?_)
  refine rr_l2i hG dX7_draw_23 ?_
  exact rr_iret hG hR dX7_draw_24 hf
/-! X7.walk -/
theorem tX7_walk_X4 : ∀ w ∈ u_ws RX4 TX4 10, w ∈ wsX7_walk := by decide +kernel
theorem tX7_walk_X7 : ∀ w ∈ u_ws RX7 TX7 10, w ∈ wsX7_walk := by decide +kernel
theorem kX7_walk_47 : Cond.fieldLink RX7 47 "RingPages" "walker" "LRingPages$State;" ∈ wsX7_walk := by decide +kernel
theorem kX7_walk_54 : Cond.fieldLink RX7 54 "RingPages" "net" "LRingPages$Net;" ∈ wsX7_walk := by decide +kernel
theorem kX7_walk_187 : Cond.fieldLink RX7 187 "RingPages$State" "cell" "I" ∈ wsX7_walk := by decide +kernel
theorem kX7_walk_58 : Cond.fieldLink RX7 58 "RingPages" "state" "LRingPages$State;" ∈ wsX7_walk := by decide +kernel
set_option maxHeartbeats 4000000 in
set_option maxRecDepth 100000 in
theorem wX7_walk_L112 {G : rm_G} {NC : Nat} (hN : 79 ≤ NC) {ph : Nat → Nat} {rho : Int32 × rm_M} (a1 : Int32) (a2 : Int32) (a3 : Int32) (hG : rm_k G NC ph cX7_walk RX7 wsX7_walk 8 3 65) (hR : rm_rI G NC ph .int rho)  (q53 : Int32 → Int32 → Int32 → rm_M → Option (Int32 × rm_M)) (hq53 : ∀ (x4 : Int32) (x5 : Int32) (x6 : Int32) (M : rm_M), q53 x4 x5 x6 M = some rho → rm_L G NC ph 8 53 [(0, .ref (ph 0)), (1, .int a1), (2, .int a2), (3, .int a3), (4, .int x4), (5, .int x5), (6, .int x6)] [] M) : ∀ (x4 : Int32) (x5 : Int32) (x6 : Int32) (M : rm_M), fX7_walk_L112 a1 a2 a3 q53 x4 x5 x6 M = some rho → rm_L G NC ph 8 112 [(0, .ref (ph 0)), (1, .int a1), (2, .int a2), (3, .int a3), (4, .int x4), (5, .int x5), (6, .int x6)] [] M := by
  intro x4 x5 x6 M hf
  unfold fX7_walk_L112 at hf
  refine rr_iinc hG (v := x6 + (1 : Int32)) (lv2 := [(6, .int (x6 + (1 : Int32))), (0, .ref (ph 0)), (1, .int a1), (2, .int a2), (3, .int a3), (4, .int x4), (5, .int x5)]) (k := 6) dX7_walk_112 rfl rfl (by decide) rfl ?_
  refine rr_goto hG (tgt := 53) dX7_walk_115 (by decide) ?_
  exact rr_sub (lv2 := [(0, .ref (ph 0)), (1, .int a1), (2, .int a2), (3, .int a3), (4, .int x4), (5, .int x5), (6, .int (x6 + (1 : Int32)))]) [1, 2, 3, 4, 5, 6, 0] rfl (hq53 _ _ _ _ hf)
set_option maxHeartbeats 4000000 in
set_option maxRecDepth 100000 in
theorem wX7_walk_L93 {G : rm_G} {NC : Nat} (hN : 79 ≤ NC) {ph : Nat → Nat} {rho : Int32 × rm_M} (a1 : Int32) (a2 : Int32) (a3 : Int32) (hG : rm_k G NC ph cX7_walk RX7 wsX7_walk 8 3 65) (hR : rm_rI G NC ph .int rho)  (q53 : Int32 → Int32 → Int32 → rm_M → Option (Int32 × rm_M)) (hq53 : ∀ (x4 : Int32) (x5 : Int32) (x6 : Int32) (M : rm_M), q53 x4 x5 x6 M = some rho → rm_L G NC ph 8 53 [(0, .ref (ph 0)), (1, .int a1), (2, .int a2), (3, .int a3), (4, .int x4), (5, .int x5), (6, .int x6)] [] M) : ∀ (x4 : Int32) (x5 : Int32) (x6 : Int32) (x7 : Int32) (M : rm_M), fX7_walk_L93 a1 a2 a3 q53 x4 x5 x6 x7 M = some rho → rm_L G NC ph 8 93 [(0, .ref (ph 0)), (1, .int a1), (2, .int a2), (3, .int a3), (4, .int x4), (5, .int x5), (6, .int x6), (7, .int x7)] [] M := by
  intro x4 x5 x6 x7 M hf
  unfold fX7_walk_L93 at hf
  refine rr_aload_n hG dX7_walk_93 0 rfl rfl ?_
  refine rr_get hG 7 5 (v := .ref (ph 52)) dX7_walk_94 (rm_c hN rfl (by decide)) (by decide) rfl tX7_walk_X7 (by decide) kX7_walk_47 rfl rfl ?_
  refine rr_aload_n hG dX7_walk_97 0 rfl rfl ?_
  refine rr_get hG 7 6 dX7_walk_98 (rm_c hN rfl (by decide)) (by decide) rfl tX7_walk_X7 (by decide) kX7_walk_54 rfl rfl ?_
  refine rr_bindP hf (fun p1 ep1 hf => ?_)
  obtain ⟨kp1, hf⟩ := rm_if hf
  have kp1 := rm_kc1 hN kp1
  refine rr_iload hG dX7_walk_101 7 rfl ?_
  refine rr_cVI hG (st := []) (n := 2) (ci := 4) (rf := 2) (rl := 43) [.ref (ph p1), .int x7] dX7_walk_103 hf (rm_c hN rfl (by decide)) (by decide) rfl gX7_walk_X4_go rfl (by decide +kernel) rfl ⟨by decide, by decide⟩ rfl (Nat.le_of_ble_eq_true rfl) (fun r9 M9 h9 => mX4_go hN ph _ _ _ _ _ (rm_c hN rfl (by decide)) kp1 h9) (fun r3 M4 h2 hf => ?_)
  refine rr_if_eq hG (tgt := 112) dX7_walk_106 (by decide) hf (fun c5 hf => ?_) (fun c5 hf => ?_)
  · exact rr_sub (lv2 := [(0, .ref (ph 0)), (1, .int a1), (2, .int a2), (3, .int a3), (4, .int x4), (5, .int x5), (6, .int x6)]) [0, 1, 2, 3, 4, 5, 6] rfl (wX7_walk_L112 hN _ _ _ hG hR _ (hq53) _ _ _ _ hf)
  · refine rr_iinc hG (v := x4 + (1 : Int32)) (lv2 := [(4, .int (x4 + (1 : Int32))), (0, .ref (ph 0)), (1, .int a1), (2, .int a2), (3, .int a3), (5, .int x5), (6, .int x6), (7, .int x7)]) (k := 4) dX7_walk_109 rfl rfl (by decide) rfl ?_
    exact rr_sub (lv2 := [(0, .ref (ph 0)), (1, .int a1), (2, .int a2), (3, .int a3), (4, .int (x4 + (1 : Int32))), (5, .int x5), (6, .int x6)]) [1, 2, 3, 4, 0, 5, 6] rfl (wX7_walk_L112 hN _ _ _ hG hR _ (hq53) _ _ _ _ hf)
set_option maxHeartbeats 4000000 in
set_option maxRecDepth 100000 in
theorem wX7_walk_L53 {G : rm_G} {NC : Nat} (hN : 79 ≤ NC) {ph : Nat → Nat} {rho : Int32 × rm_M} (a1 : Int32) (a2 : Int32) (a3 : Int32) (hG : rm_k G NC ph cX7_walk RX7 wsX7_walk 8 3 65) (hR : rm_rI G NC ph .int rho)    : ∀ (n : Nat) (x4 : Int32) (x5 : Int32) (x6 : Int32) (M : rm_M), fX7_walk_L53 a1 a2 a3 n x4 x5 x6 M = some rho → rm_L G NC ph 8 53 [(0, .ref (ph 0)), (1, .int a1), (2, .int a2), (3, .int a3), (4, .int x4), (5, .int x5), (6, .int x6)] [] M := by
  intro n
  induction n with
  | zero => intro x4 x5 x6 M hf; rw [fX7_walk_L53] at hf; cases hf
  | succ n ih =>
    intro x4 x5 x6 M hf
    rw [fX7_walk_L53] at hf
    refine rr_iload hG dX7_walk_53 6 rfl ?_
    refine rr_iload_n hG dX7_walk_55 2 rfl rfl ?_
    refine rr_icmp_ge hG (tgt := 118) dX7_walk_56 (by decide) hf (fun c6 hf => ?_) (fun c6 hf => ?_)
    · refine rr_iload_n hG dX7_walk_118 3 rfl rfl ?_
      refine rr_if_ne hG (tgt := 130) dX7_walk_119 (by decide) hf (fun c7 hf => ?_) (fun c7 hf => ?_)
      · refine rr_iload_n hG dX7_walk_130 3 rfl rfl ?_
        refine rr_iconst hG (v := 1) dX7_walk_131 (by decide) ?_
        refine rr_icmp_ne hG (tgt := 140) dX7_walk_132 (by decide) hf (fun c8 hf => ?_) (fun c8 hf => ?_)
        · refine rr_iload hG dX7_walk_140 5 rfl ?_
          exact rr_iret hG hR dX7_walk_142 hf
        · refine rr_iload hG dX7_walk_135 4 rfl ?_
          refine rr_goto hG (tgt := 142) dX7_walk_137 (by decide) ?_
          exact rr_iret hG hR dX7_walk_142 hf
      · refine rr_aload_n hG dX7_walk_122 0 rfl rfl ?_
        refine rr_get hG 7 5 (v := .ref (ph 52)) dX7_walk_123 (rm_c hN rfl (by decide)) (by decide) rfl tX7_walk_X7 (by decide) kX7_walk_47 rfl rfl ?_
        refine rr_get hG 4 4 dX7_walk_126 (rm_c hN rfl (by decide)) (by decide) rfl tX7_walk_X4 (by decide) kX7_walk_187 rfl rfl ?_
        exact rr_iret hG hR dX7_walk_129 hf
    · refine rr_aload_n hG dX7_walk_59 0 rfl rfl ?_
      refine rr_get hG 7 5 (v := .ref (ph 52)) dX7_walk_60 (rm_c hN rfl (by decide)) (by decide) rfl tX7_walk_X7 (by decide) kX7_walk_47 rfl rfl ?_
      refine rr_aload_n hG dX7_walk_63 0 rfl rfl ?_
      refine rr_get hG 7 6 dX7_walk_64 (rm_c hN rfl (by decide)) (by decide) rfl tX7_walk_X7 (by decide) kX7_walk_54 rfl rfl ?_
      refine rr_bindP hf (fun p9 ep9 hf => ?_)
      obtain ⟨kp9, hf⟩ := rm_if hf
      have kp9 := rm_kc1 hN kp9
      refine rr_iload_n hG dX7_walk_67 1 rfl rfl ?_
      refine rr_iload hG dX7_walk_68 6 rfl ?_
      refine rr_cSI hG (st := [.ref (ph p9), .ref (ph 52)]) (n := 2) (rf := 0) (rl := 0) [.int a1, .int x6] dX7_walk_70 hf gX7_walk_X7_draw rfl (by decide +kernel) rfl ⟨by decide, by decide⟩ rfl (Nat.le_of_ble_eq_true rfl) (fun r9 M9 h9 => mX7_draw hN ph _ _ _ _ h9) (fun r11 M12 h10 hf => ?_)
      refine rr_cVI hG (st := []) (n := 2) (ci := 4) (rf := 0) (rl := 0) [.ref (ph p9), .int r11] dX7_walk_73 hf (rm_c hN rfl (by decide)) (by decide) rfl gX7_walk_X4_drawnCell rfl (by decide +kernel) rfl ⟨by decide, by decide⟩ rfl (Nat.le_of_ble_eq_true rfl) (fun r9 M9 h9 => mX4_drawnCell hN ph _ _ _ _ _ (rm_c hN rfl (by decide)) kp9 h9) (fun r14 M15 h13 hf => ?_)
      refine rr_istore hG (lv2 := [(7, .int r14), (0, .ref (ph 0)), (1, .int a1), (2, .int a2), (3, .int a3), (4, .int x4), (5, .int x5), (6, .int x6)]) dX7_walk_76 (by decide) rfl ?_
      refine rr_iload hG dX7_walk_78 0 rfl ?_
      refine rr_aload_n hG dX7_walk_80 1 rfl rfl ?_
      refine rr_get hG 7 5 (v := .ref (ph 52)) dX7_walk_81 (rm_c hN rfl (by decide)) (by decide) rfl tX7_walk_X7 (by decide) kX7_walk_47 rfl rfl ?_
      refine rr_get hG 4 4 dX7_walk_84 (rm_c hN rfl (by decide)) (by decide) rfl tX7_walk_X4 (by decide) kX7_walk_187 rfl rfl ?_
      refine rr_icmp_eq hG (tgt := 93) dX7_walk_87 (by decide) hf (fun c16 hf => ?_) (fun c16 hf => ?_)
      · exact rr_sub (lv2 := [(0, .ref (ph 0)), (1, .int a1), (2, .int a2), (3, .int a3), (4, .int x4), (5, .int x5), (6, .int x6), (7, .int r14)]) [1, 2, 3, 4, 5, 6, 7, 0] rfl (wX7_walk_L93 hN _ _ _ hG hR _ (ih) _ _ _ _ _ hf)
      · refine rr_iinc hG (v := x5 + (1 : Int32)) (lv2 := [(5, .int (x5 + (1 : Int32))), (7, .int r14), (0, .ref (ph 0)), (1, .int a1), (2, .int a2), (3, .int a3), (4, .int x4), (6, .int x6)]) (k := 6) dX7_walk_90 rfl rfl (by decide) rfl ?_
        exact rr_sub (lv2 := [(0, .ref (ph 0)), (1, .int a1), (2, .int a2), (3, .int a3), (4, .int x4), (5, .int (x5 + (1 : Int32))), (6, .int x6), (7, .int r14)]) [2, 3, 4, 5, 6, 0, 7, 1] rfl (wX7_walk_L93 hN _ _ _ hG hR _ (ih) _ _ _ _ _ hf)
set_option maxHeartbeats 4000000 in
set_option maxRecDepth 100000 in
theorem mX7_walk {NC : Nat} (hN : 79 ≤ NC) (ph : Nat → Nat) (a1 : Int32) (a2 : Int32) (a3 : Int32) (M : rm_M) (rho : Int32 × rm_M)  (hf : fX7_walk a1 a2 a3 M = some rho) : rm_CI yX7_walk wsX7_walk 3 65 [.ref (ph 0), .int a1, .int a2, .int a3] NC ph M rho := by
  refine rm_metI (cc := cX7_walk) (maxL := 8) (by decide +kernel) rfl rfl (Nat.le_of_ble_eq_true rfl) rfl (fun G hG hR => ?_)
  unfold fX7_walk at hf
  refine rr_iload_n hG dX7_walk_0 1 rfl rfl ?_
  refine rr_if_lt hG (tgt := 31) dX7_walk_1 (by decide) hf (fun c17 hf => ?_) (fun c17 hf => ?_)
  · refine rr_iconst hG (v := (-1)) dX7_walk_31 (by decide) ?_
    exact rr_iret hG hR dX7_walk_32 hf
  · refine rr_iload_n hG dX7_walk_4 1 rfl rfl ?_
    refine rr_sipush hG (v := 9999) dX7_walk_5 (by decide) ?_
    refine rr_icmp_gt hG (tgt := 31) dX7_walk_8 (by decide) hf (fun c18 hf => ?_) (fun c18 hf => ?_)
    · refine rr_iconst hG (v := (-1)) dX7_walk_31 (by decide) ?_
      exact rr_iret hG hR dX7_walk_32 hf
    · refine rr_iload_n hG dX7_walk_11 2 rfl rfl ?_
      refine rr_iconst hG (v := 1) dX7_walk_12 (by decide) ?_
      refine rr_icmp_lt hG (tgt := 31) dX7_walk_13 (by decide) hf (fun c19 hf => ?_) (fun c19 hf => ?_)
      · refine rr_iconst hG (v := (-1)) dX7_walk_31 (by decide) ?_
        exact rr_iret hG hR dX7_walk_32 hf
      · refine rr_iload_n hG dX7_walk_16 2 rfl rfl ?_
        refine rr_bipush hG (v := 60) dX7_walk_17 (by decide) ?_
        refine rr_icmp_gt hG (tgt := 31) dX7_walk_19 (by decide) hf (fun c20 hf => ?_) (fun c20 hf => ?_)
        · refine rr_iconst hG (v := (-1)) dX7_walk_31 (by decide) ?_
          exact rr_iret hG hR dX7_walk_32 hf
        · refine rr_iload_n hG dX7_walk_22 3 rfl rfl ?_
          refine rr_if_lt hG (tgt := 31) dX7_walk_23 (by decide) hf (fun c21 hf => ?_) (fun c21 hf => ?_)
          · refine rr_iconst hG (v := (-1)) dX7_walk_31 (by decide) ?_
            exact rr_iret hG hR dX7_walk_32 hf
          · refine rr_iload_n hG dX7_walk_26 3 rfl rfl ?_
            refine rr_iconst hG (v := 2) dX7_walk_27 (by decide) ?_
            refine rr_icmp_le hG (tgt := 33) dX7_walk_28 (by decide) hf (fun c22 hf => ?_) (fun c22 hf => ?_)
            · refine rr_aload_n hG dX7_walk_33 0 rfl rfl ?_
              refine rr_get hG 7 5 (v := .ref (ph 52)) dX7_walk_34 (rm_c hN rfl (by decide)) (by decide) rfl tX7_walk_X7 (by decide) kX7_walk_47 rfl rfl ?_
              refine rr_aload_n hG dX7_walk_37 0 rfl rfl ?_
              refine rr_get hG 7 7 dX7_walk_38 (rm_c hN rfl (by decide)) (by decide) rfl tX7_walk_X7 (by decide) kX7_walk_58 rfl rfl ?_
              refine rr_bindP hf (fun p23 ep23 hf => ?_)
              obtain ⟨kp23, hf⟩ := rm_if hf
              have kp23 := rm_kc4 hN kp23
              refine rr_cVV hG (st := []) (n := 1) (ci := 4) (rf := 1) (rl := 40) [.ref (ph p23)] dX7_walk_41 hf (rm_c hN rfl (by decide)) (by decide) rfl gX7_walk_X4_copyFrom rfl (by decide +kernel) rfl ⟨by decide, by decide⟩ rfl (Nat.le_of_ble_eq_true rfl) (fun M9 h9 => mX4_copyFrom hN ph _ _ _ _ (rm_c hN rfl (by decide)) kp23 h9) (fun M25 h24 hf => ?_)
              refine rr_iconst hG (v := 0) dX7_walk_44 (by decide) ?_
              refine rr_istore hG (lv2 := [(4, .int (0 : Int32)), (0, .ref (ph 0)), (1, .int a1), (2, .int a2), (3, .int a3)]) dX7_walk_45 (by decide) rfl ?_
              refine rr_iconst hG (v := 0) dX7_walk_47 (by decide) ?_
              refine rr_istore hG (lv2 := [(5, .int (0 : Int32)), (4, .int (0 : Int32)), (0, .ref (ph 0)), (1, .int a1), (2, .int a2), (3, .int a3)]) dX7_walk_48 (by decide) rfl ?_
              refine rr_iconst hG (v := 0) dX7_walk_50 (by decide) ?_
              refine rr_istore hG (lv2 := [(6, .int (0 : Int32)), (5, .int (0 : Int32)), (4, .int (0 : Int32)), (0, .ref (ph 0)), (1, .int a1), (2, .int a2), (3, .int a3)]) dX7_walk_51 (by decide) rfl ?_
              exact rr_sub (lv2 := [(0, .ref (ph 0)), (1, .int a1), (2, .int a2), (3, .int a3), (4, .int (0 : Int32)), (5, .int (0 : Int32)), (6, .int (0 : Int32))]) [3, 4, 5, 6, 2, 1, 0] rfl (wX7_walk_L53 hN _ _ _ hG hR _ _ _ _ _ hf)
            · refine rr_iconst hG (v := (-1)) dX7_walk_31 (by decide) ?_
              exact rr_iret hG hR dX7_walk_32 hf
/-! X7.count -/
theorem tX7_count_X1 : ∀ w ∈ u_ws RX1 TX1 12, w ∈ wsX7_count := by decide +kernel
theorem tX7_count_X2 : ∀ w ∈ u_ws RX2 TX2 3, w ∈ wsX7_count := by decide +kernel
theorem tX7_count_X4 : ∀ w ∈ u_ws RX4 TX4 10, w ∈ wsX7_count := by decide +kernel
theorem tX7_count_X5 : ∀ w ∈ u_ws RX5 TX5 4, w ∈ wsX7_count := by decide +kernel
theorem tX7_count_X7 : ∀ w ∈ u_ws RX7 TX7 10, w ∈ wsX7_count := by decide +kernel
theorem kX7_count_54 : Cond.fieldLink RX7 54 "RingPages" "net" "LRingPages$Net;" ∈ wsX7_count := by decide +kernel
theorem kX7_count_94 : Cond.fieldLink RX7 94 "RingPages$Net" "cells" "I" ∈ wsX7_count := by decide +kernel
theorem kX7_count_277 : Cond.fieldLink RX7 277 "RingPages$Net" "joins" "I" ∈ wsX7_count := by decide +kernel
theorem kX7_count_58 : Cond.fieldLink RX7 58 "RingPages" "state" "LRingPages$State;" ∈ wsX7_count := by decide +kernel
theorem kX7_count_131 : Cond.fieldLink RX7 131 "RingPages$State" "kind" "I" ∈ wsX7_count := by decide +kernel
theorem kX7_count_134 : Cond.fieldLink RX7 134 "RingPages$State" "value" "I" ∈ wsX7_count := by decide +kernel
theorem kX7_count_225 : Cond.fieldLink RX7 225 "RingPages$Net" "mostRounds" "I" ∈ wsX7_count := by decide +kernel
theorem kX7_count_208 : Cond.fieldLink RX7 208 "RingPages$Net" "pageCost" "I" ∈ wsX7_count := by decide +kernel
theorem kX7_count_211 : Cond.fieldLink RX7 211 "RingPages$Net" "updateCost" "I" ∈ wsX7_count := by decide +kernel
theorem kX7_count_280 : Cond.fieldLink RX7 280 "RingPages$Net" "callChance" "I" ∈ wsX7_count := by decide +kernel
theorem kX7_count_19 : Cond.fieldLink RX7 19 "RingPages" "past" "LRingPages$Past;" ∈ wsX7_count := by decide +kernel
theorem kX7_count_103 : Cond.fieldLink RX7 103 "RingPages$Past" "held" "I" ∈ wsX7_count := by decide +kernel
theorem kX7_count_10 : Cond.fieldLink RX7 10 "RingPages" "text" "LRingPages$Text;" ∈ wsX7_count := by decide +kernel
theorem kX7_count_87 : Cond.fieldLink RX7 87 "RingPages$Text" "length" "I" ∈ wsX7_count := by decide +kernel
set_option maxHeartbeats 4000000 in
set_option maxRecDepth 100000 in
theorem mX7_count {NC : Nat} (hN : 79 ≤ NC) (ph : Nat → Nat) (a1 : Int32) (M : rm_M) (rho : Int32 × rm_M)  (hf : fX7_count a1 M = some rho) : rm_CI yX7_count wsX7_count 0 0 [.ref (ph 0), .int a1] NC ph M rho := by
  refine rm_metI (cc := cX7_count) (maxL := 2) (by decide +kernel) rfl rfl (Nat.le_of_ble_eq_true rfl) rfl (fun G hG hR => ?_)
  unfold fX7_count at hf
  refine rr_iload_n hG dX7_count_0 1 rfl rfl ?_
  by_cases c1 : a1 = 0
  · rw [if_pos c1] at hf
    refine rr_tableIn hG (tgt := 56) (0) dX7_count_1 (by rw [c1]; decide) (by decide) (by decide) rfl (by decide) ?_
    refine rr_aload_n hG dX7_count_56 0 rfl rfl ?_
    refine rr_get hG 7 6 dX7_count_57 (rm_c hN rfl (by decide)) (by decide) rfl tX7_count_X7 (by decide) kX7_count_54 rfl rfl ?_
    refine rr_bindP hf (fun p2 ep2 hf => ?_)
    obtain ⟨kp2, hf⟩ := rm_if hf
    have kp2 := rm_kc1 hN kp2
    refine rr_get hG 1 0 dX7_count_60 kp2 (by decide) rfl tX7_count_X1 (by decide) kX7_count_94 rfl rfl ?_
    exact rr_iret hG hR dX7_count_63 hf
  · rw [if_neg c1] at hf
    by_cases c3 : a1 = 1
    · rw [if_pos c3] at hf
      refine rr_tableIn hG (tgt := 64) (1) dX7_count_1 (by rw [c3]; decide) (by decide) (by decide) rfl (by decide) ?_
      refine rr_aload_n hG dX7_count_64 0 rfl rfl ?_
      refine rr_get hG 7 6 dX7_count_65 (rm_c hN rfl (by decide)) (by decide) rfl tX7_count_X7 (by decide) kX7_count_54 rfl rfl ?_
      refine rr_bindP hf (fun p4 ep4 hf => ?_)
      obtain ⟨kp4, hf⟩ := rm_if hf
      have kp4 := rm_kc1 hN kp4
      refine rr_get hG 1 1 dX7_count_68 kp4 (by decide) rfl tX7_count_X1 (by decide) kX7_count_277 rfl rfl ?_
      exact rr_iret hG hR dX7_count_71 hf
    · rw [if_neg c3] at hf
      by_cases c5 : a1 = 2
      · rw [if_pos c5] at hf
        refine rr_tableIn hG (tgt := 72) (2) dX7_count_1 (by rw [c5]; decide) (by decide) (by decide) rfl (by decide) ?_
        refine rr_aload_n hG dX7_count_72 0 rfl rfl ?_
        refine rr_get hG 7 7 dX7_count_73 (rm_c hN rfl (by decide)) (by decide) rfl tX7_count_X7 (by decide) kX7_count_58 rfl rfl ?_
        refine rr_bindP hf (fun p6 ep6 hf => ?_)
        obtain ⟨kp6, hf⟩ := rm_if hf
        have kp6 := rm_kc4 hN kp6
        refine rr_get hG 4 2 dX7_count_76 kp6 (by decide) rfl tX7_count_X4 (by decide) kX7_count_131 rfl rfl ?_
        exact rr_iret hG hR dX7_count_79 hf
      · rw [if_neg c5] at hf
        by_cases c7 : a1 = 3
        · rw [if_pos c7] at hf
          refine rr_tableIn hG (tgt := 80) (3) dX7_count_1 (by rw [c7]; decide) (by decide) (by decide) rfl (by decide) ?_
          refine rr_aload_n hG dX7_count_80 0 rfl rfl ?_
          refine rr_get hG 7 7 dX7_count_81 (rm_c hN rfl (by decide)) (by decide) rfl tX7_count_X7 (by decide) kX7_count_58 rfl rfl ?_
          refine rr_bindP hf (fun p8 ep8 hf => ?_)
          obtain ⟨kp8, hf⟩ := rm_if hf
          have kp8 := rm_kc4 hN kp8
          refine rr_get hG 4 3 dX7_count_84 kp8 (by decide) rfl tX7_count_X4 (by decide) kX7_count_134 rfl rfl ?_
          exact rr_iret hG hR dX7_count_87 hf
        · rw [if_neg c7] at hf
          by_cases c9 : a1 = 4
          · rw [if_pos c9] at hf
            refine rr_tableIn hG (tgt := 88) (4) dX7_count_1 (by rw [c9]; decide) (by decide) (by decide) rfl (by decide) ?_
            refine rr_aload_n hG dX7_count_88 0 rfl rfl ?_
            refine rr_get hG 7 6 dX7_count_89 (rm_c hN rfl (by decide)) (by decide) rfl tX7_count_X7 (by decide) kX7_count_54 rfl rfl ?_
            refine rr_bindP hf (fun p10 ep10 hf => ?_)
            obtain ⟨kp10, hf⟩ := rm_if hf
            have kp10 := rm_kc1 hN kp10
            refine rr_get hG 1 2 dX7_count_92 kp10 (by decide) rfl tX7_count_X1 (by decide) kX7_count_225 rfl rfl ?_
            exact rr_iret hG hR dX7_count_95 hf
          · rw [if_neg c9] at hf
            by_cases c11 : a1 = 5
            · rw [if_pos c11] at hf
              refine rr_tableIn hG (tgt := 96) (5) dX7_count_1 (by rw [c11]; decide) (by decide) (by decide) rfl (by decide) ?_
              refine rr_aload_n hG dX7_count_96 0 rfl rfl ?_
              refine rr_get hG 7 6 dX7_count_97 (rm_c hN rfl (by decide)) (by decide) rfl tX7_count_X7 (by decide) kX7_count_54 rfl rfl ?_
              refine rr_bindP hf (fun p12 ep12 hf => ?_)
              obtain ⟨kp12, hf⟩ := rm_if hf
              have kp12 := rm_kc1 hN kp12
              refine rr_get hG 1 3 dX7_count_100 kp12 (by decide) rfl tX7_count_X1 (by decide) kX7_count_208 rfl rfl ?_
              exact rr_iret hG hR dX7_count_103 hf
            · rw [if_neg c11] at hf
              by_cases c13 : a1 = 6
              · rw [if_pos c13] at hf
                refine rr_tableIn hG (tgt := 104) (6) dX7_count_1 (by rw [c13]; decide) (by decide) (by decide) rfl (by decide) ?_
                refine rr_aload_n hG dX7_count_104 0 rfl rfl ?_
                refine rr_get hG 7 6 dX7_count_105 (rm_c hN rfl (by decide)) (by decide) rfl tX7_count_X7 (by decide) kX7_count_54 rfl rfl ?_
                refine rr_bindP hf (fun p14 ep14 hf => ?_)
                obtain ⟨kp14, hf⟩ := rm_if hf
                have kp14 := rm_kc1 hN kp14
                refine rr_get hG 1 4 dX7_count_108 kp14 (by decide) rfl tX7_count_X1 (by decide) kX7_count_211 rfl rfl ?_
                exact rr_iret hG hR dX7_count_111 hf
              · rw [if_neg c13] at hf
                by_cases c15 : a1 = 7
                · rw [if_pos c15] at hf
                  refine rr_tableIn hG (tgt := 112) (7) dX7_count_1 (by rw [c15]; decide) (by decide) (by decide) rfl (by decide) ?_
                  refine rr_aload_n hG dX7_count_112 0 rfl rfl ?_
                  refine rr_get hG 7 6 dX7_count_113 (rm_c hN rfl (by decide)) (by decide) rfl tX7_count_X7 (by decide) kX7_count_54 rfl rfl ?_
                  refine rr_bindP hf (fun p16 ep16 hf => ?_)
                  obtain ⟨kp16, hf⟩ := rm_if hf
                  have kp16 := rm_kc1 hN kp16
                  refine rr_get hG 1 5 dX7_count_116 kp16 (by decide) rfl tX7_count_X1 (by decide) kX7_count_280 rfl rfl ?_
                  exact rr_iret hG hR dX7_count_119 hf
                · rw [if_neg c15] at hf
                  by_cases c17 : a1 = 8
                  · rw [if_pos c17] at hf
                    refine rr_tableIn hG (tgt := 120) (8) dX7_count_1 (by rw [c17]; decide) (by decide) (by decide) rfl (by decide) ?_
                    refine rr_aload_n hG dX7_count_120 0 rfl rfl ?_
                    refine rr_get hG 7 1 (v := .ref (ph 4)) dX7_count_121 (rm_c hN rfl (by decide)) (by decide) rfl tX7_count_X7 (by decide) kX7_count_19 rfl rfl ?_
                    refine rr_get hG 2 2 dX7_count_124 (rm_c hN rfl (by decide)) (by decide) rfl tX7_count_X2 (by decide) kX7_count_103 rfl rfl ?_
                    exact rr_iret hG hR dX7_count_127 hf
                  · rw [if_neg c17] at hf
                    by_cases c18 : a1 = 9
                    · rw [if_pos c18] at hf
                      refine rr_tableIn hG (tgt := 128) (9) dX7_count_1 (by rw [c18]; decide) (by decide) (by decide) rfl (by decide) ?_
                      refine rr_aload_n hG dX7_count_128 0 rfl rfl ?_
                      refine rr_get hG 7 0 (v := .ref (ph 1)) dX7_count_129 (rm_c hN rfl (by decide)) (by decide) rfl tX7_count_X7 (by decide) kX7_count_10 rfl rfl ?_
                      refine rr_get hG 5 3 dX7_count_132 (rm_c hN rfl (by decide)) (by decide) rfl tX7_count_X5 (by decide) kX7_count_87 rfl rfl ?_
                      exact rr_iret hG hR dX7_count_135 hf
                    · rw [if_neg c18] at hf
                      have kk : rm_L G NC ph 2 136 [(0, .ref (ph 0)), (1, .int a1)] [] M := by
                        refine rr_iconst hG (v := (-1)) dX7_count_136 (by decide) ?_
                        exact rr_iret hG hR dX7_count_137 hf
                      have hz : a1.toInt < 0 ∨ 9 < a1.toInt := by have n0 := lv_neT c1 (a := 0) (by decide); have n1 := lv_neT c3 (a := 1) (by decide); have n2 := lv_neT c5 (a := 2) (by decide); have n3 := lv_neT c7 (a := 3) (by decide); have n4 := lv_neT c9 (a := 4) (by decide); have n5 := lv_neT c11 (a := 5) (by decide); have n6 := lv_neT c13 (a := 6) (by decide); have n7 := lv_neT c15 (a := 7) (by decide); have n8 := lv_neT c17 (a := 8) (by decide); have n9 := lv_neT c18 (a := 9) (by decide); omega
                      rcases hz with hz | hz
                      · exact rr_tableOut hG (tgt := 136) dX7_count_1 (Or.inl hz) (by decide) kk
                      · exact rr_tableOut hG (tgt := 136) dX7_count_1 (Or.inr hz) (by decide) kk
/-! X8.joinOf -/
theorem tX8_joinOf_X8 : ∀ w ∈ u_ws RX8 TX8 26, w ∈ wsX8_joinOf := by decide +kernel
theorem kX8_joinOf_25 : Cond.fieldLink RX8 25 "RingPagesModel" "readWeight" "[I" ∈ wsX8_joinOf := by decide +kernel
theorem kX8_joinOf_73 : Cond.fieldLink RX8 73 "RingPagesModel" "readJoins" "I" ∈ wsX8_joinOf := by decide +kernel
set_option maxHeartbeats 4000000 in
set_option maxRecDepth 100000 in
theorem mX8_joinOf (ph : Nat → Nat) (a1 : Int32) (a2 : Int32) (a3 : Int32) (a4 : Int32) (M : rm_M) (rho : rm_M)  (hf : fX8_joinOf a1 a2 a3 a4 M = some rho) : rm_CV yX8_joinOf wsX8_joinOf 0 0 [.ref (ph 79), .int a1, .int a2, .int a3, .int a4] 96 ph M rho := by
  refine rm_metV (cc := cX8_joinOf) (maxL := 5) (by decide +kernel) rfl rfl (Nat.le_of_ble_eq_true rfl) rfl (fun G hG hR => ?_)
  unfold fX8_joinOf at hf
  refine rr_aload_n hG dX8_joinOf_0 0 rfl rfl ?_
  refine rr_get hG 8 11 (v := .ref (ph 85)) dX8_joinOf_1 ⟨rfl, by decide⟩ (by decide) rfl tX8_joinOf_X8 (by decide) kX8_joinOf_25 rfl rfl ?_
  refine rr_bipush hG (v := 6) dX8_joinOf_4 (by decide) ?_
  refine rr_iload_n hG dX8_joinOf_6 1 rfl rfl ?_
  refine rr_imul hG dX8_joinOf_7 ?_
  refine rr_iload_n hG dX8_joinOf_8 2 rfl rfl ?_
  refine rr_iadd hG dX8_joinOf_9 ?_
  refine rr_iload_n hG dX8_joinOf_10 3 rfl rfl ?_
  refine rr_iast hG dX8_joinOf_11 ⟨rfl, by decide⟩ hf (fun b1 hf => ?_)
  refine rr_bindM hf (fun M2 eM2 hf => ?_)
  refine rr_aload_n hG dX8_joinOf_12 0 rfl rfl ?_
  refine rr_get hG 8 11 (v := .ref (ph 85)) dX8_joinOf_13 ⟨rfl, by decide⟩ (by decide) rfl tX8_joinOf_X8 (by decide) kX8_joinOf_25 rfl rfl ?_
  refine rr_bipush hG (v := 6) dX8_joinOf_16 (by decide) ?_
  refine rr_iload_n hG dX8_joinOf_18 2 rfl rfl ?_
  refine rr_imul hG dX8_joinOf_19 ?_
  refine rr_iload_n hG dX8_joinOf_20 1 rfl rfl ?_
  refine rr_iadd hG dX8_joinOf_21 ?_
  refine rr_iload hG dX8_joinOf_22 4 rfl ?_
  refine rr_iast hG dX8_joinOf_24 ⟨rfl, by decide⟩ hf (fun b3 hf => ?_)
  refine rr_bindM hf (fun M4 eM4 hf => ?_)
  refine rr_aload_n hG dX8_joinOf_25 0 rfl rfl ?_
  refine rr_dup hG dX8_joinOf_26 rfl ?_
  refine rr_get hG 8 10 dX8_joinOf_27 ⟨rfl, by decide⟩ (by decide) rfl tX8_joinOf_X8 (by decide) kX8_joinOf_73 rfl rfl ?_
  refine rr_iconst hG (v := 1) dX8_joinOf_30 (by decide) ?_
  refine rr_iadd hG dX8_joinOf_31 ?_
  refine rr_putI hG 8 10 dX8_joinOf_32 ⟨rfl, by decide⟩ (by decide) rfl tX8_joinOf_X8 tyX8_ok nmX8 (by decide) kX8_joinOf_73 rfl rfl rfl rfl rfl (Nat.le_of_ble_eq_true rfl) rfl ?_
  refine rr_bindM hf (fun M5 eM5 hf => ?_)
  exact rr_vret hG hR dX8_joinOf_35 hf
/-! X8.isIn -/
set_option maxHeartbeats 4000000 in
set_option maxRecDepth 100000 in
theorem mX8_isIn (ph : Nat → Nat) (a0 : Int32) (a1 : Int32) (a2 : Int32) (M : rm_M) (rho : Int32 × rm_M)  (hf : fX8_isIn a0 a1 a2 M = some rho) : rm_CI yX8_isIn wsX8_isIn 0 0 [.int a0, .int a1, .int a2] 96 ph M rho := by
  refine rm_metI (cc := cX8_isIn) (maxL := 3) (by decide +kernel) rfl rfl (Nat.le_of_ble_eq_true rfl) rfl (fun G hG hR => ?_)
  unfold fX8_isIn at hf
  refine rr_iload_n hG dX8_isIn_0 0 rfl rfl ?_
  refine rr_iload_n hG dX8_isIn_1 1 rfl rfl ?_
  refine rr_icmp_lt hG (tgt := 14) dX8_isIn_2 (by decide) hf (fun c1 hf => ?_) (fun c1 hf => ?_)
  · refine rr_iconst hG (v := 0) dX8_isIn_14 (by decide) ?_
    exact rr_zret hG hR dX8_isIn_15 hf
  · refine rr_iload_n hG dX8_isIn_5 0 rfl rfl ?_
    refine rr_iload_n hG dX8_isIn_6 2 rfl rfl ?_
    refine rr_icmp_gt hG (tgt := 14) dX8_isIn_7 (by decide) hf (fun c2 hf => ?_) (fun c2 hf => ?_)
    · refine rr_iconst hG (v := 0) dX8_isIn_14 (by decide) ?_
      exact rr_zret hG hR dX8_isIn_15 hf
    · refine rr_iconst hG (v := 1) dX8_isIn_10 (by decide) ?_
      refine rr_goto hG (tgt := 15) dX8_isIn_11 (by decide) ?_
      exact rr_zret hG hR dX8_isIn_15 hf
/-! X8.clears -/
theorem tX8_clears_X8 : ∀ w ∈ u_ws RX8 TX8 26, w ∈ wsX8_clears := by decide +kernel
theorem kX8_clears_28 : Cond.fieldLink RX8 28 "RingPagesModel" "readPrice" "[I" ∈ wsX8_clears := by decide +kernel
theorem kX8_clears_31 : Cond.fieldLink RX8 31 "RingPagesModel" "read" "[I" ∈ wsX8_clears := by decide +kernel
theorem kX8_clears_25 : Cond.fieldLink RX8 25 "RingPagesModel" "readWeight" "[I" ∈ wsX8_clears := by decide +kernel
theorem kX8_clears_62 : Cond.fieldLink RX8 62 "RingPagesModel" "readCells" "I" ∈ wsX8_clears := by decide +kernel
theorem kX8_clears_73 : Cond.fieldLink RX8 73 "RingPagesModel" "readJoins" "I" ∈ wsX8_clears := by decide +kernel
set_option maxHeartbeats 4000000 in
set_option maxRecDepth 100000 in
theorem wX8_clears_L55 {G : rm_G} {ph : Nat → Nat} {rho : rm_M}  (hG : rm_k G 96 ph cX8_clears RX8 wsX8_clears 2 0 0) (hR : rm_rV G 96 ph rho)  (q33 : Int32 → rm_M → Option (rm_M)) (hq33 : ∀ (x1 : Int32) (M : rm_M), q33 x1 M = some rho → rm_L G 96 ph 2 33 [(0, .ref (ph 79)), (1, .int x1)] [] M) : ∀ (x1 : Int32) (s1 : Int32) (s2 : Int32) (M : rm_M), fX8_clears_L55 q33 x1 s1 s2 M = some rho → rm_L G 96 ph 2 55 [(0, .ref (ph 79)), (1, .int x1)] [.int s2, .int s1, .ref (ph 87)] M := by
  intro x1 s1 s2 M hf
  unfold fX8_clears_L55 at hf
  refine rr_iast hG dX8_clears_55 ⟨rfl, by decide⟩ hf (fun b1 hf => ?_)
  refine rr_bindM hf (fun M2 eM2 hf => ?_)
  refine rr_iinc hG (v := x1 + (1 : Int32)) (lv2 := [(1, .int (x1 + (1 : Int32))), (0, .ref (ph 79))]) (k := 1) dX8_clears_56 rfl rfl (by decide) rfl ?_
  refine rr_goto hG (tgt := 33) dX8_clears_59 (by decide) ?_
  exact rr_sub (lv2 := [(0, .ref (ph 79)), (1, .int (x1 + (1 : Int32)))]) [1, 0] rfl (hq33 _ _ hf)
set_option maxHeartbeats 4000000 in
set_option maxRecDepth 100000 in
theorem wX8_clears_L33 {G : rm_G} {ph : Nat → Nat} {rho : rm_M}  (hG : rm_k G 96 ph cX8_clears RX8 wsX8_clears 2 0 0) (hR : rm_rV G 96 ph rho)    : ∀ (n : Nat) (x1 : Int32) (M : rm_M), fX8_clears_L33 n x1 M = some rho → rm_L G 96 ph 2 33 [(0, .ref (ph 79)), (1, .int x1)] [] M := by
  intro n
  induction n with
  | zero => intro x1 M hf; rw [fX8_clears_L33] at hf; cases hf
  | succ n ih =>
    intro x1 M hf
    rw [fX8_clears_L33] at hf
    refine rr_iload_n hG dX8_clears_33 1 rfl rfl ?_
    refine rr_bipush hG (v := 20) dX8_clears_34 (by decide) ?_
    refine rr_icmp_ge hG (tgt := 62) dX8_clears_36 (by decide) hf (fun c3 hf => ?_) (fun c3 hf => ?_)
    · refine rr_aload_n hG dX8_clears_62 0 rfl rfl ?_
      refine rr_get hG 8 12 (v := .ref (ph 86)) dX8_clears_63 ⟨rfl, by decide⟩ (by decide) rfl tX8_clears_X8 (by decide) kX8_clears_28 rfl rfl ?_
      refine rr_iconst hG (v := 0) dX8_clears_66 (by decide) ?_
      refine rr_iconst hG (v := 2) dX8_clears_67 (by decide) ?_
      refine rr_iast hG dX8_clears_68 ⟨rfl, by decide⟩ hf (fun b4 hf => ?_)
      refine rr_bindM hf (fun M5 eM5 hf => ?_)
      refine rr_aload_n hG dX8_clears_69 0 rfl rfl ?_
      refine rr_get hG 8 12 (v := .ref (ph 86)) dX8_clears_70 ⟨rfl, by decide⟩ (by decide) rfl tX8_clears_X8 (by decide) kX8_clears_28 rfl rfl ?_
      refine rr_iconst hG (v := 1) dX8_clears_73 (by decide) ?_
      refine rr_iconst hG (v := 1) dX8_clears_74 (by decide) ?_
      refine rr_iast hG dX8_clears_75 ⟨rfl, by decide⟩ hf (fun b6 hf => ?_)
      refine rr_bindM hf (fun M7 eM7 hf => ?_)
      refine rr_aload_n hG dX8_clears_76 0 rfl rfl ?_
      refine rr_get hG 8 12 (v := .ref (ph 86)) dX8_clears_77 ⟨rfl, by decide⟩ (by decide) rfl tX8_clears_X8 (by decide) kX8_clears_28 rfl rfl ?_
      refine rr_iconst hG (v := 2) dX8_clears_80 (by decide) ?_
      refine rr_iconst hG (v := 5) dX8_clears_81 (by decide) ?_
      refine rr_iast hG dX8_clears_82 ⟨rfl, by decide⟩ hf (fun b8 hf => ?_)
      refine rr_bindM hf (fun M9 eM9 hf => ?_)
      refine rr_aload_n hG dX8_clears_83 0 rfl rfl ?_
      refine rr_get hG 8 12 (v := .ref (ph 86)) dX8_clears_84 ⟨rfl, by decide⟩ (by decide) rfl tX8_clears_X8 (by decide) kX8_clears_28 rfl rfl ?_
      refine rr_iconst hG (v := 3) dX8_clears_87 (by decide) ?_
      refine rr_bipush hG (v := 10) dX8_clears_88 (by decide) ?_
      refine rr_iast hG dX8_clears_90 ⟨rfl, by decide⟩ hf (fun b10 hf => ?_)
      refine rr_bindM hf (fun M11 eM11 hf => ?_)
      exact rr_vret hG hR dX8_clears_91 hf
    · refine rr_aload_n hG dX8_clears_39 0 rfl rfl ?_
      refine rr_get hG 8 13 (v := .ref (ph 87)) dX8_clears_40 ⟨rfl, by decide⟩ (by decide) rfl tX8_clears_X8 (by decide) kX8_clears_31 rfl rfl ?_
      refine rr_iload_n hG dX8_clears_43 1 rfl rfl ?_
      refine rr_iload_n hG dX8_clears_44 1 rfl rfl ?_
      refine rr_bipush hG (v := 6) dX8_clears_45 (by decide) ?_
      refine rr_icmp_ge hG (tgt := 54) dX8_clears_47 (by decide) hf (fun c12 hf => ?_) (fun c12 hf => ?_)
      · refine rr_iconst hG (v := 0) dX8_clears_54 (by decide) ?_
        exact rr_sub (lv2 := [(0, .ref (ph 79)), (1, .int x1)]) [0, 1] rfl (wX8_clears_L55 hG hR _ (ih) _ _ _ _ hf)
      · refine rr_iconst hG (v := 1) dX8_clears_50 (by decide) ?_
        refine rr_goto hG (tgt := 55) dX8_clears_51 (by decide) ?_
        exact rr_sub (lv2 := [(0, .ref (ph 79)), (1, .int x1)]) [0, 1] rfl (wX8_clears_L55 hG hR _ (ih) _ _ _ _ hf)
set_option maxHeartbeats 4000000 in
set_option maxRecDepth 100000 in
theorem wX8_clears_L12 {G : rm_G} {ph : Nat → Nat} {rho : rm_M}  (hG : rm_k G 96 ph cX8_clears RX8 wsX8_clears 2 0 0) (hR : rm_rV G 96 ph rho)    : ∀ (n : Nat) (x1 : Int32) (M : rm_M), fX8_clears_L12 n x1 M = some rho → rm_L G 96 ph 2 12 [(0, .ref (ph 79)), (1, .int x1)] [] M := by
  intro n
  induction n with
  | zero => intro x1 M hf; rw [fX8_clears_L12] at hf; cases hf
  | succ n ih =>
    intro x1 M hf
    rw [fX8_clears_L12] at hf
    refine rr_iload_n hG dX8_clears_12 1 rfl rfl ?_
    refine rr_bipush hG (v := 36) dX8_clears_13 (by decide) ?_
    refine rr_icmp_ge hG (tgt := 31) dX8_clears_15 (by decide) hf (fun c13 hf => ?_) (fun c13 hf => ?_)
    · refine rr_iconst hG (v := 0) dX8_clears_31 (by decide) ?_
      refine rr_istore_n hG (lv2 := [(1, .int (0 : Int32)), (0, .ref (ph 79))]) dX8_clears_32 rfl (by decide) rfl ?_
      exact rr_sub (lv2 := [(0, .ref (ph 79)), (1, .int (0 : Int32))]) [1, 0] rfl (wX8_clears_L33 hG hR _ _ _ hf)
    · refine rr_aload_n hG dX8_clears_18 0 rfl rfl ?_
      refine rr_get hG 8 11 (v := .ref (ph 85)) dX8_clears_19 ⟨rfl, by decide⟩ (by decide) rfl tX8_clears_X8 (by decide) kX8_clears_25 rfl rfl ?_
      refine rr_iload_n hG dX8_clears_22 1 rfl rfl ?_
      refine rr_iconst hG (v := 0) dX8_clears_23 (by decide) ?_
      refine rr_iast hG dX8_clears_24 ⟨rfl, by decide⟩ hf (fun b14 hf => ?_)
      refine rr_bindM hf (fun M15 eM15 hf => ?_)
      refine rr_iinc hG (v := x1 + (1 : Int32)) (lv2 := [(1, .int (x1 + (1 : Int32))), (0, .ref (ph 79))]) (k := 1) dX8_clears_25 rfl rfl (by decide) rfl ?_
      refine rr_goto hG (tgt := 12) dX8_clears_28 (by decide) ?_
      exact rr_sub (lv2 := [(0, .ref (ph 79)), (1, .int (x1 + (1 : Int32)))]) [1, 0] rfl (ih _ _ hf)
set_option maxHeartbeats 4000000 in
set_option maxRecDepth 100000 in
theorem mX8_clears (ph : Nat → Nat)  (M : rm_M) (rho : rm_M)  (hf : fX8_clears M = some rho) : rm_CV yX8_clears wsX8_clears 0 0 [.ref (ph 79)] 96 ph M rho := by
  refine rm_metV (cc := cX8_clears) (maxL := 2) (by decide +kernel) rfl rfl (Nat.le_of_ble_eq_true rfl) rfl (fun G hG hR => ?_)
  unfold fX8_clears at hf
  refine rr_aload_n hG dX8_clears_0 0 rfl rfl ?_
  refine rr_iconst hG (v := 0) dX8_clears_1 (by decide) ?_
  refine rr_putI hG 8 9 dX8_clears_2 ⟨rfl, by decide⟩ (by decide) rfl tX8_clears_X8 tyX8_ok nmX8 (by decide) kX8_clears_62 rfl rfl rfl rfl rfl (Nat.le_of_ble_eq_true rfl) rfl ?_
  refine rr_bindM hf (fun M16 eM16 hf => ?_)
  refine rr_aload_n hG dX8_clears_5 0 rfl rfl ?_
  refine rr_iconst hG (v := 0) dX8_clears_6 (by decide) ?_
  refine rr_putI hG 8 10 dX8_clears_7 ⟨rfl, by decide⟩ (by decide) rfl tX8_clears_X8 tyX8_ok nmX8 (by decide) kX8_clears_73 rfl rfl rfl rfl rfl (Nat.le_of_ble_eq_true rfl) rfl ?_
  refine rr_bindM hf (fun M17 eM17 hf => ?_)
  refine rr_iconst hG (v := 0) dX8_clears_10 (by decide) ?_
  refine rr_istore_n hG (lv2 := [(1, .int (0 : Int32)), (0, .ref (ph 79))]) dX8_clears_11 rfl (by decide) rfl ?_
  exact rr_sub (lv2 := [(0, .ref (ph 79)), (1, .int (0 : Int32))]) [1, 0] rfl (wX8_clears_L12 hG hR _ _ _ hf)
