/-! X7.wide -/
theorem tX7_wide_X1 : ∀ w ∈ u_ws RX1 TX1 12, w ∈ wsX7_wide := by decide +kernel
theorem tX7_wide_X7 : ∀ w ∈ u_ws RX7 TX7 10, w ∈ wsX7_wide := by decide +kernel
theorem kX7_wide_54 : Cond.fieldLink RX7 54 "RingPages" "net" "LRingPages$Net;" ∈ wsX7_wide := by decide +kernel
theorem kX7_wide_162 : Cond.fieldLink RX7 162 "RingPages$Net" "wide" "[[I" ∈ wsX7_wide := by decide +kernel
set_option maxHeartbeats 4000000 in
set_option maxRecDepth 100000 in
theorem mX7_wide {NC : Nat} (hN : 79 ≤ NC) (ph : Nat → Nat) (a1 : Int32) (a2 : Int32) (M : rm_M) (rho : Int32 × rm_M)  (hf : fX7_wide a1 a2 M = some rho) : rm_CI yX7_wide wsX7_wide 1 21 [.ref (ph 0), .int a1, .int a2] NC ph M rho := by
  refine rm_metI (cc := cX7_wide) (maxL := 3) (by decide +kernel) rfl rfl (Nat.le_of_ble_eq_true rfl) rfl (fun G hG hR => ?_)
  unfold fX7_wide at hf
  refine rr_aload_n hG dX7_wide_0 0 rfl rfl ?_
  refine rr_iload_n hG dX7_wide_1 1 rfl rfl ?_
  refine rr_cVI hG (st := []) (n := 1) (ci := 7) (rf := 0) (rl := 0) [.int a1] dX7_wide_2 hf (rm_c hN rfl (by decide)) (by decide) rfl gX7_wide_X7_isCell rfl (by decide +kernel) rfl ⟨by decide, by decide⟩ rfl (Nat.le_of_ble_eq_true rfl) (fun r9 M9 h9 => mX7_isCell hN ph _ _ _ h9) (fun r2 M3 h1 hf => ?_)
  refine rr_if_eq hG (tgt := 16) dX7_wide_5 (by decide) hf (fun c4 hf => ?_) (fun c4 hf => ?_)
  · refine rr_iconst hG (v := (-1)) dX7_wide_16 (by decide) ?_
    exact rr_iret hG hR dX7_wide_17 hf
  · refine rr_aload_n hG dX7_wide_8 0 rfl rfl ?_
    refine rr_iload_n hG dX7_wide_9 2 rfl rfl ?_
    refine rr_cVI hG (st := []) (n := 1) (ci := 7) (rf := 0) (rl := 0) [.int a2] dX7_wide_10 hf (rm_c hN rfl (by decide)) (by decide) rfl gX7_wide_X7_isCell rfl (by decide +kernel) rfl ⟨by decide, by decide⟩ rfl (Nat.le_of_ble_eq_true rfl) (fun r9 M9 h9 => mX7_isCell hN ph _ _ _ h9) (fun r6 M7 h5 hf => ?_)
    refine rr_if_ne hG (tgt := 18) dX7_wide_13 (by decide) hf (fun c8 hf => ?_) (fun c8 hf => ?_)
    · refine rr_aload_n hG dX7_wide_18 0 rfl rfl ?_
      refine rr_get hG 7 6 dX7_wide_19 (rm_c hN rfl (by decide)) (by decide) rfl tX7_wide_X7 (by decide) kX7_wide_54 rfl rfl ?_
      refine rr_bindP hf (fun p9 ep9 hf => ?_)
      obtain ⟨kp9, hf⟩ := rm_if hf
      have kp9 := rm_kc1 hN kp9
      refine rr_get hG 1 7 (v := .ref (ph (p9 + 8))) dX7_wide_22 kp9 (by decide) rfl tX7_wide_X1 (by decide) kX7_wide_162 rfl rfl ?_
      refine rr_iload_n hG dX7_wide_25 1 rfl rfl ?_
      refine rr_aldR hG dX7_wide_26 (rm_kX1_8 hN kp9) hf (fun b10 hf => ?_)
      refine rr_iload_n hG dX7_wide_27 2 rfl rfl ?_
      refine rr_iald hG dX7_wide_28 (rm_kR hN (rm_kX1_8 hN kp9) b10) hf (fun b11 hf => ?_)
      exact rr_iret hG hR dX7_wide_29 hf
    · refine rr_iconst hG (v := (-1)) dX7_wide_16 (by decide) ?_
      exact rr_iret hG hR dX7_wide_17 hf
/-! X7.tick -/
theorem tX7_tick_X7 : ∀ w ∈ u_ws RX7 TX7 10, w ∈ wsX7_tick := by decide +kernel
theorem kX7_tick_58 : Cond.fieldLink RX7 58 "RingPages" "state" "LRingPages$State;" ∈ wsX7_tick := by decide +kernel
theorem kX7_tick_54 : Cond.fieldLink RX7 54 "RingPages" "net" "LRingPages$Net;" ∈ wsX7_tick := by decide +kernel
theorem kX7_tick_19 : Cond.fieldLink RX7 19 "RingPages" "past" "LRingPages$Past;" ∈ wsX7_tick := by decide +kernel
set_option maxHeartbeats 4000000 in
set_option maxRecDepth 100000 in
theorem mX7_tick {NC : Nat} (hN : 79 ≤ NC) (ph : Nat → Nat) (a1 : Int32) (M : rm_M) (rho : Int32 × rm_M)  (hf : fX7_tick a1 M = some rho) : rm_CI yX7_tick wsX7_tick 3 82 [.ref (ph 0), .int a1] NC ph M rho := by
  refine rm_metI (cc := cX7_tick) (maxL := 2) (by decide +kernel) rfl rfl (Nat.le_of_ble_eq_true rfl) rfl (fun G hG hR => ?_)
  unfold fX7_tick at hf
  refine rr_aload_n hG dX7_tick_0 0 rfl rfl ?_
  refine rr_iload_n hG dX7_tick_1 1 rfl rfl ?_
  refine rr_cVI hG (st := []) (n := 1) (ci := 7) (rf := 0) (rl := 0) [.int a1] dX7_tick_2 hf (rm_c hN rfl (by decide)) (by decide) rfl gX7_tick_X7_isCell rfl (by decide +kernel) rfl ⟨by decide, by decide⟩ rfl (Nat.le_of_ble_eq_true rfl) (fun r9 M9 h9 => mX7_isCell hN ph _ _ _ h9) (fun r2 M3 h1 hf => ?_)
  refine rr_if_ne hG (tgt := 10) dX7_tick_5 (by decide) hf (fun c4 hf => ?_) (fun c4 hf => ?_)
  · refine rr_aload_n hG dX7_tick_10 0 rfl rfl ?_
    refine rr_get hG 7 7 dX7_tick_11 (rm_c hN rfl (by decide)) (by decide) rfl tX7_tick_X7 (by decide) kX7_tick_58 rfl rfl ?_
    refine rr_bindP hf (fun p5 ep5 hf => ?_)
    obtain ⟨kp5, hf⟩ := rm_if hf
    have kp5 := rm_kc4 hN kp5
    refine rr_aload_n hG dX7_tick_14 0 rfl rfl ?_
    refine rr_get hG 7 6 dX7_tick_15 (rm_c hN rfl (by decide)) (by decide) rfl tX7_tick_X7 (by decide) kX7_tick_54 rfl rfl ?_
    refine rr_bindP hf (fun p6 ep6 hf => ?_)
    obtain ⟨kp6, hf⟩ := rm_if hf
    have kp6 := rm_kc1 hN kp6
    refine rr_iload_n hG dX7_tick_18 1 rfl rfl ?_
    refine rr_cVI hG (st := []) (n := 2) (ci := 4) (rf := 1) (rl := 21) [.ref (ph p6), .int a1] dX7_tick_19 hf kp5 (by decide) rfl gX7_tick_X4_canGo rfl (by decide +kernel) rfl ⟨by decide, by decide⟩ rfl (Nat.le_of_ble_eq_true rfl) (fun r9 M9 h9 => mX4_canGo hN ph _ _ _ _ _ kp5 kp6 h9) (fun r8 M9 h7 hf => ?_)
    refine rr_if_ne hG (tgt := 28) dX7_tick_22 (by decide) hf (fun c10 hf => ?_) (fun c10 hf => ?_)
    · refine rr_aload_n hG dX7_tick_28 0 rfl rfl ?_
      refine rr_get hG 7 1 (v := .ref (ph 4)) dX7_tick_29 (rm_c hN rfl (by decide)) (by decide) rfl tX7_tick_X7 (by decide) kX7_tick_19 rfl rfl ?_
      refine rr_aload_n hG dX7_tick_32 0 rfl rfl ?_
      refine rr_get hG 7 7 dX7_tick_33 (rm_c hN rfl (by decide)) (by decide) rfl tX7_tick_X7 (by decide) kX7_tick_58 rfl rfl ?_
      refine rr_bindP hf (fun p11 ep11 hf => ?_)
      obtain ⟨kp11, hf⟩ := rm_if hf
      have kp11 := rm_kc4 hN kp11
      refine rr_cVV hG (st := []) (n := 1) (ci := 2) (rf := 2) (rl := 61) [.ref (ph p11)] dX7_tick_36 hf (rm_c hN rfl (by decide)) (by decide) rfl gX7_tick_X2_keep rfl (by decide +kernel) rfl ⟨by decide, by decide⟩ rfl (Nat.le_of_ble_eq_true rfl) (fun M9 h9 => mX2_keep hN ph _ _ _ kp11 h9) (fun M13 h12 hf => ?_)
      refine rr_aload_n hG dX7_tick_39 0 rfl rfl ?_
      refine rr_get hG 7 7 dX7_tick_40 (rm_c hN rfl (by decide)) (by decide) rfl tX7_tick_X7 (by decide) kX7_tick_58 rfl rfl ?_
      refine rr_bindP hf (fun p14 ep14 hf => ?_)
      obtain ⟨kp14, hf⟩ := rm_if hf
      have kp14 := rm_kc4 hN kp14
      refine rr_aload_n hG dX7_tick_43 0 rfl rfl ?_
      refine rr_get hG 7 6 dX7_tick_44 (rm_c hN rfl (by decide)) (by decide) rfl tX7_tick_X7 (by decide) kX7_tick_54 rfl rfl ?_
      refine rr_bindP hf (fun p15 ep15 hf => ?_)
      obtain ⟨kp15, hf⟩ := rm_if hf
      have kp15 := rm_kc1 hN kp15
      refine rr_iload_n hG dX7_tick_47 1 rfl rfl ?_
      refine rr_cVI hG (st := []) (n := 2) (ci := 4) (rf := 2) (rl := 43) [.ref (ph p15), .int a1] dX7_tick_48 hf kp14 (by decide) rfl gX7_tick_X4_go rfl (by decide +kernel) rfl ⟨by decide, by decide⟩ rfl (Nat.le_of_ble_eq_true rfl) (fun r9 M9 h9 => mX4_go hN ph _ _ _ _ _ kp14 kp15 h9) (fun r17 M18 h16 hf => ?_)
      refine rr_if_eq hG (tgt := 58) dX7_tick_51 (by decide) hf (fun c19 hf => ?_) (fun c19 hf => ?_)
      · refine rr_iconst hG (v := 0) dX7_tick_58 (by decide) ?_
        exact rr_iret hG hR dX7_tick_59 hf
      · refine rr_iconst hG (v := 1) dX7_tick_54 (by decide) ?_
        refine rr_goto hG (tgt := 59) dX7_tick_55 (by decide) ?_
        exact rr_iret hG hR dX7_tick_59 hf
    · refine rr_bipush hG (v := (-2)) dX7_tick_25 (by decide) ?_
      exact rr_iret hG hR dX7_tick_27 hf
  · refine rr_iconst hG (v := (-1)) dX7_tick_8 (by decide) ?_
    exact rr_iret hG hR dX7_tick_9 hf
/-! X7.seek -/
theorem tX7_seek_X0 : ∀ w ∈ u_ws RX0 TX0 6, w ∈ wsX7_seek := by decide +kernel
theorem tX7_seek_X1 : ∀ w ∈ u_ws RX1 TX1 12, w ∈ wsX7_seek := by decide +kernel
theorem tX7_seek_X7 : ∀ w ∈ u_ws RX7 TX7 10, w ∈ wsX7_seek := by decide +kernel
theorem kX7_seek_40 : Cond.fieldLink RX7 40 "RingPages" "rounds" "LRingPages$Rounds;" ∈ wsX7_seek := by decide +kernel
theorem kX7_seek_33 : Cond.fieldLink RX7 33 "RingPages" "whereabouts" "LRingPages$Whereabouts;" ∈ wsX7_seek := by decide +kernel
theorem kX7_seek_54 : Cond.fieldLink RX7 54 "RingPages" "net" "LRingPages$Net;" ∈ wsX7_seek := by decide +kernel
theorem kX7_seek_58 : Cond.fieldLink RX7 58 "RingPages" "state" "LRingPages$State;" ∈ wsX7_seek := by decide +kernel
theorem kX7_seek_26 : Cond.fieldLink RX7 26 "RingPages" "longRun" "LRingPages$LongRun;" ∈ wsX7_seek := by decide +kernel
theorem kX7_seek_217 : Cond.fieldLink RX7 217 "RingPages$LongRun" "above" "[J" ∈ wsX7_seek := by decide +kernel
theorem kX7_seek_225 : Cond.fieldLink RX7 225 "RingPages$Net" "mostRounds" "I" ∈ wsX7_seek := by decide +kernel
set_option maxHeartbeats 4000000 in
set_option maxRecDepth 100000 in
theorem mX7_seek {NC : Nat} (hN : 79 ≤ NC) (ph : Nat → Nat)  (M : rm_M) (rho : rm_M)  (hf : fX7_seek M = some rho) : rm_CV yX7_seek wsX7_seek 4 101 [.ref (ph 0)] NC ph M rho := by
  refine rm_metV (cc := cX7_seek) (maxL := 1) (by decide +kernel) rfl rfl (Nat.le_of_ble_eq_true rfl) rfl (fun G hG hR => ?_)
  unfold fX7_seek at hf
  refine rr_aload_n hG dX7_seek_0 0 rfl rfl ?_
  refine rr_get hG 7 4 (v := .ref (ph 12)) dX7_seek_1 (rm_c hN rfl (by decide)) (by decide) rfl tX7_seek_X7 (by decide) kX7_seek_40 rfl rfl ?_
  refine rr_aload_n hG dX7_seek_4 0 rfl rfl ?_
  refine rr_get hG 7 3 (v := .ref (ph 10)) dX7_seek_5 (rm_c hN rfl (by decide)) (by decide) rfl tX7_seek_X7 (by decide) kX7_seek_33 rfl rfl ?_
  refine rr_aload_n hG dX7_seek_8 0 rfl rfl ?_
  refine rr_get hG 7 6 dX7_seek_9 (rm_c hN rfl (by decide)) (by decide) rfl tX7_seek_X7 (by decide) kX7_seek_54 rfl rfl ?_
  refine rr_bindP hf (fun p1 ep1 hf => ?_)
  obtain ⟨kp1, hf⟩ := rm_if hf
  have kp1 := rm_kc1 hN kp1
  refine rr_aload_n hG dX7_seek_12 0 rfl rfl ?_
  refine rr_get hG 7 7 dX7_seek_13 (rm_c hN rfl (by decide)) (by decide) rfl tX7_seek_X7 (by decide) kX7_seek_58 rfl rfl ?_
  refine rr_bindP hf (fun p2 ep2 hf => ?_)
  obtain ⟨kp2, hf⟩ := rm_if hf
  have kp2 := rm_kc4 hN kp2
  refine rr_cVI hG (st := [.ref (ph 12)]) (n := 2) (ci := 6) (rf := 3) (rl := 74) [.ref (ph p1), .ref (ph p2)] dX7_seek_16 hf (rm_c hN rfl (by decide)) (by decide) rfl gX7_seek_X6_find rfl (by decide +kernel) rfl ⟨by decide, by decide⟩ rfl (Nat.le_of_ble_eq_true rfl) (fun r9 M9 h9 => mX6_find hN ph _ _ _ _ kp1 kp2 h9) (fun r4 M5 h3 hf => ?_)
  refine rr_aload_n hG dX7_seek_19 0 rfl rfl ?_
  refine rr_get hG 7 2 (v := .ref (ph 6)) dX7_seek_20 (rm_c hN rfl (by decide)) (by decide) rfl tX7_seek_X7 (by decide) kX7_seek_26 rfl rfl ?_
  refine rr_get hG 0 0 (v := .ref (ph 7)) dX7_seek_23 (rm_c hN rfl (by decide)) (by decide) rfl tX7_seek_X0 (by decide) kX7_seek_217 rfl rfl ?_
  refine rr_cVV hG (st := []) (n := 2) (ci := 3) (rf := 1) (rl := 21) [.int r4, .ref (ph 7)] dX7_seek_26 hf (rm_c hN rfl (by decide)) (by decide) rfl gX7_seek_X3_lineUp rfl (by decide +kernel) rfl ⟨by decide, by decide⟩ rfl (Nat.le_of_ble_eq_true rfl) (fun M9 h9 => mX3_lineUp hN ph _ _ _ _ (rm_kself (rm_c hN rfl (by decide))) h9) (fun M7 h6 hf => ?_)
  refine rr_aload_n hG dX7_seek_29 0 rfl rfl ?_
  refine rr_get hG 7 4 (v := .ref (ph 12)) dX7_seek_30 (rm_c hN rfl (by decide)) (by decide) rfl tX7_seek_X7 (by decide) kX7_seek_40 rfl rfl ?_
  refine rr_aload_n hG dX7_seek_33 0 rfl rfl ?_
  refine rr_get hG 7 6 dX7_seek_34 (rm_c hN rfl (by decide)) (by decide) rfl tX7_seek_X7 (by decide) kX7_seek_54 rfl rfl ?_
  refine rr_bindP hf (fun p8 ep8 hf => ?_)
  obtain ⟨kp8, hf⟩ := rm_if hf
  have kp8 := rm_kc1 hN kp8
  refine rr_get hG 1 2 dX7_seek_37 kp8 (by decide) rfl tX7_seek_X1 (by decide) kX7_seek_225 rfl rfl ?_
  refine rr_aload_n hG dX7_seek_40 0 rfl rfl ?_
  refine rr_get hG 7 2 (v := .ref (ph 6)) dX7_seek_41 (rm_c hN rfl (by decide)) (by decide) rfl tX7_seek_X7 (by decide) kX7_seek_26 rfl rfl ?_
  refine rr_get hG 0 0 (v := .ref (ph 7)) dX7_seek_44 (rm_c hN rfl (by decide)) (by decide) rfl tX7_seek_X0 (by decide) kX7_seek_217 rfl rfl ?_
  refine rr_cVV hG (st := []) (n := 2) (ci := 3) (rf := 3) (rl := 69) [.int (M7.1 p8 2), .ref (ph 7)] dX7_seek_47 hf (rm_c hN rfl (by decide)) (by decide) rfl gX7_seek_X3_split rfl (by decide +kernel) rfl ⟨by decide, by decide⟩ rfl (Nat.le_of_ble_eq_true rfl) (fun M9 h9 => mX3_split hN ph _ _ _ _ (rm_kself (rm_c hN rfl (by decide))) h9) (fun M10 h9 hf => ?_)
  exact rr_vret hG hR dX7_seek_50 hf
/-! X7.page -/
theorem tX7_page_X3 : ∀ w ∈ u_ws RX3 TX3 4, w ∈ wsX7_page := by decide +kernel
theorem tX7_page_X4 : ∀ w ∈ u_ws RX4 TX4 10, w ∈ wsX7_page := by decide +kernel
theorem tX7_page_X7 : ∀ w ∈ u_ws RX7 TX7 10, w ∈ wsX7_page := by decide +kernel
theorem kX7_page_19 : Cond.fieldLink RX7 19 "RingPages" "past" "LRingPages$Past;" ∈ wsX7_page := by decide +kernel
theorem kX7_page_58 : Cond.fieldLink RX7 58 "RingPages" "state" "LRingPages$State;" ∈ wsX7_page := by decide +kernel
theorem kX7_page_193 : Cond.fieldLink RX7 193 "RingPages$State" "paged" "I" ∈ wsX7_page := by decide +kernel
theorem kX7_page_40 : Cond.fieldLink RX7 40 "RingPages" "rounds" "LRingPages$Rounds;" ∈ wsX7_page := by decide +kernel
theorem kX7_page_175 : Cond.fieldLink RX7 175 "RingPages$Rounds" "many" "I" ∈ wsX7_page := by decide +kernel
theorem kX7_page_187 : Cond.fieldLink RX7 187 "RingPages$State" "cell" "I" ∈ wsX7_page := by decide +kernel
set_option maxHeartbeats 4000000 in
set_option maxRecDepth 100000 in
theorem wX7_page_L58 {G : rm_G} {NC : Nat} (hN : 79 ≤ NC) {ph : Nat → Nat} {rho : Int32 × rm_M}  (hG : rm_k G NC ph cX7_page RX7 wsX7_page 4 5 121) (hR : rm_rI G NC ph .int rho)    : ∀ (x1 : Int32) (M : rm_M), fX7_page_L58 x1 M = some rho → rm_L G NC ph 4 58 [(0, .ref (ph 0)), (1, .int x1)] [] M := by
  intro x1 M hf
  unfold fX7_page_L58 at hf
  refine rr_aload_n hG dX7_page_58 0 rfl rfl ?_
  refine rr_get hG 7 1 (v := .ref (ph 4)) dX7_page_59 (rm_c hN rfl (by decide)) (by decide) rfl tX7_page_X7 (by decide) kX7_page_19 rfl rfl ?_
  refine rr_aload_n hG dX7_page_62 0 rfl rfl ?_
  refine rr_get hG 7 7 dX7_page_63 (rm_c hN rfl (by decide)) (by decide) rfl tX7_page_X7 (by decide) kX7_page_58 rfl rfl ?_
  refine rr_bindP hf (fun p1 ep1 hf => ?_)
  obtain ⟨kp1, hf⟩ := rm_if hf
  have kp1 := rm_kc4 hN kp1
  refine rr_cVV hG (st := []) (n := 1) (ci := 2) (rf := 2) (rl := 61) [.ref (ph p1)] dX7_page_66 hf (rm_c hN rfl (by decide)) (by decide) rfl gX7_page_X2_keep rfl (by decide +kernel) rfl ⟨by decide, by decide⟩ rfl (Nat.le_of_ble_eq_true rfl) (fun M9 h9 => mX2_keep hN ph _ _ _ kp1 h9) (fun M3 h2 hf => ?_)
  refine rr_aload_n hG dX7_page_69 0 rfl rfl ?_
  refine rr_get hG 7 7 dX7_page_70 (rm_c hN rfl (by decide)) (by decide) rfl tX7_page_X7 (by decide) kX7_page_58 rfl rfl ?_
  refine rr_bindP hf (fun p4 ep4 hf => ?_)
  obtain ⟨kp4, hf⟩ := rm_if hf
  have kp4 := rm_kc4 hN kp4
  refine rr_dup hG dX7_page_73 rfl ?_
  refine rr_get hG 4 9 dX7_page_74 kp4 (by decide) rfl tX7_page_X4 (by decide) kX7_page_193 rfl rfl ?_
  refine rr_iload_n hG dX7_page_77 1 rfl rfl ?_
  refine rr_iadd hG dX7_page_78 ?_
  refine rr_putI hG 4 9 dX7_page_79 kp4 (by decide) rfl tX7_page_X4 tyX4_ok nmX4 (by decide) kX7_page_193 rfl rfl rfl rfl rfl (Nat.le_of_ble_eq_true rfl) rfl ?_
  refine rr_bindM hf (fun M5 eM5 hf => ?_)
  refine rr_aload_n hG dX7_page_82 0 rfl rfl ?_
  refine rr_get hG 7 7 dX7_page_83 (rm_c hN rfl (by decide)) (by decide) rfl tX7_page_X7 (by decide) kX7_page_58 rfl rfl ?_
  refine rr_bindP hf (fun p6 ep6 hf => ?_)
  obtain ⟨kp6, hf⟩ := rm_if hf
  have kp6 := rm_kc4 hN kp6
  refine rr_cVV hG (st := []) (n := 0) (ci := 4) (rf := 0) (rl := 0) [] dX7_page_86 hf kp6 (by decide) rfl gX7_page_X4_register rfl (by decide +kernel) rfl ⟨by decide, by decide⟩ rfl (Nat.le_of_ble_eq_true rfl) (fun M9 h9 => mX4_register hN ph _ _ _ kp6 h9) (fun M8 h7 hf => ?_)
  refine rr_iload_n hG dX7_page_89 1 rfl rfl ?_
  exact rr_iret hG hR dX7_page_90 hf
set_option maxHeartbeats 4000000 in
set_option maxRecDepth 100000 in
theorem wX7_page_L8 {G : rm_G} {NC : Nat} (hN : 79 ≤ NC) {ph : Nat → Nat} {rho : Int32 × rm_M}  (hG : rm_k G NC ph cX7_page RX7 wsX7_page 4 5 121) (hR : rm_rI G NC ph .int rho)    : ∀ (n : Nat) (x1 : Int32) (x2 : Int32) (M : rm_M), fX7_page_L8 n x1 x2 M = some rho → rm_L G NC ph 4 8 [(0, .ref (ph 0)), (1, .int x1), (2, .int x2)] [] M := by
  intro n
  induction n with
  | zero => intro x1 x2 M hf; rw [fX7_page_L8] at hf; cases hf
  | succ n ih =>
    intro x1 x2 M hf
    rw [fX7_page_L8] at hf
    refine rr_iload_n hG dX7_page_8 2 rfl rfl ?_
    refine rr_aload_n hG dX7_page_9 0 rfl rfl ?_
    refine rr_get hG 7 4 (v := .ref (ph 12)) dX7_page_10 (rm_c hN rfl (by decide)) (by decide) rfl tX7_page_X7 (by decide) kX7_page_40 rfl rfl ?_
    refine rr_get hG 3 3 dX7_page_13 (rm_c hN rfl (by decide)) (by decide) rfl tX7_page_X3 (by decide) kX7_page_175 rfl rfl ?_
    refine rr_icmp_ge hG (tgt := 58) dX7_page_16 (by decide) hf (fun c9 hf => ?_) (fun c9 hf => ?_)
    · exact rr_sub (lv2 := [(0, .ref (ph 0)), (1, .int x1)]) [0, 1] rfl (wX7_page_L58 hN hG hR _ _ hf)
    · refine rr_aload_n hG dX7_page_19 0 rfl rfl ?_
      refine rr_get hG 7 4 (v := .ref (ph 12)) dX7_page_20 (rm_c hN rfl (by decide)) (by decide) rfl tX7_page_X7 (by decide) kX7_page_40 rfl rfl ?_
      refine rr_iload_n hG dX7_page_23 2 rfl rfl ?_
      refine rr_cVI hG (st := []) (n := 1) (ci := 3) (rf := 2) (rl := 43) [.int x2] dX7_page_24 hf (rm_c hN rfl (by decide)) (by decide) rfl gX7_page_X3_cellsOf rfl (by decide +kernel) rfl ⟨by decide, by decide⟩ rfl (Nat.le_of_ble_eq_true rfl) (fun r9 M9 h9 => mX3_cellsOf hN ph _ _ _ h9) (fun r11 M12 h10 hf => ?_)
      refine rr_istore_n hG (lv2 := [(3, .int r11), (0, .ref (ph 0)), (1, .int x1), (2, .int x2)]) dX7_page_27 rfl (by decide) rfl ?_
      refine rr_iload_n hG dX7_page_28 2 rfl rfl ?_
      refine rr_iload_n hG dX7_page_29 0 rfl rfl ?_
      refine rr_cSI hG (st := [.int x1]) (n := 1) (rf := 0) (rl := 0) [.int r11] dX7_page_30 hf gX7_page_J6_bitCount_0f7a4 rfl (by decide +kernel) rfl ⟨by decide, by decide⟩ rfl (Nat.le_of_ble_eq_true rfl) (fun r9 M9 h9 => mJ6_bitCount_0f7a4 hN ph _ _ _ h9) (fun r14 M15 h13 hf => ?_)
      refine rr_iadd hG dX7_page_33 ?_
      refine rr_bindI hf (fun v16 ev16 hf => ?_)
      refine rr_istore_n hG (lv2 := [(1, .int v16), (3, .int r11), (0, .ref (ph 0)), (2, .int x2)]) dX7_page_34 rfl (by decide) rfl ?_
      refine rr_iload_n hG dX7_page_35 1 rfl rfl ?_
      refine rr_aload_n hG dX7_page_36 2 rfl rfl ?_
      refine rr_get hG 7 7 dX7_page_37 (rm_c hN rfl (by decide)) (by decide) rfl tX7_page_X7 (by decide) kX7_page_58 rfl rfl ?_
      refine rr_bindP hf (fun p17 ep17 hf => ?_)
      obtain ⟨kp17, hf⟩ := rm_if hf
      have kp17 := rm_kc4 hN kp17
      refine rr_get hG 4 4 dX7_page_40 kp17 (by decide) rfl tX7_page_X4 (by decide) kX7_page_187 rfl rfl ?_
      refine rr_cSI hG (st := []) (n := 2) (rf := 0) (rl := 0) [.int r11, .int (M15.1 p17 4)] dX7_page_43 hf gX7_page_X7_holds rfl (by decide +kernel) rfl ⟨by decide, by decide⟩ rfl (Nat.le_of_ble_eq_true rfl) (fun r9 M9 h9 => mX7_holds hN ph _ _ _ _ h9) (fun r19 M20 h18 hf => ?_)
      refine rr_if_eq hG (tgt := 52) dX7_page_46 (by decide) hf (fun c21 hf => ?_) (fun c21 hf => ?_)
      · refine rr_iinc hG (v := x2 + (1 : Int32)) (lv2 := [(2, .int (x2 + (1 : Int32))), (1, .int v16), (3, .int r11), (0, .ref (ph 0))]) (k := 3) dX7_page_52 rfl rfl (by decide) rfl ?_
        refine rr_goto hG (tgt := 8) dX7_page_55 (by decide) ?_
        exact rr_sub (lv2 := [(0, .ref (ph 0)), (1, .int v16), (2, .int (x2 + (1 : Int32)))]) [3, 1, 0] rfl (ih _ _ _ hf)
      · refine rr_goto hG (tgt := 58) dX7_page_49 (by decide) ?_
        exact rr_sub (lv2 := [(0, .ref (ph 0)), (1, .int v16)]) [2, 0] rfl (wX7_page_L58 hN hG hR _ _ hf)
set_option maxHeartbeats 4000000 in
set_option maxRecDepth 100000 in
theorem mX7_page {NC : Nat} (hN : 79 ≤ NC) (ph : Nat → Nat)  (M : rm_M) (rho : Int32 × rm_M)  (hf : fX7_page M = some rho) : rm_CI yX7_page wsX7_page 5 121 [.ref (ph 0)] NC ph M rho := by
  refine rm_metI (cc := cX7_page) (maxL := 4) (by decide +kernel) rfl rfl (Nat.le_of_ble_eq_true rfl) rfl (fun G hG hR => ?_)
  unfold fX7_page at hf
  refine rr_aload_n hG dX7_page_0 0 rfl rfl ?_
  refine rr_cVV hG (st := []) (n := 0) (ci := 7) (rf := 4) (rl := 101) [] dX7_page_1 hf (rm_c hN rfl (by decide)) (by decide) rfl gX7_page_X7_seek rfl (by decide +kernel) rfl ⟨by decide, by decide⟩ rfl (Nat.le_of_ble_eq_true rfl) (fun M9 h9 => mX7_seek hN ph _ _ h9) (fun M23 h22 hf => ?_)
  refine rr_iconst hG (v := 0) dX7_page_4 (by decide) ?_
  refine rr_istore_n hG (lv2 := [(1, .int (0 : Int32)), (0, .ref (ph 0))]) dX7_page_5 rfl (by decide) rfl ?_
  refine rr_iconst hG (v := 0) dX7_page_6 (by decide) ?_
  refine rr_istore_n hG (lv2 := [(2, .int (0 : Int32)), (1, .int (0 : Int32)), (0, .ref (ph 0))]) dX7_page_7 rfl (by decide) rfl ?_
  exact rr_sub (lv2 := [(0, .ref (ph 0)), (1, .int (0 : Int32)), (2, .int (0 : Int32))]) [2, 1, 0] rfl (wX7_page_L8 hN hG hR _ _ _ _ hf)
/-! X7.handset -/
theorem tX7_handset_X1 : ∀ w ∈ u_ws RX1 TX1 12, w ∈ wsX7_handset := by decide +kernel
theorem tX7_handset_X4 : ∀ w ∈ u_ws RX4 TX4 10, w ∈ wsX7_handset := by decide +kernel
theorem tX7_handset_X7 : ∀ w ∈ u_ws RX7 TX7 10, w ∈ wsX7_handset := by decide +kernel
theorem kX7_handset_58 : Cond.fieldLink RX7 58 "RingPages" "state" "LRingPages$State;" ∈ wsX7_handset := by decide +kernel
theorem kX7_handset_187 : Cond.fieldLink RX7 187 "RingPages$State" "cell" "I" ∈ wsX7_handset := by decide +kernel
theorem kX7_handset_196 : Cond.fieldLink RX7 196 "RingPages$State" "home" "I" ∈ wsX7_handset := by decide +kernel
theorem kX7_handset_199 : Cond.fieldLink RX7 199 "RingPages$State" "moves" "I" ∈ wsX7_handset := by decide +kernel
theorem kX7_handset_202 : Cond.fieldLink RX7 202 "RingPages$State" "ticks" "I" ∈ wsX7_handset := by decide +kernel
theorem kX7_handset_205 : Cond.fieldLink RX7 205 "RingPages$State" "updates" "I" ∈ wsX7_handset := by decide +kernel
theorem kX7_handset_193 : Cond.fieldLink RX7 193 "RingPages$State" "paged" "I" ∈ wsX7_handset := by decide +kernel
theorem kX7_handset_54 : Cond.fieldLink RX7 54 "RingPages" "net" "LRingPages$Net;" ∈ wsX7_handset := by decide +kernel
theorem kX7_handset_208 : Cond.fieldLink RX7 208 "RingPages$Net" "pageCost" "I" ∈ wsX7_handset := by decide +kernel
theorem kX7_handset_211 : Cond.fieldLink RX7 211 "RingPages$Net" "updateCost" "I" ∈ wsX7_handset := by decide +kernel
set_option maxHeartbeats 4000000 in
set_option maxRecDepth 100000 in
theorem mX7_handset {NC : Nat} (hN : 79 ≤ NC) (ph : Nat → Nat) (a1 : Int32) (M : rm_M) (rho : Int32 × rm_M)  (hf : fX7_handset a1 M = some rho) : rm_CI yX7_handset wsX7_handset 0 0 [.ref (ph 0), .int a1] NC ph M rho := by
  refine rm_metI (cc := cX7_handset) (maxL := 2) (by decide +kernel) rfl rfl (Nat.le_of_ble_eq_true rfl) rfl (fun G hG hR => ?_)
  unfold fX7_handset at hf
  refine rr_iload_n hG dX7_handset_0 1 rfl rfl ?_
  by_cases c1 : a1 = 0
  · rw [if_pos c1] at hf
    refine rr_tableIn hG (tgt := 44) (0) dX7_handset_1 (by rw [c1]; decide) (by decide) (by decide) rfl (by decide) ?_
    refine rr_aload_n hG dX7_handset_44 0 rfl rfl ?_
    refine rr_get hG 7 7 dX7_handset_45 (rm_c hN rfl (by decide)) (by decide) rfl tX7_handset_X7 (by decide) kX7_handset_58 rfl rfl ?_
    refine rr_bindP hf (fun p2 ep2 hf => ?_)
    obtain ⟨kp2, hf⟩ := rm_if hf
    have kp2 := rm_kc4 hN kp2
    refine rr_get hG 4 4 dX7_handset_48 kp2 (by decide) rfl tX7_handset_X4 (by decide) kX7_handset_187 rfl rfl ?_
    exact rr_iret hG hR dX7_handset_51 hf
  · rw [if_neg c1] at hf
    by_cases c3 : a1 = 1
    · rw [if_pos c3] at hf
      refine rr_tableIn hG (tgt := 52) (1) dX7_handset_1 (by rw [c3]; decide) (by decide) (by decide) rfl (by decide) ?_
      refine rr_aload_n hG dX7_handset_52 0 rfl rfl ?_
      refine rr_get hG 7 7 dX7_handset_53 (rm_c hN rfl (by decide)) (by decide) rfl tX7_handset_X7 (by decide) kX7_handset_58 rfl rfl ?_
      refine rr_bindP hf (fun p4 ep4 hf => ?_)
      obtain ⟨kp4, hf⟩ := rm_if hf
      have kp4 := rm_kc4 hN kp4
      refine rr_get hG 4 5 dX7_handset_56 kp4 (by decide) rfl tX7_handset_X4 (by decide) kX7_handset_196 rfl rfl ?_
      exact rr_iret hG hR dX7_handset_59 hf
    · rw [if_neg c3] at hf
      by_cases c5 : a1 = 2
      · rw [if_pos c5] at hf
        refine rr_tableIn hG (tgt := 60) (2) dX7_handset_1 (by rw [c5]; decide) (by decide) (by decide) rfl (by decide) ?_
        refine rr_aload_n hG dX7_handset_60 0 rfl rfl ?_
        refine rr_get hG 7 7 dX7_handset_61 (rm_c hN rfl (by decide)) (by decide) rfl tX7_handset_X7 (by decide) kX7_handset_58 rfl rfl ?_
        refine rr_bindP hf (fun p6 ep6 hf => ?_)
        obtain ⟨kp6, hf⟩ := rm_if hf
        have kp6 := rm_kc4 hN kp6
        refine rr_get hG 4 6 dX7_handset_64 kp6 (by decide) rfl tX7_handset_X4 (by decide) kX7_handset_199 rfl rfl ?_
        exact rr_iret hG hR dX7_handset_67 hf
      · rw [if_neg c5] at hf
        by_cases c7 : a1 = 3
        · rw [if_pos c7] at hf
          refine rr_tableIn hG (tgt := 68) (3) dX7_handset_1 (by rw [c7]; decide) (by decide) (by decide) rfl (by decide) ?_
          refine rr_aload_n hG dX7_handset_68 0 rfl rfl ?_
          refine rr_get hG 7 7 dX7_handset_69 (rm_c hN rfl (by decide)) (by decide) rfl tX7_handset_X7 (by decide) kX7_handset_58 rfl rfl ?_
          refine rr_bindP hf (fun p8 ep8 hf => ?_)
          obtain ⟨kp8, hf⟩ := rm_if hf
          have kp8 := rm_kc4 hN kp8
          refine rr_get hG 4 7 dX7_handset_72 kp8 (by decide) rfl tX7_handset_X4 (by decide) kX7_handset_202 rfl rfl ?_
          exact rr_iret hG hR dX7_handset_75 hf
        · rw [if_neg c7] at hf
          by_cases c9 : a1 = 4
          · rw [if_pos c9] at hf
            refine rr_tableIn hG (tgt := 76) (4) dX7_handset_1 (by rw [c9]; decide) (by decide) (by decide) rfl (by decide) ?_
            refine rr_aload_n hG dX7_handset_76 0 rfl rfl ?_
            refine rr_get hG 7 7 dX7_handset_77 (rm_c hN rfl (by decide)) (by decide) rfl tX7_handset_X7 (by decide) kX7_handset_58 rfl rfl ?_
            refine rr_bindP hf (fun p10 ep10 hf => ?_)
            obtain ⟨kp10, hf⟩ := rm_if hf
            have kp10 := rm_kc4 hN kp10
            refine rr_get hG 4 8 dX7_handset_80 kp10 (by decide) rfl tX7_handset_X4 (by decide) kX7_handset_205 rfl rfl ?_
            exact rr_iret hG hR dX7_handset_83 hf
          · rw [if_neg c9] at hf
            by_cases c11 : a1 = 5
            · rw [if_pos c11] at hf
              refine rr_tableIn hG (tgt := 84) (5) dX7_handset_1 (by rw [c11]; decide) (by decide) (by decide) rfl (by decide) ?_
              refine rr_aload_n hG dX7_handset_84 0 rfl rfl ?_
              refine rr_get hG 7 7 dX7_handset_85 (rm_c hN rfl (by decide)) (by decide) rfl tX7_handset_X7 (by decide) kX7_handset_58 rfl rfl ?_
              refine rr_bindP hf (fun p12 ep12 hf => ?_)
              obtain ⟨kp12, hf⟩ := rm_if hf
              have kp12 := rm_kc4 hN kp12
              refine rr_get hG 4 9 dX7_handset_88 kp12 (by decide) rfl tX7_handset_X4 (by decide) kX7_handset_193 rfl rfl ?_
              exact rr_iret hG hR dX7_handset_91 hf
            · rw [if_neg c11] at hf
              by_cases c13 : a1 = 6
              · rw [if_pos c13] at hf
                refine rr_tableIn hG (tgt := 92) (6) dX7_handset_1 (by rw [c13]; decide) (by decide) (by decide) rfl (by decide) ?_
                refine rr_aload_n hG dX7_handset_92 0 rfl rfl ?_
                refine rr_get hG 7 6 dX7_handset_93 (rm_c hN rfl (by decide)) (by decide) rfl tX7_handset_X7 (by decide) kX7_handset_54 rfl rfl ?_
                refine rr_bindP hf (fun p14 ep14 hf => ?_)
                obtain ⟨kp14, hf⟩ := rm_if hf
                have kp14 := rm_kc1 hN kp14
                refine rr_get hG 1 3 dX7_handset_96 kp14 (by decide) rfl tX7_handset_X1 (by decide) kX7_handset_208 rfl rfl ?_
                refine rr_aload_n hG dX7_handset_99 0 rfl rfl ?_
                refine rr_get hG 7 7 dX7_handset_100 (rm_c hN rfl (by decide)) (by decide) rfl tX7_handset_X7 (by decide) kX7_handset_58 rfl rfl ?_
                refine rr_bindP hf (fun p15 ep15 hf => ?_)
                obtain ⟨kp15, hf⟩ := rm_if hf
                have kp15 := rm_kc4 hN kp15
                refine rr_get hG 4 9 dX7_handset_103 kp15 (by decide) rfl tX7_handset_X4 (by decide) kX7_handset_193 rfl rfl ?_
                refine rr_imul hG dX7_handset_106 ?_
                refine rr_aload_n hG dX7_handset_107 0 rfl rfl ?_
                refine rr_get hG 7 6 dX7_handset_108 (rm_c hN rfl (by decide)) (by decide) rfl tX7_handset_X7 (by decide) kX7_handset_54 rfl rfl ?_
                refine rr_bindP hf (fun p16 ep16 hf => ?_)
                obtain ⟨kp16, hf⟩ := rm_if hf
                have kp16 := rm_kc1 hN kp16
                refine rr_get hG 1 4 dX7_handset_111 kp16 (by decide) rfl tX7_handset_X1 (by decide) kX7_handset_211 rfl rfl ?_
                refine rr_aload_n hG dX7_handset_114 0 rfl rfl ?_
                refine rr_get hG 7 7 dX7_handset_115 (rm_c hN rfl (by decide)) (by decide) rfl tX7_handset_X7 (by decide) kX7_handset_58 rfl rfl ?_
                refine rr_bindP hf (fun p17 ep17 hf => ?_)
                obtain ⟨kp17, hf⟩ := rm_if hf
                have kp17 := rm_kc4 hN kp17
                refine rr_get hG 4 8 dX7_handset_118 kp17 (by decide) rfl tX7_handset_X4 (by decide) kX7_handset_205 rfl rfl ?_
                refine rr_imul hG dX7_handset_121 ?_
                refine rr_iadd hG dX7_handset_122 ?_
                exact rr_iret hG hR dX7_handset_123 hf
              · rw [if_neg c13] at hf
                have kk : rm_L G NC ph 2 124 [(0, .ref (ph 0)), (1, .int a1)] [] M := by
                  refine rr_iconst hG (v := (-1)) dX7_handset_124 (by decide) ?_
                  exact rr_iret hG hR dX7_handset_125 hf
                have hz : a1.toInt < 0 ∨ 6 < a1.toInt := by have n0 := lv_neT c1 (a := 0) (by decide); have n1 := lv_neT c3 (a := 1) (by decide); have n2 := lv_neT c5 (a := 2) (by decide); have n3 := lv_neT c7 (a := 3) (by decide); have n4 := lv_neT c9 (a := 4) (by decide); have n5 := lv_neT c11 (a := 5) (by decide); have n6 := lv_neT c13 (a := 6) (by decide); omega
                rcases hz with hz | hz
                · exact rr_tableOut hG (tgt := 124) dX7_handset_1 (Or.inl hz) (by decide) kk
                · exact rr_tableOut hG (tgt := 124) dX7_handset_1 (Or.inr hz) (by decide) kk
/-! X7.where -/
theorem tX7_where_X7 : ∀ w ∈ u_ws RX7 TX7 10, w ∈ wsX7_where := by decide +kernel
theorem kX7_where_33 : Cond.fieldLink RX7 33 "RingPages" "whereabouts" "LRingPages$Whereabouts;" ∈ wsX7_where := by decide +kernel
theorem kX7_where_54 : Cond.fieldLink RX7 54 "RingPages" "net" "LRingPages$Net;" ∈ wsX7_where := by decide +kernel
theorem kX7_where_58 : Cond.fieldLink RX7 58 "RingPages" "state" "LRingPages$State;" ∈ wsX7_where := by decide +kernel
set_option maxHeartbeats 4000000 in
set_option maxRecDepth 100000 in
theorem mX7_where {NC : Nat} (hN : 79 ≤ NC) (ph : Nat → Nat)  (M : rm_M) (rho : Int32 × rm_M)  (hf : fX7_where M = some rho) : rm_CI yX7_where wsX7_where 4 101 [.ref (ph 0)] NC ph M rho := by
  refine rm_metI (cc := cX7_where) (maxL := 1) (by decide +kernel) rfl rfl (Nat.le_of_ble_eq_true rfl) rfl (fun G hG hR => ?_)
  unfold fX7_where at hf
  refine rr_aload_n hG dX7_where_0 0 rfl rfl ?_
  refine rr_get hG 7 3 (v := .ref (ph 10)) dX7_where_1 (rm_c hN rfl (by decide)) (by decide) rfl tX7_where_X7 (by decide) kX7_where_33 rfl rfl ?_
  refine rr_aload_n hG dX7_where_4 0 rfl rfl ?_
  refine rr_get hG 7 6 dX7_where_5 (rm_c hN rfl (by decide)) (by decide) rfl tX7_where_X7 (by decide) kX7_where_54 rfl rfl ?_
  refine rr_bindP hf (fun p1 ep1 hf => ?_)
  obtain ⟨kp1, hf⟩ := rm_if hf
  have kp1 := rm_kc1 hN kp1
  refine rr_aload_n hG dX7_where_8 0 rfl rfl ?_
  refine rr_get hG 7 7 dX7_where_9 (rm_c hN rfl (by decide)) (by decide) rfl tX7_where_X7 (by decide) kX7_where_58 rfl rfl ?_
  refine rr_bindP hf (fun p2 ep2 hf => ?_)
  obtain ⟨kp2, hf⟩ := rm_if hf
  have kp2 := rm_kc4 hN kp2
  refine rr_cVI hG (st := []) (n := 2) (ci := 6) (rf := 3) (rl := 74) [.ref (ph p1), .ref (ph p2)] dX7_where_12 hf (rm_c hN rfl (by decide)) (by decide) rfl gX7_where_X6_find rfl (by decide +kernel) rfl ⟨by decide, by decide⟩ rfl (Nat.le_of_ble_eq_true rfl) (fun r9 M9 h9 => mX6_find hN ph _ _ _ _ kp1 kp2 h9) (fun r4 M5 h3 hf => ?_)
  exact rr_iret hG hR dX7_where_15 hf
/-! X7.round -/
theorem tX7_round_X3 : ∀ w ∈ u_ws RX3 TX3 4, w ∈ wsX7_round := by decide +kernel
theorem tX7_round_X7 : ∀ w ∈ u_ws RX7 TX7 10, w ∈ wsX7_round := by decide +kernel
theorem kX7_round_40 : Cond.fieldLink RX7 40 "RingPages" "rounds" "LRingPages$Rounds;" ∈ wsX7_round := by decide +kernel
theorem kX7_round_175 : Cond.fieldLink RX7 175 "RingPages$Rounds" "many" "I" ∈ wsX7_round := by decide +kernel
set_option maxHeartbeats 4000000 in
set_option maxRecDepth 100000 in
theorem mX7_round {NC : Nat} (hN : 79 ≤ NC) (ph : Nat → Nat) (a1 : Int32) (M : rm_M) (rho : Int32 × rm_M)  (hf : fX7_round a1 M = some rho) : rm_CI yX7_round wsX7_round 5 121 [.ref (ph 0), .int a1] NC ph M rho := by
  refine rm_metI (cc := cX7_round) (maxL := 2) (by decide +kernel) rfl rfl (Nat.le_of_ble_eq_true rfl) rfl (fun G hG hR => ?_)
  unfold fX7_round at hf
  refine rr_iload_n hG dX7_round_0 1 rfl rfl ?_
  refine rr_iconst hG (v := (-1)) dX7_round_1 (by decide) ?_
  refine rr_icmp_ge hG (tgt := 7) dX7_round_2 (by decide) hf (fun c1 hf => ?_) (fun c1 hf => ?_)
  · refine rr_aload_n hG dX7_round_7 0 rfl rfl ?_
    refine rr_cVV hG (st := []) (n := 0) (ci := 7) (rf := 4) (rl := 101) [] dX7_round_8 hf (rm_c hN rfl (by decide)) (by decide) rfl gX7_round_X7_seek rfl (by decide +kernel) rfl ⟨by decide, by decide⟩ rfl (Nat.le_of_ble_eq_true rfl) (fun M9 h9 => mX7_seek hN ph _ _ h9) (fun M3 h2 hf => ?_)
    refine rr_iload_n hG dX7_round_11 1 rfl rfl ?_
    refine rr_iconst hG (v := (-1)) dX7_round_12 (by decide) ?_
    refine rr_icmp_ne hG (tgt := 24) dX7_round_13 (by decide) hf (fun c4 hf => ?_) (fun c4 hf => ?_)
    · refine rr_iload_n hG dX7_round_24 1 rfl rfl ?_
      refine rr_aload_n hG dX7_round_25 0 rfl rfl ?_
      refine rr_get hG 7 4 (v := .ref (ph 12)) dX7_round_26 (rm_c hN rfl (by decide)) (by decide) rfl tX7_round_X7 (by decide) kX7_round_40 rfl rfl ?_
      refine rr_get hG 3 3 dX7_round_29 (rm_c hN rfl (by decide)) (by decide) rfl tX7_round_X3 (by decide) kX7_round_175 rfl rfl ?_
      refine rr_icmp_ge hG (tgt := 46) dX7_round_32 (by decide) hf (fun c5 hf => ?_) (fun c5 hf => ?_)
      · refine rr_bipush hG (v := (-4)) dX7_round_46 (by decide) ?_
        exact rr_iret hG hR dX7_round_48 hf
      · refine rr_aload_n hG dX7_round_35 0 rfl rfl ?_
        refine rr_get hG 7 4 (v := .ref (ph 12)) dX7_round_36 (rm_c hN rfl (by decide)) (by decide) rfl tX7_round_X7 (by decide) kX7_round_40 rfl rfl ?_
        refine rr_iload_n hG dX7_round_39 1 rfl rfl ?_
        refine rr_cVI hG (st := []) (n := 1) (ci := 3) (rf := 2) (rl := 43) [.int a1] dX7_round_40 hf (rm_c hN rfl (by decide)) (by decide) rfl gX7_round_X3_cellsOf rfl (by decide +kernel) rfl ⟨by decide, by decide⟩ rfl (Nat.le_of_ble_eq_true rfl) (fun r9 M9 h9 => mX3_cellsOf hN ph _ _ _ h9) (fun r7 M8 h6 hf => ?_)
        refine rr_goto hG (tgt := 48) dX7_round_43 (by decide) ?_
        exact rr_iret hG hR dX7_round_48 hf
    · refine rr_aload_n hG dX7_round_16 0 rfl rfl ?_
      refine rr_get hG 7 4 (v := .ref (ph 12)) dX7_round_17 (rm_c hN rfl (by decide)) (by decide) rfl tX7_round_X7 (by decide) kX7_round_40 rfl rfl ?_
      refine rr_get hG 3 3 dX7_round_20 (rm_c hN rfl (by decide)) (by decide) rfl tX7_round_X3 (by decide) kX7_round_175 rfl rfl ?_
      exact rr_iret hG hR dX7_round_23 hf
  · refine rr_iconst hG (v := (-1)) dX7_round_5 (by decide) ?_
    exact rr_iret hG hR dX7_round_6 hf
/-! X7.isPart -/
set_option maxHeartbeats 4000000 in
set_option maxRecDepth 100000 in
theorem wX7_isPart_L9 {G : rm_G} {NC : Nat} (hN : 79 ≤ NC) {ph : Nat → Nat} {rho : Int32 × rm_M} (a0 : Int32) (hG : rm_k G NC ph cX7_isPart RX7 wsX7_isPart 1 0 0) (hR : rm_rI G NC ph .boolean rho)    : ∀  (M : rm_M), fX7_isPart_L9 a0 M = some rho → rm_L G NC ph 1 9 [] [] M := by
  intro M hf
  unfold fX7_isPart_L9 at hf
  refine rr_iconst hG (v := 1) dX7_isPart_9 (by decide) ?_
  refine rr_goto hG (tgt := 14) dX7_isPart_10 (by decide) ?_
  exact rr_zret hG hR dX7_isPart_14 hf
set_option maxHeartbeats 4000000 in
set_option maxRecDepth 100000 in
theorem mX7_isPart {NC : Nat} (hN : 79 ≤ NC) (ph : Nat → Nat) (a0 : Int32) (M : rm_M) (rho : Int32 × rm_M)  (hf : fX7_isPart a0 M = some rho) : rm_CI yX7_isPart wsX7_isPart 0 0 [.int a0] NC ph M rho := by
  refine rm_metI (cc := cX7_isPart) (maxL := 1) (by decide +kernel) rfl rfl (Nat.le_of_ble_eq_true rfl) rfl (fun G hG hR => ?_)
  unfold fX7_isPart at hf
  refine rr_iload_n hG dX7_isPart_0 0 rfl rfl ?_
  refine rr_if_eq hG (tgt := 9) dX7_isPart_1 (by decide) hf (fun c1 hf => ?_) (fun c1 hf => ?_)
  · exact rr_sub (lv2 := []) [] rfl (wX7_isPart_L9 hN _ hG hR _ hf)
  · refine rr_iload_n hG dX7_isPart_4 0 rfl rfl ?_
    refine rr_iconst hG (v := 1) dX7_isPart_5 (by decide) ?_
    refine rr_icmp_ne hG (tgt := 13) dX7_isPart_6 (by decide) hf (fun c2 hf => ?_) (fun c2 hf => ?_)
    · refine rr_iconst hG (v := 0) dX7_isPart_13 (by decide) ?_
      exact rr_zret hG hR dX7_isPart_14 hf
    · exact rr_sub (lv2 := []) [] rfl (wX7_isPart_L9 hN _ hG hR _ hf)
/-! X7.greatestShared -/
set_option maxHeartbeats 4000000 in
set_option maxRecDepth 100000 in
theorem wX7_greatestShared_L3 {G : rm_G} {NC : Nat} (hN : 79 ≤ NC) {ph : Nat → Nat} {rho : Int64 × rm_M}  (hG : rm_k G NC ph cX7_greatestShared RX7 wsX7_greatestShared 7 0 0) (hR : rm_rJ G NC ph rho)    : ∀ (n : Nat) (x0 : Int64) (x2 : Int64) (x4 : Int32) (M : rm_M), fX7_greatestShared_L3 n x0 x2 x4 M = some rho → rm_L G NC ph 7 3 [(0, .long x0), (2, .long x2), (4, .int x4)] [] M := by
  intro n
  induction n with
  | zero => intro x0 x2 x4 M hf; rw [fX7_greatestShared_L3] at hf; cases hf
  | succ n ih =>
    intro x0 x2 x4 M hf
    rw [fX7_greatestShared_L3] at hf
    refine rr_iload hG dX7_greatestShared_3 2 rfl ?_
    refine rr_sipush hG (v := 200) dX7_greatestShared_5 (by decide) ?_
    refine rr_icmp_ge hG (tgt := 33) dX7_greatestShared_8 (by decide) hf (fun c1 hf => ?_) (fun c1 hf => ?_)
    · refine rr_lload_n hG dX7_greatestShared_33 0 rfl rfl ?_
      exact rr_lret hG hR dX7_greatestShared_34 hf
    · refine rr_lload_n hG dX7_greatestShared_11 1 rfl rfl ?_
      refine rr_lconst hG (v := 0) dX7_greatestShared_12 (by decide) ?_
      refine rr_lcmp hG dX7_greatestShared_13 ?_
      refine rr_if_eq hG (tgt := 33) dX7_greatestShared_14 (by decide) hf (fun c2 hf => ?_) (fun c2 hf => ?_)
      · refine rr_lload_n hG dX7_greatestShared_33 0 rfl rfl ?_
        exact rr_lret hG hR dX7_greatestShared_34 hf
      · refine rr_lload_n hG dX7_greatestShared_17 0 rfl rfl ?_
        refine rr_lload_n hG dX7_greatestShared_18 1 rfl rfl ?_
        refine rr_lrem hG dX7_greatestShared_19 hf (fun hf => ?_)
        refine rr_bindJ hf (fun v3 ev3 hf => ?_)
        refine rr_lstore hG (lv2 := [(5, .long v3), (0, .long x0), (2, .long x2), (4, .int x4)]) dX7_greatestShared_20 (by decide) rfl ?_
        refine rr_lload_n hG dX7_greatestShared_22 2 rfl rfl ?_
        refine rr_lstore_n hG (lv2 := [(0, .long x2), (5, .long v3), (2, .long x2), (4, .int x4)]) dX7_greatestShared_23 rfl (by decide) rfl ?_
        refine rr_lload hG dX7_greatestShared_24 1 rfl ?_
        refine rr_lstore_n hG (lv2 := [(2, .long v3), (0, .long x2), (5, .long v3), (4, .int x4)]) dX7_greatestShared_26 rfl (by decide) rfl ?_
        refine rr_iinc hG (v := x4 + (1 : Int32)) (lv2 := [(4, .int (x4 + (1 : Int32))), (2, .long v3), (0, .long x2), (5, .long v3)]) (k := 3) dX7_greatestShared_27 rfl rfl (by decide) rfl ?_
        refine rr_goto hG (tgt := 3) dX7_greatestShared_30 (by decide) ?_
        exact rr_sub (lv2 := [(0, .long x2), (2, .long v3), (4, .int (x4 + (1 : Int32)))]) [2, 1, 0] rfl (ih _ _ _ _ hf)
set_option maxHeartbeats 4000000 in
set_option maxRecDepth 100000 in
theorem mX7_greatestShared {NC : Nat} (hN : 79 ≤ NC) (ph : Nat → Nat) (a0 : Int64) (a2 : Int64) (M : rm_M) (rho : Int64 × rm_M)  (hf : fX7_greatestShared a0 a2 M = some rho) : rm_CJ yX7_greatestShared wsX7_greatestShared 0 0 [.long a0, .long a2] NC ph M rho := by
  refine rm_metJ (cc := cX7_greatestShared) (maxL := 7) (by decide +kernel) rfl rfl (Nat.le_of_ble_eq_true rfl) rfl (fun G hG hR => ?_)
  unfold fX7_greatestShared at hf
  refine rr_iconst hG (v := 0) dX7_greatestShared_0 (by decide) ?_
  refine rr_istore hG (lv2 := [(4, .int (0 : Int32)), (0, .long a0), (2, .long a2)]) dX7_greatestShared_1 (by decide) rfl ?_
  exact rr_sub (lv2 := [(0, .long a0), (2, .long a2), (4, .int (0 : Int32))]) [1, 2, 0] rfl (wX7_greatestShared_L3 hN hG hR _ _ _ _ _ hf)
/-! X7.lowest -/
set_option maxHeartbeats 4000000 in
set_option maxRecDepth 100000 in
theorem mX7_lowest {NC : Nat} (hN : 79 ≤ NC) (ph : Nat → Nat) (a0 : Int64) (a2 : Int64) (a4 : Int32) (M : rm_M) (rho : Int64 × rm_M)  (hf : fX7_lowest a0 a2 a4 M = some rho) : rm_CJ yX7_lowest wsX7_lowest 1 26 [.long a0, .long a2, .int a4] NC ph M rho := by
  refine rm_metJ (cc := cX7_lowest) (maxL := 7) (by decide +kernel) rfl rfl (Nat.le_of_ble_eq_true rfl) rfl (fun G hG hR => ?_)
  unfold fX7_lowest at hf
  refine rr_lload_n hG dX7_lowest_0 0 rfl rfl ?_
  refine rr_lload_n hG dX7_lowest_1 1 rfl rfl ?_
  refine rr_cSJ hG (st := []) (n := 2) (rf := 0) (rl := 0) [.long a0, .long a2] dX7_lowest_2 hf gX7_lowest_X7_greatestShared rfl (by decide +kernel) rfl ⟨by decide, by decide⟩ rfl (Nat.le_of_ble_eq_true rfl) (fun r9 M9 h9 => mX7_greatestShared hN ph _ _ _ _ h9) (fun r2 M3 h1 hf => ?_)
  refine rr_lstore hG (lv2 := [(5, .long r2), (0, .long a0), (2, .long a2), (4, .int a4)]) dX7_lowest_5 (by decide) rfl ?_
  refine rr_lload hG dX7_lowest_7 0 rfl ?_
  refine rr_lconst hG (v := 0) dX7_lowest_9 (by decide) ?_
  refine rr_lcmp hG dX7_lowest_10 ?_
  refine rr_if_ne hG (tgt := 18) dX7_lowest_11 (by decide) hf (fun c4 hf => ?_) (fun c4 hf => ?_)
  · refine rr_iload hG dX7_lowest_18 3 rfl ?_
    refine rr_if_ne hG (tgt := 27) dX7_lowest_20 (by decide) hf (fun c5 hf => ?_) (fun c5 hf => ?_)
    · refine rr_lload_n hG dX7_lowest_27 2 rfl rfl ?_
      refine rr_lload hG dX7_lowest_28 0 rfl ?_
      refine rr_ldiv hG dX7_lowest_30 hf (fun hf => ?_)
      exact rr_lret hG hR dX7_lowest_31 hf
    · refine rr_lload_n hG dX7_lowest_23 1 rfl rfl ?_
      refine rr_goto hG (tgt := 28) dX7_lowest_24 (by decide) ?_
      refine rr_lload hG dX7_lowest_28 0 rfl ?_
      refine rr_ldiv hG dX7_lowest_30 hf (fun hf => ?_)
      exact rr_lret hG hR dX7_lowest_31 hf
  · refine rr_iload hG dX7_lowest_14 3 rfl ?_
    refine rr_i2l hG dX7_lowest_16 ?_
    exact rr_lret hG hR dX7_lowest_17 hf
/-! X7.chance -/
theorem tX7_chance_X0 : ∀ w ∈ u_ws RX0 TX0 6, w ∈ wsX7_chance := by decide +kernel
theorem tX7_chance_X7 : ∀ w ∈ u_ws RX7 TX7 10, w ∈ wsX7_chance := by decide +kernel
theorem kX7_chance_234 : Cond.constantLong RX7 234 (-1) ∈ wsX7_chance := by decide +kernel
theorem kX7_chance_26 : Cond.fieldLink RX7 26 "RingPages" "longRun" "LRingPages$LongRun;" ∈ wsX7_chance := by decide +kernel
theorem kX7_chance_217 : Cond.fieldLink RX7 217 "RingPages$LongRun" "above" "[J" ∈ wsX7_chance := by decide +kernel
theorem kX7_chance_236 : Cond.fieldLink RX7 236 "RingPages$LongRun" "below" "J" ∈ wsX7_chance := by decide +kernel
set_option maxHeartbeats 4000000 in
set_option maxRecDepth 100000 in
theorem mX7_chance {NC : Nat} (hN : 79 ≤ NC) (ph : Nat → Nat) (a1 : Int32) (a2 : Int32) (M : rm_M) (rho : Int64 × rm_M)  (hf : fX7_chance a1 a2 M = some rho) : rm_CJ yX7_chance wsX7_chance 2 52 [.ref (ph 0), .int a1, .int a2] NC ph M rho := by
  refine rm_metJ (cc := cX7_chance) (maxL := 3) (by decide +kernel) rfl rfl (Nat.le_of_ble_eq_true rfl) rfl (fun G hG hR => ?_)
  unfold fX7_chance at hf
  refine rr_aload_n hG dX7_chance_0 0 rfl rfl ?_
  refine rr_iload_n hG dX7_chance_1 1 rfl rfl ?_
  refine rr_cVI hG (st := []) (n := 1) (ci := 7) (rf := 0) (rl := 0) [.int a1] dX7_chance_2 hf (rm_c hN rfl (by decide)) (by decide) rfl gX7_chance_X7_isCell rfl (by decide +kernel) rfl ⟨by decide, by decide⟩ rfl (Nat.le_of_ble_eq_true rfl) (fun r9 M9 h9 => mX7_isCell hN ph _ _ _ h9) (fun r2 M3 h1 hf => ?_)
  refine rr_if_eq hG (tgt := 15) dX7_chance_5 (by decide) hf (fun c4 hf => ?_) (fun c4 hf => ?_)
  · refine rr_ldc2 hG (v := (-1)) dX7_chance_15 kX7_chance_234 ?_
    exact rr_lret hG hR dX7_chance_18 hf
  · refine rr_iload_n hG dX7_chance_8 2 rfl rfl ?_
    refine rr_cSI hG (st := []) (n := 1) (rf := 0) (rl := 0) [.int a2] dX7_chance_9 hf gX7_chance_X7_isPart rfl (by decide +kernel) rfl ⟨by decide, by decide⟩ rfl (Nat.le_of_ble_eq_true rfl) (fun r9 M9 h9 => mX7_isPart hN ph _ _ _ h9) (fun r6 M7 h5 hf => ?_)
    refine rr_if_ne hG (tgt := 19) dX7_chance_12 (by decide) hf (fun c8 hf => ?_) (fun c8 hf => ?_)
    · refine rr_aload_n hG dX7_chance_19 0 rfl rfl ?_
      refine rr_get hG 7 2 (v := .ref (ph 6)) dX7_chance_20 (rm_c hN rfl (by decide)) (by decide) rfl tX7_chance_X7 (by decide) kX7_chance_26 rfl rfl ?_
      refine rr_get hG 0 0 (v := .ref (ph 7)) dX7_chance_23 (rm_c hN rfl (by decide)) (by decide) rfl tX7_chance_X0 (by decide) kX7_chance_217 rfl rfl ?_
      refine rr_iload_n hG dX7_chance_26 1 rfl rfl ?_
      refine rr_lald hG dX7_chance_27 (rm_c hN rfl (by decide)) hf (fun b9 hf => ?_)
      refine rr_aload_n hG dX7_chance_28 0 rfl rfl ?_
      refine rr_get hG 7 2 (v := .ref (ph 6)) dX7_chance_29 (rm_c hN rfl (by decide)) (by decide) rfl tX7_chance_X7 (by decide) kX7_chance_26 rfl rfl ?_
      refine rr_get hG 0 1 dX7_chance_32 (rm_c hN rfl (by decide)) (by decide) rfl tX7_chance_X0 (by decide) kX7_chance_236 rfl rfl ?_
      refine rr_iload_n hG dX7_chance_35 2 rfl rfl ?_
      refine rr_cSJ hG (st := []) (n := 3) (rf := 1) (rl := 26) [.long (M7.2.1 7 (a1).toNatClampNeg), .long (M7.2.1 6 1), .int a2] dX7_chance_36 hf gX7_chance_X7_lowest rfl (by decide +kernel) rfl ⟨by decide, by decide⟩ rfl (Nat.le_of_ble_eq_true rfl) (fun r9 M9 h9 => mX7_lowest hN ph _ _ _ _ _ h9) (fun r11 M12 h10 hf => ?_)
      exact rr_lret hG hR dX7_chance_39 hf
    · refine rr_ldc2 hG (v := (-1)) dX7_chance_15 kX7_chance_234 ?_
      exact rr_lret hG hR dX7_chance_18 hf
/-! X7.rate -/
theorem tX7_rate_X0 : ∀ w ∈ u_ws RX0 TX0 6, w ∈ wsX7_rate := by decide +kernel
theorem tX7_rate_X4 : ∀ w ∈ u_ws RX4 TX4 10, w ∈ wsX7_rate := by decide +kernel
theorem tX7_rate_X7 : ∀ w ∈ u_ws RX7 TX7 10, w ∈ wsX7_rate := by decide +kernel
theorem kX7_rate_58 : Cond.fieldLink RX7 58 "RingPages" "state" "LRingPages$State;" ∈ wsX7_rate := by decide +kernel
theorem kX7_rate_131 : Cond.fieldLink RX7 131 "RingPages$State" "kind" "I" ∈ wsX7_rate := by decide +kernel
theorem kX7_rate_26 : Cond.fieldLink RX7 26 "RingPages" "longRun" "LRingPages$LongRun;" ∈ wsX7_rate := by decide +kernel
theorem kX7_rate_54 : Cond.fieldLink RX7 54 "RingPages" "net" "LRingPages$Net;" ∈ wsX7_rate := by decide +kernel
theorem kX7_rate_117 : Cond.fieldLink RX7 117 "RingPages$State" "area" "[I" ∈ wsX7_rate := by decide +kernel
theorem kX7_rate_236 : Cond.fieldLink RX7 236 "RingPages$LongRun" "below" "J" ∈ wsX7_rate := by decide +kernel
theorem kX7_rate_134 : Cond.fieldLink RX7 134 "RingPages$State" "value" "I" ∈ wsX7_rate := by decide +kernel
theorem kX7_rate_261 : Cond.constantLong RX7 261 (-4) ∈ wsX7_rate := by decide +kernel
set_option maxHeartbeats 4000000 in
set_option maxRecDepth 100000 in
theorem mX7_rate {NC : Nat} (hN : 79 ≤ NC) (ph : Nat → Nat) (a1 : Int32) (M : rm_M) (rho : Int64 × rm_M)  (hf : fX7_rate a1 M = some rho) : rm_CJ yX7_rate wsX7_rate 2 52 [.ref (ph 0), .int a1] NC ph M rho := by
  refine rm_metJ (cc := cX7_rate) (maxL := 2) (by decide +kernel) rfl rfl (Nat.le_of_ble_eq_true rfl) rfl (fun G hG hR => ?_)
  unfold fX7_rate at hf
  refine rr_aload_n hG dX7_rate_0 0 rfl rfl ?_
  refine rr_get hG 7 7 dX7_rate_1 (rm_c hN rfl (by decide)) (by decide) rfl tX7_rate_X7 (by decide) kX7_rate_58 rfl rfl ?_
  refine rr_bindP hf (fun p1 ep1 hf => ?_)
  obtain ⟨kp1, hf⟩ := rm_if hf
  have kp1 := rm_kc4 hN kp1
  refine rr_get hG 4 2 dX7_rate_4 kp1 (by decide) rfl tX7_rate_X4 (by decide) kX7_rate_131 rfl rfl ?_
  refine rr_bindI hf (fun v2 ev2 hf => ?_)
  by_cases c3 : v2 = 0
  · rw [if_pos c3] at hf
    refine rr_tableIn hG (tgt := 32) (0) dX7_rate_7 (by rw [c3]; decide) (by decide) (by decide) rfl (by decide) ?_
    refine rr_aload_n hG dX7_rate_32 0 rfl rfl ?_
    refine rr_get hG 7 2 (v := .ref (ph 6)) dX7_rate_33 (rm_c hN rfl (by decide)) (by decide) rfl tX7_rate_X7 (by decide) kX7_rate_26 rfl rfl ?_
    refine rr_aload_n hG dX7_rate_36 0 rfl rfl ?_
    refine rr_get hG 7 6 dX7_rate_37 (rm_c hN rfl (by decide)) (by decide) rfl tX7_rate_X7 (by decide) kX7_rate_54 rfl rfl ?_
    refine rr_bindP hf (fun p4 ep4 hf => ?_)
    obtain ⟨kp4, hf⟩ := rm_if hf
    have kp4 := rm_kc1 hN kp4
    refine rr_aload_n hG dX7_rate_40 0 rfl rfl ?_
    refine rr_get hG 7 7 dX7_rate_41 (rm_c hN rfl (by decide)) (by decide) rfl tX7_rate_X7 (by decide) kX7_rate_58 rfl rfl ?_
    refine rr_bindP hf (fun p5 ep5 hf => ?_)
    obtain ⟨kp5, hf⟩ := rm_if hf
    have kp5 := rm_kc4 hN kp5
    refine rr_get hG 4 1 (v := .ref (ph (p5 + 2))) dX7_rate_44 kp5 (by decide) rfl tX7_rate_X4 (by decide) kX7_rate_117 rfl rfl ?_
    refine rr_cVJ hG (st := []) (n := 2) (ci := 0) (rf := 0) (rl := 0) [.ref (ph p4), .ref (ph (p5 + 2))] dX7_rate_47 hf (rm_c hN rfl (by decide)) (by decide) rfl gX7_rate_X0_crosses rfl (by decide +kernel) rfl ⟨by decide, by decide⟩ rfl (Nat.le_of_ble_eq_true rfl) (fun r9 M9 h9 => mX0_crosses hN ph _ _ _ _ kp4 (rm_kself (rm_kX4_2 hN kp5)) h9) (fun r7 M8 h6 hf => ?_)
    refine rr_aload_n hG dX7_rate_50 0 rfl rfl ?_
    refine rr_get hG 7 2 (v := .ref (ph 6)) dX7_rate_51 (rm_c hN rfl (by decide)) (by decide) rfl tX7_rate_X7 (by decide) kX7_rate_26 rfl rfl ?_
    refine rr_get hG 0 1 dX7_rate_54 (rm_c hN rfl (by decide)) (by decide) rfl tX7_rate_X0 (by decide) kX7_rate_236 rfl rfl ?_
    refine rr_iload_n hG dX7_rate_57 1 rfl rfl ?_
    refine rr_cSJ hG (st := []) (n := 3) (rf := 1) (rl := 26) [.long r7, .long (M8.2.1 6 1), .int a1] dX7_rate_58 hf gX7_rate_X7_lowest rfl (by decide +kernel) rfl ⟨by decide, by decide⟩ rfl (Nat.le_of_ble_eq_true rfl) (fun r9 M9 h9 => mX7_lowest hN ph _ _ _ _ _ h9) (fun r10 M11 h9 hf => ?_)
    exact rr_lret hG hR dX7_rate_61 hf
  · rw [if_neg c3] at hf
    by_cases c12 : v2 = 1
    · rw [if_pos c12] at hf
      refine rr_tableIn hG (tgt := 62) (1) dX7_rate_7 (by rw [c12]; decide) (by decide) (by decide) rfl (by decide) ?_
      refine rr_aload_n hG dX7_rate_62 0 rfl rfl ?_
      refine rr_get hG 7 2 (v := .ref (ph 6)) dX7_rate_63 (rm_c hN rfl (by decide)) (by decide) rfl tX7_rate_X7 (by decide) kX7_rate_26 rfl rfl ?_
      refine rr_aload_n hG dX7_rate_66 0 rfl rfl ?_
      refine rr_get hG 7 6 dX7_rate_67 (rm_c hN rfl (by decide)) (by decide) rfl tX7_rate_X7 (by decide) kX7_rate_54 rfl rfl ?_
      refine rr_bindP hf (fun p13 ep13 hf => ?_)
      obtain ⟨kp13, hf⟩ := rm_if hf
      have kp13 := rm_kc1 hN kp13
      refine rr_cVJ hG (st := []) (n := 1) (ci := 0) (rf := 0) (rl := 0) [.ref (ph p13)] dX7_rate_70 hf (rm_c hN rfl (by decide)) (by decide) rfl gX7_rate_X0_movesOn rfl (by decide +kernel) rfl ⟨by decide, by decide⟩ rfl (Nat.le_of_ble_eq_true rfl) (fun r9 M9 h9 => mX0_movesOn hN ph _ _ _ kp13 h9) (fun r15 M16 h14 hf => ?_)
      refine rr_aload_n hG dX7_rate_73 0 rfl rfl ?_
      refine rr_get hG 7 7 dX7_rate_74 (rm_c hN rfl (by decide)) (by decide) rfl tX7_rate_X7 (by decide) kX7_rate_58 rfl rfl ?_
      refine rr_bindP hf (fun p17 ep17 hf => ?_)
      obtain ⟨kp17, hf⟩ := rm_if hf
      have kp17 := rm_kc4 hN kp17
      refine rr_get hG 4 3 dX7_rate_77 kp17 (by decide) rfl tX7_rate_X4 (by decide) kX7_rate_134 rfl rfl ?_
      refine rr_i2l hG dX7_rate_80 ?_
      refine rr_aload_n hG dX7_rate_81 0 rfl rfl ?_
      refine rr_get hG 7 2 (v := .ref (ph 6)) dX7_rate_82 (rm_c hN rfl (by decide)) (by decide) rfl tX7_rate_X7 (by decide) kX7_rate_26 rfl rfl ?_
      refine rr_get hG 0 1 dX7_rate_85 (rm_c hN rfl (by decide)) (by decide) rfl tX7_rate_X0 (by decide) kX7_rate_236 rfl rfl ?_
      refine rr_lmul hG dX7_rate_88 ?_
      refine rr_iload_n hG dX7_rate_89 1 rfl rfl ?_
      refine rr_cSJ hG (st := []) (n := 3) (rf := 1) (rl := 26) [.long r15, .long (((M16.1 p17 3).toInt64) * (M16.2.1 6 1)), .int a1] dX7_rate_90 hf gX7_rate_X7_lowest rfl (by decide +kernel) rfl ⟨by decide, by decide⟩ rfl (Nat.le_of_ble_eq_true rfl) (fun r9 M9 h9 => mX7_lowest hN ph _ _ _ _ _ h9) (fun r19 M20 h18 hf => ?_)
      exact rr_lret hG hR dX7_rate_93 hf
    · rw [if_neg c12] at hf
      by_cases c21 : v2 = 2
      · rw [if_pos c21] at hf
        refine rr_tableIn hG (tgt := 94) (2) dX7_rate_7 (by rw [c21]; decide) (by decide) (by decide) rfl (by decide) ?_
        refine rr_lconst hG (v := 1) dX7_rate_94 (by decide) ?_
        refine rr_aload_n hG dX7_rate_95 0 rfl rfl ?_
        refine rr_get hG 7 7 dX7_rate_96 (rm_c hN rfl (by decide)) (by decide) rfl tX7_rate_X7 (by decide) kX7_rate_58 rfl rfl ?_
        refine rr_bindP hf (fun p22 ep22 hf => ?_)
        obtain ⟨kp22, hf⟩ := rm_if hf
        have kp22 := rm_kc4 hN kp22
        refine rr_get hG 4 3 dX7_rate_99 kp22 (by decide) rfl tX7_rate_X4 (by decide) kX7_rate_134 rfl rfl ?_
        refine rr_i2l hG dX7_rate_102 ?_
        refine rr_iload_n hG dX7_rate_103 1 rfl rfl ?_
        refine rr_cSJ hG (st := []) (n := 3) (rf := 1) (rl := 26) [.long (1 : Int64), .long ((M.1 p22 3).toInt64), .int a1] dX7_rate_104 hf gX7_rate_X7_lowest rfl (by decide +kernel) rfl ⟨by decide, by decide⟩ rfl (Nat.le_of_ble_eq_true rfl) (fun r9 M9 h9 => mX7_lowest hN ph _ _ _ _ _ h9) (fun r24 M25 h23 hf => ?_)
        exact rr_lret hG hR dX7_rate_107 hf
      · rw [if_neg c21] at hf
        have kk : rm_L G NC ph 2 108 [(0, .ref (ph 0)), (1, .int a1)] [] M := by
          refine rr_ldc2 hG (v := (-4)) dX7_rate_108 kX7_rate_261 ?_
          exact rr_lret hG hR dX7_rate_111 hf
        have hz : v2.toInt < 0 ∨ 2 < v2.toInt := by have n0 := lv_neT c3 (a := 0) (by decide); have n1 := lv_neT c12 (a := 1) (by decide); have n2 := lv_neT c21 (a := 2) (by decide); omega
        rcases hz with hz | hz
        · exact rr_tableOut hG (tgt := 108) dX7_rate_7 (Or.inl hz) (by decide) kk
        · exact rr_tableOut hG (tgt := 108) dX7_rate_7 (Or.inr hz) (by decide) kk
