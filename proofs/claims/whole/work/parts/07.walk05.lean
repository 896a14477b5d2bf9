/-! X5.takePrices -/
theorem tX5_takePrices_X5 : ∀ w ∈ u_ws RX5 TX5 4, w ∈ wsX5_takePrices := by decide +kernel
theorem kX5_takePrices_15 : Cond.fieldLink RX5 15 "RingPages$Text" "numbers" "[I" ∈ wsX5_takePrices := by decide +kernel
set_option maxHeartbeats 4000000 in
set_option maxRecDepth 100000 in
theorem mX5_takePrices {NC : Nat} (hN : 79 ≤ NC) (ph : Nat → Nat) (a1 : Nat) (M : rm_M) (rho : Int32 × rm_M) (ka1 : rm_kq NC a1 (1, 0)) (hf : fX5_takePrices a1 M = some rho) : rm_CI yX5_takePrices wsX5_takePrices 1 24 [.ref (ph 1), .ref (ph a1)] NC ph M rho := by
  refine rm_metI (cc := cX5_takePrices) (maxL := 2) (by decide +kernel) rfl rfl (Nat.le_of_ble_eq_true rfl) rfl (fun G hG hR => ?_)
  unfold fX5_takePrices at hf
  refine rr_aload_n hG dX5_takePrices_0 0 rfl rfl ?_
  refine rr_get hG 5 1 (v := .ref (ph 3)) dX5_takePrices_1 (rm_c hN rfl (by decide)) (by decide) rfl tX5_takePrices_X5 (by decide) kX5_takePrices_15 rfl rfl ?_
  refine rr_iconst hG (v := 0) dX5_takePrices_4 (by decide) ?_
  refine rr_iald hG dX5_takePrices_5 (rm_c hN rfl (by decide)) hf (fun b1 hf => ?_)
  refine rr_iconst hG (v := 1) dX5_takePrices_6 (by decide) ?_
  refine rr_icmp_lt hG (tgt := 20) dX5_takePrices_7 (by decide) hf (fun c2 hf => ?_) (fun c2 hf => ?_)
  · refine rr_iconst hG (v := 0) dX5_takePrices_20 (by decide) ?_
    exact rr_zret hG hR dX5_takePrices_21 hf
  · refine rr_aload_n hG dX5_takePrices_10 0 rfl rfl ?_
    refine rr_get hG 5 1 (v := .ref (ph 3)) dX5_takePrices_11 (rm_c hN rfl (by decide)) (by decide) rfl tX5_takePrices_X5 (by decide) kX5_takePrices_15 rfl rfl ?_
    refine rr_iconst hG (v := 0) dX5_takePrices_14 (by decide) ?_
    refine rr_iald hG dX5_takePrices_15 (rm_c hN rfl (by decide)) hf (fun b3 hf => ?_)
    refine rr_iconst hG (v := 4) dX5_takePrices_16 (by decide) ?_
    refine rr_icmp_le hG (tgt := 22) dX5_takePrices_17 (by decide) hf (fun c4 hf => ?_) (fun c4 hf => ?_)
    · refine rr_aload_n hG dX5_takePrices_22 1 rfl rfl ?_
      refine rr_aload_n hG dX5_takePrices_23 0 rfl rfl ?_
      refine rr_get hG 5 1 (v := .ref (ph 3)) dX5_takePrices_24 (rm_c hN rfl (by decide)) (by decide) rfl tX5_takePrices_X5 (by decide) kX5_takePrices_15 rfl rfl ?_
      refine rr_iconst hG (v := 0) dX5_takePrices_27 (by decide) ?_
      refine rr_iald hG dX5_takePrices_28 (rm_c hN rfl (by decide)) hf (fun b5 hf => ?_)
      refine rr_aload_n hG dX5_takePrices_29 0 rfl rfl ?_
      refine rr_get hG 5 1 (v := .ref (ph 3)) dX5_takePrices_30 (rm_c hN rfl (by decide)) (by decide) rfl tX5_takePrices_X5 (by decide) kX5_takePrices_15 rfl rfl ?_
      refine rr_iconst hG (v := 1) dX5_takePrices_33 (by decide) ?_
      refine rr_iald hG dX5_takePrices_34 (rm_c hN rfl (by decide)) hf (fun b6 hf => ?_)
      refine rr_aload_n hG dX5_takePrices_35 0 rfl rfl ?_
      refine rr_get hG 5 1 (v := .ref (ph 3)) dX5_takePrices_36 (rm_c hN rfl (by decide)) (by decide) rfl tX5_takePrices_X5 (by decide) kX5_takePrices_15 rfl rfl ?_
      refine rr_iconst hG (v := 2) dX5_takePrices_39 (by decide) ?_
      refine rr_iald hG dX5_takePrices_40 (rm_c hN rfl (by decide)) hf (fun b7 hf => ?_)
      refine rr_aload_n hG dX5_takePrices_41 0 rfl rfl ?_
      refine rr_get hG 5 1 (v := .ref (ph 3)) dX5_takePrices_42 (rm_c hN rfl (by decide)) (by decide) rfl tX5_takePrices_X5 (by decide) kX5_takePrices_15 rfl rfl ?_
      refine rr_iconst hG (v := 3) dX5_takePrices_45 (by decide) ?_
      refine rr_iald hG dX5_takePrices_46 (rm_c hN rfl (by decide)) hf (fun b8 hf => ?_)
      refine rr_cVV hG (st := []) (n := 4) (ci := 1) (rf := 0) (rl := 0) [.int (M.1 3 ((0 : Int32)).toNatClampNeg), .int (M.1 3 ((1 : Int32)).toNatClampNeg), .int (M.1 3 ((2 : Int32)).toNatClampNeg), .int (M.1 3 ((3 : Int32)).toNatClampNeg)] dX5_takePrices_47 hf ka1 (by decide) rfl gX5_takePrices_X1_price rfl (by decide +kernel) rfl ⟨by decide, by decide⟩ rfl (Nat.le_of_ble_eq_true rfl) (fun M9 h9 => mX1_price hN ph _ _ _ _ _ _ _ ka1 h9) (fun M10 h9 hf => ?_)
      refine rr_iconst hG (v := 1) dX5_takePrices_50 (by decide) ?_
      exact rr_zret hG hR dX5_takePrices_51 hf
    · refine rr_iconst hG (v := 0) dX5_takePrices_20 (by decide) ?_
      exact rr_zret hG hR dX5_takePrices_21 hf
/-! X5.readItem -/
theorem tX5_readItem_X1 : ∀ w ∈ u_ws RX1 TX1 12, w ∈ wsX5_readItem := by decide +kernel
theorem tX5_readItem_X4 : ∀ w ∈ u_ws RX4 TX4 10, w ∈ wsX5_readItem := by decide +kernel
theorem tX5_readItem_X5 : ∀ w ∈ u_ws RX5 TX5 4, w ∈ wsX5_readItem := by decide +kernel
theorem kX5_readItem_68 : Cond.fieldLink RX5 68 "RingPages$State" "area" "[I" ∈ wsX5_readItem := by decide +kernel
theorem kX5_readItem_61 : Cond.fieldLink RX5 61 "RingPages$State" "stay" "[I" ∈ wsX5_readItem := by decide +kernel
theorem kX5_readItem_32 : Cond.fieldLink RX5 32 "RingPages$Text" "place" "I" ∈ wsX5_readItem := by decide +kernel
theorem kX5_readItem_43 : Cond.fieldLink RX5 43 "RingPages$Net" "cells" "I" ∈ wsX5_readItem := by decide +kernel
set_option maxHeartbeats 4000000 in
set_option maxRecDepth 100000 in
theorem wX5_readItem_L42 {G : rm_G} {NC : Nat} (hN : 79 ≤ NC) {ph : Nat → Nat} {rho : Int32 × rm_M} (a1 : Nat) (a2 : Nat) (hG : rm_k G NC ph cX5_readItem RX5 wsX5_readItem 5 3 70) (hR : rm_rI G NC ph .boolean rho) (ka1 : rm_kq NC a1 (1, 0)) (ka2 : rm_kq NC a2 (4, 0))   : ∀ (x3 : Int32) (s0 : Int32) (s1 : Int32) (M : rm_M), fX5_readItem_L42 a1 a2 x3 s0 s1 M = some rho → rm_L G NC ph 5 42 [(0, .ref (ph 1)), (1, .ref (ph a1)), (2, .ref (ph a2)), (3, .int x3)] [.int s1, .int s0] M := by
  intro x3 s0 s1 M hf
  unfold fX5_readItem_L42 at hf
  refine rr_icmp_ne hG (tgt := 57) dX5_readItem_42 (by decide) hf (fun c1 hf => ?_) (fun c1 hf => ?_)
  · refine rr_iconst hG (v := 0) dX5_readItem_57 (by decide) ?_
    exact rr_zret hG hR dX5_readItem_58 hf
  · refine rr_aload_n hG dX5_readItem_45 0 rfl rfl ?_
    refine rr_aload_n hG dX5_readItem_46 0 rfl rfl ?_
    refine rr_iload_n hG dX5_readItem_47 3 rfl rfl ?_
    refine rr_cVI hG (st := [.ref (ph 1)]) (n := 1) (ci := 5) (rf := 0) (rl := 0) [.int x3] dX5_readItem_48 hf (rm_c hN rfl (by decide)) (by decide) rfl gX5_readItem_X5_numbersBehind rfl (by decide +kernel) rfl ⟨by decide, by decide⟩ rfl (Nat.le_of_ble_eq_true rfl) (fun r9 M9 h9 => mX5_numbersBehind hN ph _ _ _ h9) (fun r3 M4 h2 hf => ?_)
    refine rr_cVI hG (st := []) (n := 1) (ci := 5) (rf := 2) (rl := 43) [.int r3] dX5_readItem_51 hf (rm_c hN rfl (by decide)) (by decide) rfl gX5_readItem_X5_readNumbers rfl (by decide +kernel) rfl ⟨by decide, by decide⟩ rfl (Nat.le_of_ble_eq_true rfl) (fun r9 M9 h9 => mX5_readNumbers hN ph _ _ _ h9) (fun r6 M7 h5 hf => ?_)
    refine rr_if_ne hG (tgt := 59) dX5_readItem_54 (by decide) hf (fun c8 hf => ?_) (fun c8 hf => ?_)
    · refine rr_iload_n hG dX5_readItem_59 3 rfl rfl ?_
      by_cases c9 : x3 = 97
      · rw [if_pos c9] at hf
        refine rr_tableIn hG (tgt := 176) (97) dX5_readItem_60 (by rw [c9]; decide) (by decide) (by decide) rfl (by decide) ?_
        refine rr_aload_n hG dX5_readItem_176 0 rfl rfl ?_
        refine rr_aload_n hG dX5_readItem_177 1 rfl rfl ?_
        refine rr_aload_n hG dX5_readItem_178 2 rfl rfl ?_
        refine rr_get hG 4 1 (v := .ref (ph (a2 + 2))) dX5_readItem_179 ka2 (by decide) rfl tX5_readItem_X4 (by decide) kX5_readItem_68 rfl rfl ?_
        refine rr_iconst hG (v := 5) dX5_readItem_182 (by decide) ?_
        refine rr_cVI hG (st := []) (n := 3) (ci := 5) (rf := 0) (rl := 0) [.ref (ph a1), .ref (ph (a2 + 2)), .int (5 : Int32)] dX5_readItem_183 hf (rm_c hN rfl (by decide)) (by decide) rfl gX5_readItem_X5_takeCellNumber rfl (by decide +kernel) rfl ⟨by decide, by decide⟩ rfl (Nat.le_of_ble_eq_true rfl) (fun r9 M9 h9 => mX5_takeCellNumber hN ph _ _ _ _ _ ka1 (rm_kself (rm_kX4_2 hN ka2)) h9) (fun r11 M12 h10 hf => ?_)
        exact rr_zret hG hR dX5_readItem_186 hf
      · rw [if_neg c9] at hf
        by_cases c13 : x3 = 106
        · rw [if_pos c13] at hf
          refine rr_tableIn hG (tgt := 158) (106) dX5_readItem_60 (by rw [c13]; decide) (by decide) (by decide) rfl (by decide) ?_
          refine rr_aload_n hG dX5_readItem_158 0 rfl rfl ?_
          refine rr_aload_n hG dX5_readItem_159 1 rfl rfl ?_
          refine rr_cVI hG (st := []) (n := 1) (ci := 5) (rf := 2) (rl := 47) [.ref (ph a1)] dX5_readItem_160 hf (rm_c hN rfl (by decide)) (by decide) rfl gX5_readItem_X5_takeJoin rfl (by decide +kernel) rfl ⟨by decide, by decide⟩ rfl (Nat.le_of_ble_eq_true rfl) (fun r9 M9 h9 => mX5_takeJoin hN ph _ _ _ ka1 h9) (fun r15 M16 h14 hf => ?_)
          exact rr_zret hG hR dX5_readItem_163 hf
        · rw [if_neg c13] at hf
          by_cases c17 : x3 = 108
          · rw [if_pos c17] at hf
            refine rr_tableIn hG (tgt := 187) (108) dX5_readItem_60 (by rw [c17]; decide) (by decide) (by decide) rfl (by decide) ?_
            refine rr_aload_n hG dX5_readItem_187 0 rfl rfl ?_
            refine rr_aload_n hG dX5_readItem_188 2 rfl rfl ?_
            refine rr_cVI hG (st := []) (n := 1) (ci := 5) (rf := 1) (rl := 21) [.ref (ph a2)] dX5_readItem_189 hf (rm_c hN rfl (by decide)) (by decide) rfl gX5_readItem_X5_takeLaw rfl (by decide +kernel) rfl ⟨by decide, by decide⟩ rfl (Nat.le_of_ble_eq_true rfl) (fun r9 M9 h9 => mX5_takeLaw hN ph _ _ _ ka2 h9) (fun r19 M20 h18 hf => ?_)
            exact rr_zret hG hR dX5_readItem_192 hf
          · rw [if_neg c17] at hf
            by_cases c21 : x3 = 110
            · rw [if_pos c21] at hf
              refine rr_tableIn hG (tgt := 152) (110) dX5_readItem_60 (by rw [c21]; decide) (by decide) (by decide) rfl (by decide) ?_
              refine rr_aload_n hG dX5_readItem_152 0 rfl rfl ?_
              refine rr_aload_n hG dX5_readItem_153 1 rfl rfl ?_
              refine rr_cVI hG (st := []) (n := 1) (ci := 5) (rf := 2) (rl := 47) [.ref (ph a1)] dX5_readItem_154 hf (rm_c hN rfl (by decide)) (by decide) rfl gX5_readItem_X5_takeCells rfl (by decide +kernel) rfl ⟨by decide, by decide⟩ rfl (Nat.le_of_ble_eq_true rfl) (fun r9 M9 h9 => mX5_takeCells hN ph _ _ _ ka1 h9) (fun r23 M24 h22 hf => ?_)
              exact rr_zret hG hR dX5_readItem_157 hf
            · rw [if_neg c21] at hf
              by_cases c25 : x3 = 112
              · rw [if_pos c25] at hf
                refine rr_tableIn hG (tgt := 193) (112) dX5_readItem_60 (by rw [c25]; decide) (by decide) (by decide) rfl (by decide) ?_
                refine rr_aload_n hG dX5_readItem_193 0 rfl rfl ?_
                refine rr_aload_n hG dX5_readItem_194 1 rfl rfl ?_
                refine rr_cVI hG (st := []) (n := 1) (ci := 5) (rf := 1) (rl := 24) [.ref (ph a1)] dX5_readItem_195 hf (rm_c hN rfl (by decide)) (by decide) rfl gX5_readItem_X5_takePrices rfl (by decide +kernel) rfl ⟨by decide, by decide⟩ rfl (Nat.le_of_ble_eq_true rfl) (fun r9 M9 h9 => mX5_takePrices hN ph _ _ _ ka1 h9) (fun r27 M28 h26 hf => ?_)
                exact rr_zret hG hR dX5_readItem_198 hf
              · rw [if_neg c25] at hf
                by_cases c29 : x3 = 115
                · rw [if_pos c29] at hf
                  refine rr_tableIn hG (tgt := 164) (115) dX5_readItem_60 (by rw [c29]; decide) (by decide) (by decide) rfl (by decide) ?_
                  refine rr_aload_n hG dX5_readItem_164 0 rfl rfl ?_
                  refine rr_aload_n hG dX5_readItem_165 1 rfl rfl ?_
                  refine rr_aload_n hG dX5_readItem_166 2 rfl rfl ?_
                  refine rr_get hG 4 0 (v := .ref (ph (a2 + 1))) dX5_readItem_167 ka2 (by decide) rfl tX5_readItem_X4 (by decide) kX5_readItem_61 rfl rfl ?_
                  refine rr_bipush hG (v := 9) dX5_readItem_170 (by decide) ?_
                  refine rr_cVI hG (st := []) (n := 3) (ci := 5) (rf := 0) (rl := 0) [.ref (ph a1), .ref (ph (a2 + 1)), .int (9 : Int32)] dX5_readItem_172 hf (rm_c hN rfl (by decide)) (by decide) rfl gX5_readItem_X5_takeCellNumber rfl (by decide +kernel) rfl ⟨by decide, by decide⟩ rfl (Nat.le_of_ble_eq_true rfl) (fun r9 M9 h9 => mX5_takeCellNumber hN ph _ _ _ _ _ ka1 (rm_kself (rm_kX4_1 hN ka2)) h9) (fun r31 M32 h30 hf => ?_)
                  exact rr_zret hG hR dX5_readItem_175 hf
                · rw [if_neg c29] at hf
                  have kk : rm_L G NC ph 5 199 [(0, .ref (ph 1)), (1, .ref (ph a1)), (2, .ref (ph a2)), (3, .int x3)] [] M7 := by
                    refine rr_iconst hG (v := 0) dX5_readItem_199 (by decide) ?_
                    exact rr_zret hG hR dX5_readItem_200 hf
                  have hz : x3.toInt < 97 ∨ 115 < x3.toInt ∨ x3.toInt = 98 ∨ x3.toInt = 99 ∨ x3.toInt = 100 ∨ x3.toInt = 101 ∨ x3.toInt = 102 ∨ x3.toInt = 103 ∨ x3.toInt = 104 ∨ x3.toInt = 105 ∨ x3.toInt = 107 ∨ x3.toInt = 109 ∨ x3.toInt = 111 ∨ x3.toInt = 113 ∨ x3.toInt = 114 := by have n0 := lv_neT c9 (a := 97) (by decide); have n9 := lv_neT c13 (a := 106) (by decide); have n11 := lv_neT c17 (a := 108) (by decide); have n13 := lv_neT c21 (a := 110) (by decide); have n15 := lv_neT c25 (a := 112) (by decide); have n18 := lv_neT c29 (a := 115) (by decide); omega
                  rcases hz with hz | hz | hz | hz | hz | hz | hz | hz | hz | hz | hz | hz | hz | hz | hz
                  · exact rr_tableOut hG (tgt := 199) dX5_readItem_60 (Or.inl hz) (by decide) kk
                  · exact rr_tableOut hG (tgt := 199) dX5_readItem_60 (Or.inr hz) (by decide) kk
                  · exact rr_tableIn hG (tgt := 199) (98) dX5_readItem_60 hz (by decide) (by decide) rfl (by decide) kk
                  · exact rr_tableIn hG (tgt := 199) (99) dX5_readItem_60 hz (by decide) (by decide) rfl (by decide) kk
                  · exact rr_tableIn hG (tgt := 199) (100) dX5_readItem_60 hz (by decide) (by decide) rfl (by decide) kk
                  · exact rr_tableIn hG (tgt := 199) (101) dX5_readItem_60 hz (by decide) (by decide) rfl (by decide) kk
                  · exact rr_tableIn hG (tgt := 199) (102) dX5_readItem_60 hz (by decide) (by decide) rfl (by decide) kk
                  · exact rr_tableIn hG (tgt := 199) (103) dX5_readItem_60 hz (by decide) (by decide) rfl (by decide) kk
                  · exact rr_tableIn hG (tgt := 199) (104) dX5_readItem_60 hz (by decide) (by decide) rfl (by decide) kk
                  · exact rr_tableIn hG (tgt := 199) (105) dX5_readItem_60 hz (by decide) (by decide) rfl (by decide) kk
                  · exact rr_tableIn hG (tgt := 199) (107) dX5_readItem_60 hz (by decide) (by decide) rfl (by decide) kk
                  · exact rr_tableIn hG (tgt := 199) (109) dX5_readItem_60 hz (by decide) (by decide) rfl (by decide) kk
                  · exact rr_tableIn hG (tgt := 199) (111) dX5_readItem_60 hz (by decide) (by decide) rfl (by decide) kk
                  · exact rr_tableIn hG (tgt := 199) (113) dX5_readItem_60 hz (by decide) (by decide) rfl (by decide) kk
                  · exact rr_tableIn hG (tgt := 199) (114) dX5_readItem_60 hz (by decide) (by decide) rfl (by decide) kk
    · refine rr_iconst hG (v := 0) dX5_readItem_57 (by decide) ?_
      exact rr_zret hG hR dX5_readItem_58 hf
set_option maxHeartbeats 4000000 in
set_option maxRecDepth 100000 in
theorem wX5_readItem_L27 {G : rm_G} {NC : Nat} (hN : 79 ≤ NC) {ph : Nat → Nat} {rho : Int32 × rm_M} (a1 : Nat) (a2 : Nat) (hG : rm_k G NC ph cX5_readItem RX5 wsX5_readItem 5 3 70) (hR : rm_rI G NC ph .boolean rho) (ka1 : rm_kq NC a1 (1, 0)) (ka2 : rm_kq NC a2 (4, 0))   : ∀ (x3 : Int32) (s0 : Int32) (M : rm_M), fX5_readItem_L27 a1 a2 x3 s0 M = some rho → rm_L G NC ph 5 27 [(0, .ref (ph 1)), (1, .ref (ph a1)), (2, .ref (ph a2)), (3, .int x3)] [.int s0] M := by
  intro x3 s0 M hf
  unfold fX5_readItem_L27 at hf
  refine rr_istore hG (lv2 := [(4, .int s0), (0, .ref (ph 1)), (1, .ref (ph a1)), (2, .ref (ph a2)), (3, .int x3)]) dX5_readItem_27 (by decide) rfl ?_
  refine rr_iload hG dX5_readItem_29 0 rfl ?_
  refine rr_iload_n hG dX5_readItem_31 4 rfl rfl ?_
  refine rr_bipush hG (v := 110) dX5_readItem_32 (by decide) ?_
  refine rr_icmp_ne hG (tgt := 41) dX5_readItem_34 (by decide) hf (fun c33 hf => ?_) (fun c33 hf => ?_)
  · refine rr_iconst hG (v := 0) dX5_readItem_41 (by decide) ?_
    exact rr_sub (lv2 := [(0, .ref (ph 1)), (1, .ref (ph a1)), (2, .ref (ph a2)), (3, .int x3)]) [1, 2, 3, 4] rfl (wX5_readItem_L42 hN _ _ hG hR ka1 ka2 _ _ _ _ hf)
  · refine rr_iconst hG (v := 1) dX5_readItem_37 (by decide) ?_
    refine rr_goto hG (tgt := 42) dX5_readItem_38 (by decide) ?_
    exact rr_sub (lv2 := [(0, .ref (ph 1)), (1, .ref (ph a1)), (2, .ref (ph a2)), (3, .int x3)]) [1, 2, 3, 4] rfl (wX5_readItem_L42 hN _ _ hG hR ka1 ka2 _ _ _ _ hf)
set_option maxHeartbeats 4000000 in
set_option maxRecDepth 100000 in
theorem mX5_readItem {NC : Nat} (hN : 79 ≤ NC) (ph : Nat → Nat) (a1 : Nat) (a2 : Nat) (M : rm_M) (rho : Int32 × rm_M) (ka1 : rm_kq NC a1 (1, 0)) (ka2 : rm_kq NC a2 (4, 0)) (hf : fX5_readItem a1 a2 M = some rho) : rm_CI yX5_readItem wsX5_readItem 3 70 [.ref (ph 1), .ref (ph a1), .ref (ph a2)] NC ph M rho := by
  refine rm_metI (cc := cX5_readItem) (maxL := 5) (by decide +kernel) rfl rfl (Nat.le_of_ble_eq_true rfl) rfl (fun G hG hR => ?_)
  unfold fX5_readItem at hf
  refine rr_aload_n hG dX5_readItem_0 0 rfl rfl ?_
  refine rr_cVI hG (st := []) (n := 0) (ci := 5) (rf := 0) (rl := 0) [] dX5_readItem_1 hf (rm_c hN rfl (by decide)) (by decide) rfl gX5_readItem_X5_letterHere rfl (by decide +kernel) rfl ⟨by decide, by decide⟩ rfl (Nat.le_of_ble_eq_true rfl) (fun r9 M9 h9 => mX5_letterHere hN ph _ _ h9) (fun r35 M36 h34 hf => ?_)
  refine rr_istore_n hG (lv2 := [(3, .int r35), (0, .ref (ph 1)), (1, .ref (ph a1)), (2, .ref (ph a2))]) dX5_readItem_4 rfl (by decide) rfl ?_
  refine rr_aload_n hG dX5_readItem_5 1 rfl rfl ?_
  refine rr_dup hG dX5_readItem_6 rfl ?_
  refine rr_get hG 5 2 dX5_readItem_7 (rm_c hN rfl (by decide)) (by decide) rfl tX5_readItem_X5 (by decide) kX5_readItem_32 rfl rfl ?_
  refine rr_iconst hG (v := 1) dX5_readItem_10 (by decide) ?_
  refine rr_iadd hG dX5_readItem_11 ?_
  refine rr_putI hG 5 2 dX5_readItem_12 (rm_c hN rfl (by decide)) (by decide) rfl tX5_readItem_X5 tyX5_ok nmX5 (by decide) kX5_readItem_32 rfl rfl rfl rfl rfl (Nat.le_of_ble_eq_true rfl) rfl ?_
  refine rr_bindM hf (fun M37 eM37 hf => ?_)
  refine rr_aload_n hG dX5_readItem_15 2 rfl rfl ?_
  refine rr_get hG 1 0 dX5_readItem_16 ka1 (by decide) rfl tX5_readItem_X1 (by decide) kX5_readItem_43 rfl rfl ?_
  refine rr_if_ne hG (tgt := 26) dX5_readItem_19 (by decide) hf (fun c38 hf => ?_) (fun c38 hf => ?_)
  · refine rr_iconst hG (v := 0) dX5_readItem_26 (by decide) ?_
    exact rr_sub (lv2 := [(0, .ref (ph 1)), (1, .ref (ph a1)), (2, .ref (ph a2)), (3, .int r35)]) [1, 2, 3, 0] rfl (wX5_readItem_L27 hN _ _ hG hR ka1 ka2 _ _ _ hf)
  · refine rr_iconst hG (v := 1) dX5_readItem_22 (by decide) ?_
    refine rr_goto hG (tgt := 27) dX5_readItem_23 (by decide) ?_
    exact rr_sub (lv2 := [(0, .ref (ph 1)), (1, .ref (ph a1)), (2, .ref (ph a2)), (3, .int r35)]) [1, 2, 3, 0] rfl (wX5_readItem_L27 hN _ _ hG hR ka1 ka2 _ _ _ hf)
/-! X5.readInto -/
theorem tX5_readInto_X5 : ∀ w ∈ u_ws RX5 TX5 4, w ∈ wsX5_readInto := by decide +kernel
theorem kX5_readInto_32 : Cond.fieldLink RX5 32 "RingPages$Text" "place" "I" ∈ wsX5_readInto := by decide +kernel
theorem kX5_readInto_18 : Cond.fieldLink RX5 18 "RingPages$Text" "length" "I" ∈ wsX5_readInto := by decide +kernel
set_option maxHeartbeats 4000000 in
set_option maxRecDepth 100000 in
theorem wX5_readInto_L16 {G : rm_G} {NC : Nat} (hN : 79 ≤ NC) {ph : Nat → Nat} {rho : Int32 × rm_M} (a1 : Nat) (a2 : Nat) (hG : rm_k G NC ph cX5_readInto RX5 wsX5_readInto 5 4 94) (hR : rm_rI G NC ph .int rho) (ka1 : rm_kq NC a1 (1, 0)) (ka2 : rm_kq NC a2 (4, 0))   : ∀ (n : Nat) (x3 : Int32) (M : rm_M), fX5_readInto_L16 a1 a2 n x3 M = some rho → rm_L G NC ph 5 16 [(0, .ref (ph 1)), (1, .ref (ph a1)), (2, .ref (ph a2)), (3, .int x3)] [] M := by
  intro n
  induction n with
  | zero => intro x3 M hf; rw [fX5_readInto_L16] at hf; cases hf
  | succ n ih =>
    intro x3 M hf
    rw [fX5_readInto_L16] at hf
    refine rr_iload_n hG dX5_readInto_16 3 rfl rfl ?_
    refine rr_sipush hG (v := 200) dX5_readInto_17 (by decide) ?_
    refine rr_icmp_ge hG (tgt := 58) dX5_readInto_20 (by decide) hf (fun c1 hf => ?_) (fun c1 hf => ?_)
    · refine rr_bipush hG (v := (-4)) dX5_readInto_58 (by decide) ?_
      exact rr_iret hG hR dX5_readInto_60 hf
    · refine rr_aload_n hG dX5_readInto_23 0 rfl rfl ?_
      refine rr_get hG 5 2 dX5_readInto_24 (rm_c hN rfl (by decide)) (by decide) rfl tX5_readInto_X5 (by decide) kX5_readInto_32 rfl rfl ?_
      refine rr_aload_n hG dX5_readInto_27 0 rfl rfl ?_
      refine rr_get hG 5 3 dX5_readInto_28 (rm_c hN rfl (by decide)) (by decide) rfl tX5_readInto_X5 (by decide) kX5_readInto_18 rfl rfl ?_
      refine rr_icmp_ge hG (tgt := 58) dX5_readInto_31 (by decide) hf (fun c2 hf => ?_) (fun c2 hf => ?_)
      · refine rr_bipush hG (v := (-4)) dX5_readInto_58 (by decide) ?_
        exact rr_iret hG hR dX5_readInto_60 hf
      · refine rr_aload_n hG dX5_readInto_34 0 rfl rfl ?_
        refine rr_get hG 5 2 dX5_readInto_35 (rm_c hN rfl (by decide)) (by decide) rfl tX5_readInto_X5 (by decide) kX5_readInto_32 rfl rfl ?_
        refine rr_bindI hf (fun v3 ev3 hf => ?_)
        refine rr_istore hG (lv2 := [(4, .int v3), (0, .ref (ph 1)), (1, .ref (ph a1)), (2, .ref (ph a2)), (3, .int x3)]) dX5_readInto_38 (by decide) rfl ?_
        refine rr_aload_n hG dX5_readInto_40 1 rfl rfl ?_
        refine rr_aload_n hG dX5_readInto_41 2 rfl rfl ?_
        refine rr_aload_n hG dX5_readInto_42 3 rfl rfl ?_
        refine rr_cVI hG (st := []) (n := 2) (ci := 5) (rf := 3) (rl := 70) [.ref (ph a1), .ref (ph a2)] dX5_readInto_43 hf (rm_c hN rfl (by decide)) (by decide) rfl gX5_readInto_X5_readItem rfl (by decide +kernel) rfl ⟨by decide, by decide⟩ rfl (Nat.le_of_ble_eq_true rfl) (fun r9 M9 h9 => mX5_readItem hN ph _ _ _ _ ka1 ka2 h9) (fun r5 M6 h4 hf => ?_)
        refine rr_if_ne hG (tgt := 52) dX5_readInto_46 (by decide) hf (fun c7 hf => ?_) (fun c7 hf => ?_)
        · refine rr_iinc hG (v := x3 + (1 : Int32)) (lv2 := [(3, .int (x3 + (1 : Int32))), (4, .int v3), (0, .ref (ph 1)), (1, .ref (ph a1)), (2, .ref (ph a2))]) (k := 4) dX5_readInto_52 rfl rfl (by decide) rfl ?_
          refine rr_goto hG (tgt := 16) dX5_readInto_55 (by decide) ?_
          exact rr_sub (lv2 := [(0, .ref (ph 1)), (1, .ref (ph a1)), (2, .ref (ph a2)), (3, .int (x3 + (1 : Int32)))]) [2, 3, 4, 0] rfl (ih _ _ hf)
        · refine rr_iload hG dX5_readInto_49 0 rfl ?_
          exact rr_iret hG hR dX5_readInto_51 hf
set_option maxHeartbeats 4000000 in
set_option maxRecDepth 100000 in
theorem mX5_readInto {NC : Nat} (hN : 79 ≤ NC) (ph : Nat → Nat) (a1 : Nat) (a2 : Nat) (M : rm_M) (rho : Int32 × rm_M) (ka1 : rm_kq NC a1 (1, 0)) (ka2 : rm_kq NC a2 (4, 0)) (hf : fX5_readInto a1 a2 M = some rho) : rm_CI yX5_readInto wsX5_readInto 4 94 [.ref (ph 1), .ref (ph a1), .ref (ph a2)] NC ph M rho := by
  refine rm_metI (cc := cX5_readInto) (maxL := 5) (by decide +kernel) rfl rfl (Nat.le_of_ble_eq_true rfl) rfl (fun G hG hR => ?_)
  unfold fX5_readInto at hf
  refine rr_aload_n hG dX5_readInto_0 1 rfl rfl ?_
  refine rr_iconst hG (v := 0) dX5_readInto_1 (by decide) ?_
  refine rr_cVV hG (st := []) (n := 1) (ci := 1) (rf := 1) (rl := 24) [.int (0 : Int32)] dX5_readInto_2 hf ka1 (by decide) rfl gX5_readInto_X1_begin rfl (by decide +kernel) rfl ⟨by decide, by decide⟩ rfl (Nat.le_of_ble_eq_true rfl) (fun M9 h9 => mX1_begin hN ph _ _ _ _ ka1 h9) (fun M9 h8 hf => ?_)
  refine rr_aload_n hG dX5_readInto_5 2 rfl rfl ?_
  refine rr_cVV hG (st := []) (n := 0) (ci := 4) (rf := 1) (rl := 20) [] dX5_readInto_6 hf ka2 (by decide) rfl gX5_readInto_X4_begin rfl (by decide +kernel) rfl ⟨by decide, by decide⟩ rfl (Nat.le_of_ble_eq_true rfl) (fun M9 h9 => mX4_begin hN ph _ _ _ ka2 h9) (fun M11 h10 hf => ?_)
  refine rr_aload_n hG dX5_readInto_9 0 rfl rfl ?_
  refine rr_iconst hG (v := 0) dX5_readInto_10 (by decide) ?_
  refine rr_putI hG 5 2 dX5_readInto_11 (rm_c hN rfl (by decide)) (by decide) rfl tX5_readInto_X5 tyX5_ok nmX5 (by decide) kX5_readInto_32 rfl rfl rfl rfl rfl (Nat.le_of_ble_eq_true rfl) rfl ?_
  refine rr_bindM hf (fun M12 eM12 hf => ?_)
  refine rr_iconst hG (v := 0) dX5_readInto_14 (by decide) ?_
  refine rr_istore_n hG (lv2 := [(3, .int (0 : Int32)), (0, .ref (ph 1)), (1, .ref (ph a1)), (2, .ref (ph a2))]) dX5_readInto_15 rfl (by decide) rfl ?_
  exact rr_sub (lv2 := [(0, .ref (ph 1)), (1, .ref (ph a1)), (2, .ref (ph a2)), (3, .int (0 : Int32))]) [1, 2, 3, 0] rfl (wX5_readInto_L16 hN _ _ hG hR ka1 ka2 _ _ _ hf)
/-! X6.insideOf -/
theorem tX6_insideOf_X1 : ∀ w ∈ u_ws RX1 TX1 12, w ∈ wsX6_insideOf := by decide +kernel
theorem kX6_insideOf_44 : Cond.fieldLink RX6 44 "RingPages$Net" "cells" "I" ∈ wsX6_insideOf := by decide +kernel
set_option maxHeartbeats 4000000 in
set_option maxRecDepth 100000 in
theorem wX6_insideOf_L31 {G : rm_G} {NC : Nat} (hN : 79 ≤ NC) {ph : Nat → Nat} {rho : Int32 × rm_M} (a1 : Nat) (a2 : Nat) (hG : rm_k G NC ph cX6_insideOf RX6 wsX6_insideOf 5 1 22) (hR : rm_rI G NC ph .int rho) (ka1 : rm_kq NC a1 (1, 0)) (ka2 : rm_kq NC a2 (4, 0)) (q5 : Int32 → Int32 → rm_M → Option (Int32 × rm_M)) (hq5 : ∀ (x3 : Int32) (x4 : Int32) (M : rm_M), q5 x3 x4 M = some rho → rm_L G NC ph 5 5 [(1, .ref (ph a1)), (2, .ref (ph a2)), (3, .int x3), (4, .int x4)] [] M) : ∀ (x3 : Int32) (x4 : Int32) (M : rm_M), fX6_insideOf_L31 a1 a2 q5 x3 x4 M = some rho → rm_L G NC ph 5 31 [(1, .ref (ph a1)), (2, .ref (ph a2)), (3, .int x3), (4, .int x4)] [] M := by
  intro x3 x4 M hf
  unfold fX6_insideOf_L31 at hf
  refine rr_iinc hG (v := x4 + (1 : Int32)) (lv2 := [(4, .int (x4 + (1 : Int32))), (1, .ref (ph a1)), (2, .ref (ph a2)), (3, .int x3)]) (k := 3) dX6_insideOf_31 rfl rfl (by decide) rfl ?_
  refine rr_goto hG (tgt := 5) dX6_insideOf_34 (by decide) ?_
  exact rr_sub (lv2 := [(1, .ref (ph a1)), (2, .ref (ph a2)), (3, .int x3), (4, .int (x4 + (1 : Int32)))]) [1, 2, 3, 0] rfl (hq5 _ _ _ hf)
set_option maxHeartbeats 4000000 in
set_option maxRecDepth 100000 in
theorem wX6_insideOf_L5 {G : rm_G} {NC : Nat} (hN : 79 ≤ NC) {ph : Nat → Nat} {rho : Int32 × rm_M} (a1 : Nat) (a2 : Nat) (hG : rm_k G NC ph cX6_insideOf RX6 wsX6_insideOf 5 1 22) (hR : rm_rI G NC ph .int rho) (ka1 : rm_kq NC a1 (1, 0)) (ka2 : rm_kq NC a2 (4, 0))   : ∀ (n : Nat) (x3 : Int32) (x4 : Int32) (M : rm_M), fX6_insideOf_L5 a1 a2 n x3 x4 M = some rho → rm_L G NC ph 5 5 [(1, .ref (ph a1)), (2, .ref (ph a2)), (3, .int x3), (4, .int x4)] [] M := by
  intro n
  induction n with
  | zero => intro x3 x4 M hf; rw [fX6_insideOf_L5] at hf; cases hf
  | succ n ih =>
    intro x3 x4 M hf
    rw [fX6_insideOf_L5] at hf
    refine rr_iload hG dX6_insideOf_5 3 rfl ?_
    refine rr_aload_n hG dX6_insideOf_7 0 rfl rfl ?_
    refine rr_get hG 1 0 dX6_insideOf_8 ka1 (by decide) rfl tX6_insideOf_X1 (by decide) kX6_insideOf_44 rfl rfl ?_
    refine rr_icmp_ge hG (tgt := 37) dX6_insideOf_11 (by decide) hf (fun c1 hf => ?_) (fun c1 hf => ?_)
    · refine rr_iload_n hG dX6_insideOf_37 2 rfl rfl ?_
      exact rr_iret hG hR dX6_insideOf_38 hf
    · refine rr_aload_n hG dX6_insideOf_14 1 rfl rfl ?_
      refine rr_aload_n hG dX6_insideOf_15 0 rfl rfl ?_
      refine rr_iload hG dX6_insideOf_16 3 rfl ?_
      refine rr_cVI hG (st := []) (n := 2) (ci := 4) (rf := 0) (rl := 0) [.ref (ph a1), .int x4] dX6_insideOf_18 hf ka2 (by decide) rfl gX6_insideOf_X4_isOutside rfl (by decide +kernel) rfl ⟨by decide, by decide⟩ rfl (Nat.le_of_ble_eq_true rfl) (fun r9 M9 h9 => mX4_isOutside hN ph _ _ _ _ _ ka2 ka1 h9) (fun r3 M4 h2 hf => ?_)
      refine rr_if_ne hG (tgt := 31) dX6_insideOf_21 (by decide) hf (fun c5 hf => ?_) (fun c5 hf => ?_)
      · exact rr_sub (lv2 := [(1, .ref (ph a1)), (2, .ref (ph a2)), (3, .int x3), (4, .int x4)]) [0, 1, 2, 3] rfl (wX6_insideOf_L31 hN _ _ hG hR ka1 ka2 _ (ih) _ _ _ hf)
      · refine rr_iload_n hG dX6_insideOf_24 2 rfl rfl ?_
        refine rr_iconst hG (v := 1) dX6_insideOf_25 (by decide) ?_
        refine rr_iload hG dX6_insideOf_26 3 rfl ?_
        refine rr_ishl hG dX6_insideOf_28 ?_
        refine rr_ior hG dX6_insideOf_29 ?_
        refine rr_bindI hf (fun v6 ev6 hf => ?_)
        refine rr_istore_n hG (lv2 := [(3, .int v6), (1, .ref (ph a1)), (2, .ref (ph a2)), (4, .int x4)]) dX6_insideOf_30 rfl (by decide) rfl ?_
        exact rr_sub (lv2 := [(1, .ref (ph a1)), (2, .ref (ph a2)), (3, .int v6), (4, .int x4)]) [1, 2, 0, 3] rfl (wX6_insideOf_L31 hN _ _ hG hR ka1 ka2 _ (ih) _ _ _ hf)
set_option maxHeartbeats 4000000 in
set_option maxRecDepth 100000 in
theorem mX6_insideOf {NC : Nat} (hN : 79 ≤ NC) (ph : Nat → Nat) (a1 : Nat) (a2 : Nat) (M : rm_M) (rho : Int32 × rm_M) (ka1 : rm_kq NC a1 (1, 0)) (ka2 : rm_kq NC a2 (4, 0)) (hf : fX6_insideOf a1 a2 M = some rho) : rm_CI yX6_insideOf wsX6_insideOf 1 22 [.ref (ph 10), .ref (ph a1), .ref (ph a2)] NC ph M rho := by
  refine rm_metI (cc := cX6_insideOf) (maxL := 5) (by decide +kernel) rfl rfl (Nat.le_of_ble_eq_true rfl) rfl (fun G hG hR => ?_)
  unfold fX6_insideOf at hf
  refine rr_iconst hG (v := 0) dX6_insideOf_0 (by decide) ?_
  refine rr_istore_n hG (lv2 := [(3, .int (0 : Int32)), (0, .ref (ph 10)), (1, .ref (ph a1)), (2, .ref (ph a2))]) dX6_insideOf_1 rfl (by decide) rfl ?_
  refine rr_iconst hG (v := 0) dX6_insideOf_2 (by decide) ?_
  refine rr_istore hG (lv2 := [(4, .int (0 : Int32)), (3, .int (0 : Int32)), (0, .ref (ph 10)), (1, .ref (ph a1)), (2, .ref (ph a2))]) dX6_insideOf_3 (by decide) rfl ?_
  exact rr_sub (lv2 := [(1, .ref (ph a1)), (2, .ref (ph a2)), (3, .int (0 : Int32)), (4, .int (0 : Int32))]) [3, 4, 1, 0] rfl (wX6_insideOf_L5 hN _ _ hG hR ka1 ka2 _ _ _ _ hf)
/-! X6.movers -/
theorem tX6_movers_X1 : ∀ w ∈ u_ws RX1 TX1 12, w ∈ wsX6_movers := by decide +kernel
theorem kX6_movers_44 : Cond.fieldLink RX6 44 "RingPages$Net" "cells" "I" ∈ wsX6_movers := by decide +kernel
theorem kX6_movers_iniX7 : Cond.initialized RX7 ∈ wsX6_movers := by decide +kernel
theorem kX6_movers_stX7_holds : Cond.static yX7_holds ∈ wsX6_movers := by decide +kernel
theorem kX6_movers_68 : Cond.fieldLink RX6 68 "RingPages$Net" "near" "[I" ∈ wsX6_movers := by decide +kernel
set_option maxHeartbeats 4000000 in
set_option maxRecDepth 100000 in
theorem wX6_movers_L33 {G : rm_G} {NC : Nat} (hN : 79 ≤ NC) {ph : Nat → Nat} {rho : Int32 × rm_M} (a1 : Nat) (a2 : Int32) (hG : rm_k G NC ph cX6_movers RX6 wsX6_movers 5 1 21) (hR : rm_rI G NC ph .int rho) (ka1 : rm_kq NC a1 (1, 0)) (q5 : Int32 → Int32 → rm_M → Option (Int32 × rm_M)) (hq5 : ∀ (x3 : Int32) (x4 : Int32) (M : rm_M), q5 x3 x4 M = some rho → rm_L G NC ph 5 5 [(1, .ref (ph a1)), (2, .int a2), (3, .int x3), (4, .int x4)] [] M) : ∀ (x3 : Int32) (x4 : Int32) (M : rm_M), fX6_movers_L33 a1 a2 q5 x3 x4 M = some rho → rm_L G NC ph 5 33 [(1, .ref (ph a1)), (2, .int a2), (3, .int x3), (4, .int x4)] [] M := by
  intro x3 x4 M hf
  unfold fX6_movers_L33 at hf
  refine rr_iinc hG (v := x4 + (1 : Int32)) (lv2 := [(4, .int (x4 + (1 : Int32))), (1, .ref (ph a1)), (2, .int a2), (3, .int x3)]) (k := 3) dX6_movers_33 rfl rfl (by decide) rfl ?_
  refine rr_goto hG (tgt := 5) dX6_movers_36 (by decide) ?_
  exact rr_sub (lv2 := [(1, .ref (ph a1)), (2, .int a2), (3, .int x3), (4, .int (x4 + (1 : Int32)))]) [1, 2, 3, 0] rfl (hq5 _ _ _ hf)
set_option maxHeartbeats 4000000 in
set_option maxRecDepth 100000 in
theorem wX6_movers_L5 {G : rm_G} {NC : Nat} (hN : 79 ≤ NC) {ph : Nat → Nat} {rho : Int32 × rm_M} (a1 : Nat) (a2 : Int32) (hG : rm_k G NC ph cX6_movers RX6 wsX6_movers 5 1 21) (hR : rm_rI G NC ph .int rho) (ka1 : rm_kq NC a1 (1, 0))   : ∀ (n : Nat) (x3 : Int32) (x4 : Int32) (M : rm_M), fX6_movers_L5 a1 a2 n x3 x4 M = some rho → rm_L G NC ph 5 5 [(1, .ref (ph a1)), (2, .int a2), (3, .int x3), (4, .int x4)] [] M := by
  intro n
  induction n with
  | zero => intro x3 x4 M hf; rw [fX6_movers_L5] at hf; cases hf
  | succ n ih =>
    intro x3 x4 M hf
    rw [fX6_movers_L5] at hf
    refine rr_iload hG dX6_movers_5 3 rfl ?_
    refine rr_aload_n hG dX6_movers_7 0 rfl rfl ?_
    refine rr_get hG 1 0 dX6_movers_8 ka1 (by decide) rfl tX6_movers_X1 (by decide) kX6_movers_44 rfl rfl ?_
    refine rr_icmp_ge hG (tgt := 39) dX6_movers_11 (by decide) hf (fun c1 hf => ?_) (fun c1 hf => ?_)
    · refine rr_iload_n hG dX6_movers_39 2 rfl rfl ?_
      exact rr_iret hG hR dX6_movers_40 hf
    · refine rr_iload_n hG dX6_movers_14 1 rfl rfl ?_
      refine rr_iload hG dX6_movers_15 3 rfl ?_
      refine rr_cNI hG (st := []) (n := 2) (rf := 0) (rl := 0) [.int a2, .int x4] dX6_movers_17 hf gX6_movers_X7_holds_n61 (by decide +kernel) kX6_movers_iniX7 kX6_movers_stX7_holds rfl (by decide +kernel) rfl ⟨by decide, by decide⟩ rfl (Nat.le_of_ble_eq_true rfl) (fun r9 M9 h9 => mX7_holds hN ph _ _ _ _ h9) (fun r3 M4 h2 hf => ?_)
      refine rr_if_eq hG (tgt := 33) dX6_movers_20 (by decide) hf (fun c5 hf => ?_) (fun c5 hf => ?_)
      · exact rr_sub (lv2 := [(1, .ref (ph a1)), (2, .int a2), (3, .int x3), (4, .int x4)]) [0, 1, 2, 3] rfl (wX6_movers_L33 hN _ _ hG hR ka1 _ (ih) _ _ _ hf)
      · refine rr_iload_n hG dX6_movers_23 2 rfl rfl ?_
        refine rr_aload_n hG dX6_movers_24 0 rfl rfl ?_
        refine rr_get hG 1 8 (v := .ref (ph (a1 + 15))) dX6_movers_25 ka1 (by decide) rfl tX6_movers_X1 (by decide) kX6_movers_68 rfl rfl ?_
        refine rr_iload hG dX6_movers_28 3 rfl ?_
        refine rr_iald hG dX6_movers_30 (rm_kX1_15 hN ka1) hf (fun b6 hf => ?_)
        refine rr_ior hG dX6_movers_31 ?_
        refine rr_bindI hf (fun v7 ev7 hf => ?_)
        refine rr_istore_n hG (lv2 := [(3, .int v7), (1, .ref (ph a1)), (2, .int a2), (4, .int x4)]) dX6_movers_32 rfl (by decide) rfl ?_
        exact rr_sub (lv2 := [(1, .ref (ph a1)), (2, .int a2), (3, .int v7), (4, .int x4)]) [1, 2, 0, 3] rfl (wX6_movers_L33 hN _ _ hG hR ka1 _ (ih) _ _ _ hf)
set_option maxHeartbeats 4000000 in
set_option maxRecDepth 100000 in
theorem mX6_movers {NC : Nat} (hN : 79 ≤ NC) (ph : Nat → Nat) (a1 : Nat) (a2 : Int32) (M : rm_M) (rho : Int32 × rm_M) (ka1 : rm_kq NC a1 (1, 0)) (hf : fX6_movers a1 a2 M = some rho) : rm_CI yX6_movers wsX6_movers 1 21 [.ref (ph 10), .ref (ph a1), .int a2] NC ph M rho := by
  refine rm_metI (cc := cX6_movers) (maxL := 5) (by decide +kernel) rfl rfl (Nat.le_of_ble_eq_true rfl) rfl (fun G hG hR => ?_)
  unfold fX6_movers at hf
  refine rr_iconst hG (v := 0) dX6_movers_0 (by decide) ?_
  refine rr_istore_n hG (lv2 := [(3, .int (0 : Int32)), (0, .ref (ph 10)), (1, .ref (ph a1)), (2, .int a2)]) dX6_movers_1 rfl (by decide) rfl ?_
  refine rr_iconst hG (v := 0) dX6_movers_2 (by decide) ?_
  refine rr_istore hG (lv2 := [(4, .int (0 : Int32)), (3, .int (0 : Int32)), (0, .ref (ph 10)), (1, .ref (ph a1)), (2, .int a2)]) dX6_movers_3 (by decide) rfl ?_
  exact rr_sub (lv2 := [(1, .ref (ph a1)), (2, .int a2), (3, .int (0 : Int32)), (4, .int (0 : Int32))]) [3, 4, 1, 0] rfl (wX6_movers_L5 hN _ _ hG hR ka1 _ _ _ _ hf)
/-! X6.stayers -/
theorem tX6_stayers_X1 : ∀ w ∈ u_ws RX1 TX1 12, w ∈ wsX6_stayers := by decide +kernel
theorem tX6_stayers_X4 : ∀ w ∈ u_ws RX4 TX4 10, w ∈ wsX6_stayers := by decide +kernel
theorem kX6_stayers_44 : Cond.fieldLink RX6 44 "RingPages$Net" "cells" "I" ∈ wsX6_stayers := by decide +kernel
theorem kX6_stayers_iniX7 : Cond.initialized RX7 ∈ wsX6_stayers := by decide +kernel
theorem kX6_stayers_stX7_holds : Cond.static yX7_holds ∈ wsX6_stayers := by decide +kernel
theorem kX6_stayers_65 : Cond.fieldLink RX6 65 "RingPages$State" "stay" "[I" ∈ wsX6_stayers := by decide +kernel
set_option maxHeartbeats 4000000 in
set_option maxRecDepth 100000 in
theorem wX6_stayers_L43 {G : rm_G} {NC : Nat} (hN : 79 ≤ NC) {ph : Nat → Nat} {rho : Int32 × rm_M} (a1 : Nat) (a2 : Nat) (a3 : Int32) (hG : rm_k G NC ph cX6_stayers RX6 wsX6_stayers 6 1 21) (hR : rm_rI G NC ph .int rho) (ka1 : rm_kq NC a1 (1, 0)) (ka2 : rm_kq NC a2 (4, 0)) (q6 : Int32 → Int32 → rm_M → Option (Int32 × rm_M)) (hq6 : ∀ (x4 : Int32) (x5 : Int32) (M : rm_M), q6 x4 x5 M = some rho → rm_L G NC ph 6 6 [(1, .ref (ph a1)), (2, .ref (ph a2)), (3, .int a3), (4, .int x4), (5, .int x5)] [] M) : ∀ (x4 : Int32) (x5 : Int32) (M : rm_M), fX6_stayers_L43 a1 a2 a3 q6 x4 x5 M = some rho → rm_L G NC ph 6 43 [(1, .ref (ph a1)), (2, .ref (ph a2)), (3, .int a3), (4, .int x4), (5, .int x5)] [] M := by
  intro x4 x5 M hf
  unfold fX6_stayers_L43 at hf
  refine rr_iinc hG (v := x5 + (1 : Int32)) (lv2 := [(5, .int (x5 + (1 : Int32))), (1, .ref (ph a1)), (2, .ref (ph a2)), (3, .int a3), (4, .int x4)]) (k := 4) dX6_stayers_43 rfl rfl (by decide) rfl ?_
  refine rr_goto hG (tgt := 6) dX6_stayers_46 (by decide) ?_
  exact rr_sub (lv2 := [(1, .ref (ph a1)), (2, .ref (ph a2)), (3, .int a3), (4, .int x4), (5, .int (x5 + (1 : Int32)))]) [1, 2, 3, 4, 0] rfl (hq6 _ _ _ hf)
set_option maxHeartbeats 4000000 in
set_option maxRecDepth 100000 in
theorem wX6_stayers_L6 {G : rm_G} {NC : Nat} (hN : 79 ≤ NC) {ph : Nat → Nat} {rho : Int32 × rm_M} (a1 : Nat) (a2 : Nat) (a3 : Int32) (hG : rm_k G NC ph cX6_stayers RX6 wsX6_stayers 6 1 21) (hR : rm_rI G NC ph .int rho) (ka1 : rm_kq NC a1 (1, 0)) (ka2 : rm_kq NC a2 (4, 0))   : ∀ (n : Nat) (x4 : Int32) (x5 : Int32) (M : rm_M), fX6_stayers_L6 a1 a2 a3 n x4 x5 M = some rho → rm_L G NC ph 6 6 [(1, .ref (ph a1)), (2, .ref (ph a2)), (3, .int a3), (4, .int x4), (5, .int x5)] [] M := by
  intro n
  induction n with
  | zero => intro x4 x5 M hf; rw [fX6_stayers_L6] at hf; cases hf
  | succ n ih =>
    intro x4 x5 M hf
    rw [fX6_stayers_L6] at hf
    refine rr_iload hG dX6_stayers_6 4 rfl ?_
    refine rr_aload_n hG dX6_stayers_8 0 rfl rfl ?_
    refine rr_get hG 1 0 dX6_stayers_9 ka1 (by decide) rfl tX6_stayers_X1 (by decide) kX6_stayers_44 rfl rfl ?_
    refine rr_icmp_ge hG (tgt := 49) dX6_stayers_12 (by decide) hf (fun c1 hf => ?_) (fun c1 hf => ?_)
    · refine rr_iload hG dX6_stayers_49 3 rfl ?_
      exact rr_iret hG hR dX6_stayers_51 hf
    · refine rr_iload_n hG dX6_stayers_15 2 rfl rfl ?_
      refine rr_iload hG dX6_stayers_16 4 rfl ?_
      refine rr_cNI hG (st := []) (n := 2) (rf := 0) (rl := 0) [.int a3, .int x5] dX6_stayers_18 hf gX6_stayers_X7_holds_n61 (by decide +kernel) kX6_stayers_iniX7 kX6_stayers_stX7_holds rfl (by decide +kernel) rfl ⟨by decide, by decide⟩ rfl (Nat.le_of_ble_eq_true rfl) (fun r9 M9 h9 => mX7_holds hN ph _ _ _ _ h9) (fun r3 M4 h2 hf => ?_)
      refine rr_if_eq hG (tgt := 43) dX6_stayers_21 (by decide) hf (fun c5 hf => ?_) (fun c5 hf => ?_)
      · exact rr_sub (lv2 := [(1, .ref (ph a1)), (2, .ref (ph a2)), (3, .int a3), (4, .int x4), (5, .int x5)]) [0, 1, 2, 3, 4] rfl (wX6_stayers_L43 hN _ _ _ hG hR ka1 ka2 _ (ih) _ _ _ hf)
      · refine rr_aload_n hG dX6_stayers_24 1 rfl rfl ?_
        refine rr_get hG 4 0 (v := .ref (ph (a2 + 1))) dX6_stayers_25 ka2 (by decide) rfl tX6_stayers_X4 (by decide) kX6_stayers_65 rfl rfl ?_
        refine rr_iload hG dX6_stayers_28 4 rfl ?_
        refine rr_iald hG dX6_stayers_30 (rm_kX4_1 hN ka2) hf (fun b6 hf => ?_)
        refine rr_if_le hG (tgt := 43) dX6_stayers_31 (by decide) hf (fun c7 hf => ?_) (fun c7 hf => ?_)
        · exact rr_sub (lv2 := [(1, .ref (ph a1)), (2, .ref (ph a2)), (3, .int a3), (4, .int x4), (5, .int x5)]) [0, 1, 2, 3, 4] rfl (wX6_stayers_L43 hN _ _ _ hG hR ka1 ka2 _ (ih) _ _ _ hf)
        · refine rr_iload hG dX6_stayers_34 3 rfl ?_
          refine rr_iconst hG (v := 1) dX6_stayers_36 (by decide) ?_
          refine rr_iload hG dX6_stayers_37 4 rfl ?_
          refine rr_ishl hG dX6_stayers_39 ?_
          refine rr_ior hG dX6_stayers_40 ?_
          refine rr_bindI hf (fun v8 ev8 hf => ?_)
          refine rr_istore hG (lv2 := [(4, .int v8), (1, .ref (ph a1)), (2, .ref (ph a2)), (3, .int a3), (5, .int x5)]) dX6_stayers_41 (by decide) rfl ?_
          exact rr_sub (lv2 := [(1, .ref (ph a1)), (2, .ref (ph a2)), (3, .int a3), (4, .int v8), (5, .int x5)]) [1, 2, 3, 0, 4] rfl (wX6_stayers_L43 hN _ _ _ hG hR ka1 ka2 _ (ih) _ _ _ hf)
set_option maxHeartbeats 4000000 in
set_option maxRecDepth 100000 in
theorem mX6_stayers {NC : Nat} (hN : 79 ≤ NC) (ph : Nat → Nat) (a1 : Nat) (a2 : Nat) (a3 : Int32) (M : rm_M) (rho : Int32 × rm_M) (ka1 : rm_kq NC a1 (1, 0)) (ka2 : rm_kq NC a2 (4, 0)) (hf : fX6_stayers a1 a2 a3 M = some rho) : rm_CI yX6_stayers wsX6_stayers 1 21 [.ref (ph 10), .ref (ph a1), .ref (ph a2), .int a3] NC ph M rho := by
  refine rm_metI (cc := cX6_stayers) (maxL := 6) (by decide +kernel) rfl rfl (Nat.le_of_ble_eq_true rfl) rfl (fun G hG hR => ?_)
  unfold fX6_stayers at hf
  refine rr_iconst hG (v := 0) dX6_stayers_0 (by decide) ?_
  refine rr_istore hG (lv2 := [(4, .int (0 : Int32)), (0, .ref (ph 10)), (1, .ref (ph a1)), (2, .ref (ph a2)), (3, .int a3)]) dX6_stayers_1 (by decide) rfl ?_
  refine rr_iconst hG (v := 0) dX6_stayers_3 (by decide) ?_
  refine rr_istore hG (lv2 := [(5, .int (0 : Int32)), (4, .int (0 : Int32)), (0, .ref (ph 10)), (1, .ref (ph a1)), (2, .ref (ph a2)), (3, .int a3)]) dX6_stayers_4 (by decide) rfl ?_
  exact rr_sub (lv2 := [(1, .ref (ph a1)), (2, .ref (ph a2)), (3, .int a3), (4, .int (0 : Int32)), (5, .int (0 : Int32))]) [3, 4, 5, 1, 0] rfl (wX6_stayers_L6 hN _ _ _ hG hR ka1 ka2 _ _ _ _ hf)
/-! X6.step -/
theorem tX6_step_X4 : ∀ w ∈ u_ws RX4 TX4 10, w ∈ wsX6_step := by decide +kernel
theorem tX6_step_X6 : ∀ w ∈ u_ws RX6 TX6 1, w ∈ wsX6_step := by decide +kernel
theorem kX6_step_9 : Cond.fieldLink RX6 9 "RingPages$Whereabouts" "reached" "[I" ∈ wsX6_step := by decide +kernel
theorem kX6_step_15 : Cond.fieldLink RX6 15 "RingPages$State" "kind" "I" ∈ wsX6_step := by decide +kernel
set_option maxHeartbeats 4000000 in
set_option maxRecDepth 100000 in
theorem wX6_step_L101 {G : rm_G} {NC : Nat} (hN : 79 ≤ NC) {ph : Nat → Nat} {rho : Int32 × rm_M} (a1 : Nat) (a2 : Nat) (a3 : Int32) (a4 : Int32) (hG : rm_k G NC ph cX6_step RX6 wsX6_step 9 2 46) (hR : rm_rI G NC ph .boolean rho) (ka1 : rm_kq NC a1 (1, 0)) (ka2 : rm_kq NC a2 (4, 0)) (q8 : Int32 → Int32 → rm_M → Option (Int32 × rm_M)) (hq8 : ∀ (x5 : Int32) (x6 : Int32) (M : rm_M), q8 x5 x6 M = some rho → rm_L G NC ph 9 8 [(0, .ref (ph 10)), (1, .ref (ph a1)), (2, .ref (ph a2)), (4, .int a4), (5, .int x5), (6, .int x6)] [] M) : ∀ (x6 : Int32) (x8 : Int32) (s0 : Int32) (s1 : Int32) (M : rm_M), fX6_step_L101 a1 a2 a3 a4 q8 x6 x8 s0 s1 M = some rho → rm_L G NC ph 9 101 [(0, .ref (ph 10)), (1, .ref (ph a1)), (2, .ref (ph a2)), (4, .int a4), (6, .int x6), (8, .int x8)] [.int s1, .int s0] M := by
  intro x6 x8 s0 s1 M hf
  unfold fX6_step_L101 at hf
  refine rr_ior hG dX6_step_101 ?_
  refine rr_bindI hf (fun v1 ev1 hf => ?_)
  refine rr_istore hG (lv2 := [(5, .int v1), (0, .ref (ph 10)), (1, .ref (ph a1)), (2, .ref (ph a2)), (4, .int a4), (6, .int x6), (8, .int x8)]) dX6_step_102 (by decide) rfl ?_
  refine rr_aload_n hG dX6_step_104 1 rfl rfl ?_
  refine rr_get hG 6 0 (v := .ref (ph 11)) dX6_step_105 (rm_c hN rfl (by decide)) (by decide) rfl tX6_step_X6 (by decide) kX6_step_9 rfl rfl ?_
  refine rr_iload hG dX6_step_108 5 rfl ?_
  refine rr_iload hG dX6_step_110 6 rfl ?_
  refine rr_iast hG dX6_step_112 (rm_c hN rfl (by decide)) hf (fun b2 hf => ?_)
  refine rr_bindM hf (fun M3 eM3 hf => ?_)
  refine rr_iinc hG (v := x6 + (-1 : Int32)) (lv2 := [(6, .int (x6 + (-1 : Int32))), (5, .int v1), (0, .ref (ph 10)), (1, .ref (ph a1)), (2, .ref (ph a2)), (4, .int a4), (8, .int x8)]) (k := 5) dX6_step_113 rfl rfl (by decide) rfl ?_
  refine rr_goto hG (tgt := 8) dX6_step_116 (by decide) ?_
  exact rr_sub (lv2 := [(0, .ref (ph 10)), (1, .ref (ph a1)), (2, .ref (ph a2)), (4, .int a4), (5, .int v1), (6, .int (x6 + (-1 : Int32)))]) [2, 3, 4, 5, 1, 0] rfl (hq8 _ _ _ hf)
set_option maxHeartbeats 4000000 in
set_option maxRecDepth 100000 in
theorem wX6_step_L59 {G : rm_G} {NC : Nat} (hN : 79 ≤ NC) {ph : Nat → Nat} {rho : Int32 × rm_M} (a1 : Nat) (a2 : Nat) (a3 : Int32) (a4 : Int32) (hG : rm_k G NC ph cX6_step RX6 wsX6_step 9 2 46) (hR : rm_rI G NC ph .boolean rho) (ka1 : rm_kq NC a1 (1, 0)) (ka2 : rm_kq NC a2 (4, 0)) (q8 : Int32 → Int32 → rm_M → Option (Int32 × rm_M)) (hq8 : ∀ (x5 : Int32) (x6 : Int32) (M : rm_M), q8 x5 x6 M = some rho → rm_L G NC ph 9 8 [(0, .ref (ph 10)), (1, .ref (ph a1)), (2, .ref (ph a2)), (4, .int a4), (5, .int x5), (6, .int x6)] [] M) : ∀ (x5 : Int32) (x6 : Int32) (s0 : Int32) (M : rm_M), fX6_step_L59 a1 a2 a3 a4 q8 x5 x6 s0 M = some rho → rm_L G NC ph 9 59 [(0, .ref (ph 10)), (1, .ref (ph a1)), (2, .ref (ph a2)), (4, .int a4), (5, .int x5), (6, .int x6)] [.int s0] M := by
  intro x5 x6 s0 M hf
  unfold fX6_step_L59 at hf
  refine rr_istore hG (lv2 := [(7, .int s0), (0, .ref (ph 10)), (1, .ref (ph a1)), (2, .ref (ph a2)), (4, .int a4), (5, .int x5), (6, .int x6)]) dX6_step_59 (by decide) rfl ?_
  refine rr_aload_n hG dX6_step_61 1 rfl rfl ?_
  refine rr_aload_n hG dX6_step_62 2 rfl rfl ?_
  refine rr_aload_n hG dX6_step_63 3 rfl rfl ?_
  refine rr_aload_n hG dX6_step_64 1 rfl rfl ?_
  refine rr_get hG 6 0 (v := .ref (ph 11)) dX6_step_65 (rm_c hN rfl (by decide)) (by decide) rfl tX6_step_X6 (by decide) kX6_step_9 rfl rfl ?_
  refine rr_iload hG dX6_step_68 6 rfl ?_
  refine rr_iald hG dX6_step_70 (rm_c hN rfl (by decide)) hf (fun b4 hf => ?_)
  refine rr_cVI hG (st := []) (n := 3) (ci := 6) (rf := 1) (rl := 21) [.ref (ph a1), .ref (ph a2), .int (M.1 11 (x6).toNatClampNeg)] dX6_step_71 hf (rm_c hN rfl (by decide)) (by decide) rfl gX6_step_X6_stayers rfl (by decide +kernel) rfl ⟨by decide, by decide⟩ rfl (Nat.le_of_ble_eq_true rfl) (fun r9 M9 h9 => mX6_stayers hN ph _ _ _ _ _ ka1 ka2 h9) (fun r6 M7 h5 hf => ?_)
  refine rr_iload hG dX6_step_74 0 rfl ?_
  refine rr_ior hG dX6_step_76 ?_
  refine rr_iload hG dX6_step_77 4 rfl ?_
  refine rr_iand hG dX6_step_79 ?_
  refine rr_bindI hf (fun v8 ev8 hf => ?_)
  refine rr_istore hG (lv2 := [(8, .int v8), (7, .int s0), (0, .ref (ph 10)), (1, .ref (ph a1)), (2, .ref (ph a2)), (4, .int a4), (5, .int x5), (6, .int x6)]) dX6_step_80 (by decide) rfl ?_
  refine rr_iload hG dX6_step_82 6 rfl ?_
  refine rr_iload hG dX6_step_84 0 rfl ?_
  refine rr_aload_n hG dX6_step_86 2 rfl rfl ?_
  refine rr_get hG 6 0 (v := .ref (ph 11)) dX6_step_87 (rm_c hN rfl (by decide)) (by decide) rfl tX6_step_X6 (by decide) kX6_step_9 rfl rfl ?_
  refine rr_iload hG dX6_step_90 7 rfl ?_
  refine rr_iald hG dX6_step_92 (rm_c hN rfl (by decide)) hf (fun b9 hf => ?_)
  refine rr_icmp_eq hG (tgt := 100) dX6_step_93 (by decide) hf (fun c10 hf => ?_) (fun c10 hf => ?_)
  · refine rr_iconst hG (v := 0) dX6_step_100 (by decide) ?_
    exact rr_sub (lv2 := [(0, .ref (ph 10)), (1, .ref (ph a1)), (2, .ref (ph a2)), (4, .int a4), (6, .int x6), (8, .int v8)]) [2, 3, 4, 5, 7, 0] rfl (wX6_step_L101 hN _ _ _ _ hG hR ka1 ka2 _ (hq8) _ _ _ _ _ hf)
  · refine rr_iconst hG (v := 1) dX6_step_96 (by decide) ?_
    refine rr_goto hG (tgt := 101) dX6_step_97 (by decide) ?_
    exact rr_sub (lv2 := [(0, .ref (ph 10)), (1, .ref (ph a1)), (2, .ref (ph a2)), (4, .int a4), (6, .int x6), (8, .int v8)]) [2, 3, 4, 5, 7, 0] rfl (wX6_step_L101 hN _ _ _ _ hG hR ka1 ka2 _ (hq8) _ _ _ _ _ hf)
set_option maxHeartbeats 4000000 in
set_option maxRecDepth 100000 in
theorem wX6_step_L8 {G : rm_G} {NC : Nat} (hN : 79 ≤ NC) {ph : Nat → Nat} {rho : Int32 × rm_M} (a1 : Nat) (a2 : Nat) (a3 : Int32) (a4 : Int32) (hG : rm_k G NC ph cX6_step RX6 wsX6_step 9 2 46) (hR : rm_rI G NC ph .boolean rho) (ka1 : rm_kq NC a1 (1, 0)) (ka2 : rm_kq NC a2 (4, 0))   : ∀ (n : Nat) (x5 : Int32) (x6 : Int32) (M : rm_M), fX6_step_L8 a1 a2 a3 a4 n x5 x6 M = some rho → rm_L G NC ph 9 8 [(0, .ref (ph 10)), (1, .ref (ph a1)), (2, .ref (ph a2)), (4, .int a4), (5, .int x5), (6, .int x6)] [] M := by
  intro n
  induction n with
  | zero => intro x5 x6 M hf; rw [fX6_step_L8] at hf; cases hf
  | succ n ih =>
    intro x5 x6 M hf
    rw [fX6_step_L8] at hf
    refine rr_iload hG dX6_step_8 5 rfl ?_
    refine rr_if_lt hG (tgt := 119) dX6_step_10 (by decide) hf (fun c11 hf => ?_) (fun c11 hf => ?_)
    · refine rr_iload hG dX6_step_119 4 rfl ?_
      exact rr_zret hG hR dX6_step_121 hf
    · refine rr_aload_n hG dX6_step_13 2 rfl rfl ?_
      refine rr_get hG 4 2 dX6_step_14 ka2 (by decide) rfl tX6_step_X4 (by decide) kX6_step_15 rfl rfl ?_
      refine rr_iconst hG (v := 1) dX6_step_17 (by decide) ?_
      refine rr_icmp_eq hG (tgt := 36) dX6_step_18 (by decide) hf (fun c12 hf => ?_) (fun c12 hf => ?_)
      · refine rr_iload hG dX6_step_36 5 rfl ?_
        refine rr_if_le hG (tgt := 58) dX6_step_38 (by decide) hf (fun c13 hf => ?_) (fun c13 hf => ?_)
        · refine rr_iconst hG (v := 0) dX6_step_58 (by decide) ?_
          exact rr_sub (lv2 := [(0, .ref (ph 10)), (1, .ref (ph a1)), (2, .ref (ph a2)), (4, .int a4), (5, .int x5), (6, .int x6)]) [0, 1, 2, 3, 4, 5] rfl (wX6_step_L59 hN _ _ _ _ hG hR ka1 ka2 _ (ih) _ _ _ _ hf)
        · refine rr_aload_n hG dX6_step_41 0 rfl rfl ?_
          refine rr_aload_n hG dX6_step_42 1 rfl rfl ?_
          refine rr_aload_n hG dX6_step_43 0 rfl rfl ?_
          refine rr_get hG 6 0 (v := .ref (ph 11)) dX6_step_44 (rm_c hN rfl (by decide)) (by decide) rfl tX6_step_X6 (by decide) kX6_step_9 rfl rfl ?_
          refine rr_iload hG dX6_step_47 5 rfl ?_
          refine rr_iconst hG (v := 1) dX6_step_49 (by decide) ?_
          refine rr_isub hG dX6_step_50 ?_
          refine rr_iald hG dX6_step_51 (rm_c hN rfl (by decide)) hf (fun b14 hf => ?_)
          refine rr_cVI hG (st := []) (n := 2) (ci := 6) (rf := 1) (rl := 21) [.ref (ph a1), .int (M.1 11 (x6 - (1 : Int32)).toNatClampNeg)] dX6_step_52 hf (rm_c hN rfl (by decide)) (by decide) rfl gX6_step_X6_movers rfl (by decide +kernel) rfl ⟨by decide, by decide⟩ rfl (Nat.le_of_ble_eq_true rfl) (fun r9 M9 h9 => mX6_movers hN ph _ _ _ _ ka1 h9) (fun r16 M17 h15 hf => ?_)
          refine rr_goto hG (tgt := 59) dX6_step_55 (by decide) ?_
          exact rr_sub (lv2 := [(0, .ref (ph 10)), (1, .ref (ph a1)), (2, .ref (ph a2)), (4, .int a4), (5, .int x5), (6, .int x6)]) [0, 1, 2, 3, 4, 5] rfl (wX6_step_L59 hN _ _ _ _ hG hR ka1 ka2 _ (ih) _ _ _ _ hf)
      · refine rr_aload_n hG dX6_step_21 0 rfl rfl ?_
        refine rr_aload_n hG dX6_step_22 1 rfl rfl ?_
        refine rr_aload_n hG dX6_step_23 0 rfl rfl ?_
        refine rr_get hG 6 0 (v := .ref (ph 11)) dX6_step_24 (rm_c hN rfl (by decide)) (by decide) rfl tX6_step_X6 (by decide) kX6_step_9 rfl rfl ?_
        refine rr_iload hG dX6_step_27 5 rfl ?_
        refine rr_iald hG dX6_step_29 (rm_c hN rfl (by decide)) hf (fun b18 hf => ?_)
        refine rr_cVI hG (st := []) (n := 2) (ci := 6) (rf := 1) (rl := 21) [.ref (ph a1), .int (M.1 11 (x6).toNatClampNeg)] dX6_step_30 hf (rm_c hN rfl (by decide)) (by decide) rfl gX6_step_X6_movers rfl (by decide +kernel) rfl ⟨by decide, by decide⟩ rfl (Nat.le_of_ble_eq_true rfl) (fun r9 M9 h9 => mX6_movers hN ph _ _ _ _ ka1 h9) (fun r20 M21 h19 hf => ?_)
        refine rr_goto hG (tgt := 59) dX6_step_33 (by decide) ?_
        exact rr_sub (lv2 := [(0, .ref (ph 10)), (1, .ref (ph a1)), (2, .ref (ph a2)), (4, .int a4), (5, .int x5), (6, .int x6)]) [0, 1, 2, 3, 4, 5] rfl (wX6_step_L59 hN _ _ _ _ hG hR ka1 ka2 _ (ih) _ _ _ _ hf)
set_option maxHeartbeats 4000000 in
set_option maxRecDepth 100000 in
theorem mX6_step {NC : Nat} (hN : 79 ≤ NC) (ph : Nat → Nat) (a1 : Nat) (a2 : Nat) (a3 : Int32) (a4 : Int32) (M : rm_M) (rho : Int32 × rm_M) (ka1 : rm_kq NC a1 (1, 0)) (ka2 : rm_kq NC a2 (4, 0)) (hf : fX6_step a1 a2 a3 a4 M = some rho) : rm_CI yX6_step wsX6_step 2 46 [.ref (ph 10), .ref (ph a1), .ref (ph a2), .int a3, .int a4] NC ph M rho := by
  refine rm_metI (cc := cX6_step) (maxL := 9) (by decide +kernel) rfl rfl (Nat.le_of_ble_eq_true rfl) rfl (fun G hG hR => ?_)
  unfold fX6_step at hf
  refine rr_iconst hG (v := 0) dX6_step_0 (by decide) ?_
  refine rr_istore hG (lv2 := [(5, .int (0 : Int32)), (0, .ref (ph 10)), (1, .ref (ph a1)), (2, .ref (ph a2)), (3, .int a3), (4, .int a4)]) dX6_step_1 (by decide) rfl ?_
  refine rr_iload_n hG dX6_step_3 4 rfl rfl ?_
  refine rr_iconst hG (v := 1) dX6_step_4 (by decide) ?_
  refine rr_isub hG dX6_step_5 ?_
  refine rr_bindI hf (fun v22 ev22 hf => ?_)
  refine rr_istore hG (lv2 := [(6, .int v22), (5, .int (0 : Int32)), (0, .ref (ph 10)), (1, .ref (ph a1)), (2, .ref (ph a2)), (3, .int a3), (4, .int a4)]) dX6_step_6 (by decide) rfl ?_
  exact rr_sub (lv2 := [(0, .ref (ph 10)), (1, .ref (ph a1)), (2, .ref (ph a2)), (4, .int a4), (5, .int (0 : Int32)), (6, .int v22)]) [2, 3, 4, 6, 1, 0] rfl (wX6_step_L8 hN _ _ _ _ hG hR ka1 ka2 _ _ _ _ hf)
/-! X6.find -/
theorem tX6_find_X4 : ∀ w ∈ u_ws RX4 TX4 10, w ∈ wsX6_find := by decide +kernel
theorem tX6_find_X6 : ∀ w ∈ u_ws RX6 TX6 1, w ∈ wsX6_find := by decide +kernel
theorem kX6_find_9 : Cond.fieldLink RX6 9 "RingPages$Whereabouts" "reached" "[I" ∈ wsX6_find := by decide +kernel
theorem kX6_find_37 : Cond.fieldLink RX6 37 "RingPages$State" "ticks" "I" ∈ wsX6_find := by decide +kernel
theorem kX6_find_34 : Cond.fieldLink RX6 34 "RingPages$State" "home" "I" ∈ wsX6_find := by decide +kernel
theorem kX6_find_15 : Cond.fieldLink RX6 15 "RingPages$State" "kind" "I" ∈ wsX6_find := by decide +kernel
theorem kX6_find_21 : Cond.fieldLink RX6 21 "RingPages$State" "value" "I" ∈ wsX6_find := by decide +kernel
theorem kX6_find_24 : Cond.methodLink RX6 24 Lib.Math.min.name ∈ wsX6_find := by decide +kernel
theorem kX6_find_stamin : Cond.static Lib.Math.min.name ∈ wsX6_find := by decide +kernel
theorem kX6_find_math : Cond.initialized "java/lang/Math" ∈ wsX6_find := by decide +kernel
theorem kX6_find_codemin : Cond.code Lib.Math.min.name Lib.Math.min.code 2 (some .int) ∈ wsX6_find := by decide +kernel
set_option maxHeartbeats 4000000 in
set_option maxRecDepth 100000 in
theorem wX6_find_L108 {G : rm_G} {NC : Nat} (hN : 79 ≤ NC) {ph : Nat → Nat} {rho : Int32 × rm_M} (a1 : Nat) (a2 : Nat) (hG : rm_k G NC ph cX6_find RX6 wsX6_find 8 3 74) (hR : rm_rI G NC ph .int rho) (ka1 : rm_kq NC a1 (1, 0)) (ka2 : rm_kq NC a2 (4, 0))   : ∀ (n : Nat) (x3 : Int32) (x6 : Int32) (x7 : Int32) (M : rm_M), fX6_find_L108 a1 a2 n x3 x6 x7 M = some rho → rm_L G NC ph 8 108 [(0, .ref (ph 10)), (3, .int x3), (6, .int x6), (7, .int x7)] [] M := by
  intro n
  induction n with
  | zero => intro x3 x6 x7 M hf; rw [fX6_find_L108] at hf; cases hf
  | succ n ih =>
    intro x3 x6 x7 M hf
    rw [fX6_find_L108] at hf
    refine rr_iload hG dX6_find_108 3 rfl ?_
    refine rr_iload_n hG dX6_find_110 1 rfl rfl ?_
    refine rr_icmp_ge hG (tgt := 132) dX6_find_111 (by decide) hf (fun c1 hf => ?_) (fun c1 hf => ?_)
    · refine rr_iload hG dX6_find_132 2 rfl ?_
      exact rr_iret hG hR dX6_find_134 hf
    · refine rr_iload hG dX6_find_114 2 rfl ?_
      refine rr_aload_n hG dX6_find_116 0 rfl rfl ?_
      refine rr_get hG 6 0 (v := .ref (ph 11)) dX6_find_117 (rm_c hN rfl (by decide)) (by decide) rfl tX6_find_X6 (by decide) kX6_find_9 rfl rfl ?_
      refine rr_iload hG dX6_find_120 3 rfl ?_
      refine rr_iald hG dX6_find_122 (rm_c hN rfl (by decide)) hf (fun b2 hf => ?_)
      refine rr_ior hG dX6_find_123 ?_
      refine rr_bindI hf (fun v3 ev3 hf => ?_)
      refine rr_istore hG (lv2 := [(6, .int v3), (0, .ref (ph 10)), (3, .int x3), (7, .int x7)]) dX6_find_124 (by decide) rfl ?_
      refine rr_iinc hG (v := x7 + (1 : Int32)) (lv2 := [(7, .int (x7 + (1 : Int32))), (6, .int v3), (0, .ref (ph 10)), (3, .int x3)]) (k := 3) dX6_find_126 rfl rfl (by decide) rfl ?_
      refine rr_goto hG (tgt := 108) dX6_find_129 (by decide) ?_
      exact rr_sub (lv2 := [(0, .ref (ph 10)), (3, .int x3), (6, .int v3), (7, .int (x7 + (1 : Int32)))]) [2, 3, 1, 0] rfl (ih _ _ _ _ hf)
set_option maxHeartbeats 4000000 in
set_option maxRecDepth 100000 in
theorem wX6_find_L102 {G : rm_G} {NC : Nat} (hN : 79 ≤ NC) {ph : Nat → Nat} {rho : Int32 × rm_M} (a1 : Nat) (a2 : Nat) (hG : rm_k G NC ph cX6_find RX6 wsX6_find 8 3 74) (hR : rm_rI G NC ph .int rho) (ka1 : rm_kq NC a1 (1, 0)) (ka2 : rm_kq NC a2 (4, 0))   : ∀ (x3 : Int32) (M : rm_M), fX6_find_L102 a1 a2 x3 M = some rho → rm_L G NC ph 8 102 [(0, .ref (ph 10)), (3, .int x3)] [] M := by
  intro x3 M hf
  unfold fX6_find_L102 at hf
  refine rr_iconst hG (v := 0) dX6_find_102 (by decide) ?_
  refine rr_istore hG (lv2 := [(6, .int (0 : Int32)), (0, .ref (ph 10)), (3, .int x3)]) dX6_find_103 (by decide) rfl ?_
  refine rr_iconst hG (v := 0) dX6_find_105 (by decide) ?_
  refine rr_istore hG (lv2 := [(7, .int (0 : Int32)), (6, .int (0 : Int32)), (0, .ref (ph 10)), (3, .int x3)]) dX6_find_106 (by decide) rfl ?_
  exact rr_sub (lv2 := [(0, .ref (ph 10)), (3, .int x3), (6, .int (0 : Int32)), (7, .int (0 : Int32))]) [2, 3, 1, 0] rfl (wX6_find_L108 hN _ _ hG hR ka1 ka2 _ _ _ _ _ hf)
set_option maxHeartbeats 4000000 in
set_option maxRecDepth 100000 in
theorem wX6_find_L71 {G : rm_G} {NC : Nat} (hN : 79 ≤ NC) {ph : Nat → Nat} {rho : Int32 × rm_M} (a1 : Nat) (a2 : Nat) (hG : rm_k G NC ph cX6_find RX6 wsX6_find 8 3 74) (hR : rm_rI G NC ph .int rho) (ka1 : rm_kq NC a1 (1, 0)) (ka2 : rm_kq NC a2 (4, 0))   : ∀ (n : Nat) (x3 : Int32) (x4 : Int32) (x5 : Int32) (x6 : Int32) (M : rm_M), fX6_find_L71 a1 a2 n x3 x4 x5 x6 M = some rho → rm_L G NC ph 8 71 [(0, .ref (ph 10)), (1, .ref (ph a1)), (2, .ref (ph a2)), (3, .int x3), (4, .int x4), (5, .int x5), (6, .int x6)] [] M := by
  intro n
  induction n with
  | zero => intro x3 x4 x5 x6 M hf; rw [fX6_find_L71] at hf; cases hf
  | succ n ih =>
    intro x3 x4 x5 x6 M hf
    rw [fX6_find_L71] at hf
    refine rr_iload hG dX6_find_71 6 rfl ?_
    refine rr_aload_n hG dX6_find_73 2 rfl rfl ?_
    refine rr_get hG 4 7 dX6_find_74 ka2 (by decide) rfl tX6_find_X4 (by decide) kX6_find_37 rfl rfl ?_
    refine rr_icmp_ge hG (tgt := 102) dX6_find_77 (by decide) hf (fun c4 hf => ?_) (fun c4 hf => ?_)
    · exact rr_sub (lv2 := [(0, .ref (ph 10)), (3, .int x3)]) [0, 3] rfl (wX6_find_L102 hN _ _ hG hR ka1 ka2 _ _ hf)
    · refine rr_iload hG dX6_find_80 5 rfl ?_
      refine rr_if_eq hG (tgt := 102) dX6_find_82 (by decide) hf (fun c5 hf => ?_) (fun c5 hf => ?_)
      · exact rr_sub (lv2 := [(0, .ref (ph 10)), (3, .int x3)]) [0, 3] rfl (wX6_find_L102 hN _ _ hG hR ka1 ka2 _ _ hf)
      · refine rr_aload_n hG dX6_find_85 0 rfl rfl ?_
        refine rr_aload_n hG dX6_find_86 1 rfl rfl ?_
        refine rr_aload_n hG dX6_find_87 2 rfl rfl ?_
        refine rr_iload_n hG dX6_find_88 3 rfl rfl ?_
        refine rr_iload hG dX6_find_89 4 rfl ?_
        refine rr_cVI hG (st := []) (n := 4) (ci := 6) (rf := 2) (rl := 46) [.ref (ph a1), .ref (ph a2), .int x3, .int x4] dX6_find_91 hf (rm_c hN rfl (by decide)) (by decide) rfl gX6_find_X6_step rfl (by decide +kernel) rfl ⟨by decide, by decide⟩ rfl (Nat.le_of_ble_eq_true rfl) (fun r9 M9 h9 => mX6_step hN ph _ _ _ _ _ _ ka1 ka2 h9) (fun r7 M8 h6 hf => ?_)
        refine rr_istore hG (lv2 := [(5, .int r7), (0, .ref (ph 10)), (1, .ref (ph a1)), (2, .ref (ph a2)), (3, .int x3), (4, .int x4), (6, .int x6)]) dX6_find_94 (by decide) rfl ?_
        refine rr_iinc hG (v := x6 + (1 : Int32)) (lv2 := [(6, .int (x6 + (1 : Int32))), (5, .int r7), (0, .ref (ph 10)), (1, .ref (ph a1)), (2, .ref (ph a2)), (3, .int x3), (4, .int x4)]) (k := 6) dX6_find_96 rfl rfl (by decide) rfl ?_
        refine rr_goto hG (tgt := 71) dX6_find_99 (by decide) ?_
        exact rr_sub (lv2 := [(0, .ref (ph 10)), (1, .ref (ph a1)), (2, .ref (ph a2)), (3, .int x3), (4, .int x4), (5, .int r7), (6, .int (x6 + (1 : Int32)))]) [2, 3, 4, 5, 6, 1, 0] rfl (ih _ _ _ _ _ hf)
set_option maxHeartbeats 4000000 in
set_option maxRecDepth 100000 in
theorem wX6_find_L33 {G : rm_G} {NC : Nat} (hN : 79 ≤ NC) {ph : Nat → Nat} {rho : Int32 × rm_M} (a1 : Nat) (a2 : Nat) (hG : rm_k G NC ph cX6_find RX6 wsX6_find 8 3 74) (hR : rm_rI G NC ph .int rho) (ka1 : rm_kq NC a1 (1, 0)) (ka2 : rm_kq NC a2 (4, 0))   : ∀ (n : Nat) (x3 : Int32) (x4 : Int32) (x5 : Int32) (M : rm_M), fX6_find_L33 a1 a2 n x3 x4 x5 M = some rho → rm_L G NC ph 8 33 [(0, .ref (ph 10)), (1, .ref (ph a1)), (2, .ref (ph a2)), (3, .int x3), (4, .int x4), (5, .int x5)] [] M := by
  intro n
  induction n with
  | zero => intro x3 x4 x5 M hf; rw [fX6_find_L33] at hf; cases hf
  | succ n ih =>
    intro x3 x4 x5 M hf
    rw [fX6_find_L33] at hf
    refine rr_iload hG dX6_find_33 5 rfl ?_
    refine rr_iload_n hG dX6_find_35 3 rfl rfl ?_
    refine rr_icmp_ge hG (tgt := 53) dX6_find_36 (by decide) hf (fun c9 hf => ?_) (fun c9 hf => ?_)
    · refine rr_aload_n hG dX6_find_53 0 rfl rfl ?_
      refine rr_get hG 6 0 (v := .ref (ph 11)) dX6_find_54 (rm_c hN rfl (by decide)) (by decide) rfl tX6_find_X6 (by decide) kX6_find_9 rfl rfl ?_
      refine rr_iconst hG (v := 0) dX6_find_57 (by decide) ?_
      refine rr_iconst hG (v := 1) dX6_find_58 (by decide) ?_
      refine rr_aload_n hG dX6_find_59 2 rfl rfl ?_
      refine rr_get hG 4 5 dX6_find_60 ka2 (by decide) rfl tX6_find_X4 (by decide) kX6_find_34 rfl rfl ?_
      refine rr_ishl hG dX6_find_63 ?_
      refine rr_iast hG dX6_find_64 (rm_c hN rfl (by decide)) hf (fun b10 hf => ?_)
      refine rr_bindM hf (fun M11 eM11 hf => ?_)
      refine rr_iconst hG (v := 1) dX6_find_65 (by decide) ?_
      refine rr_istore hG (lv2 := [(5, .int (1 : Int32)), (0, .ref (ph 10)), (1, .ref (ph a1)), (2, .ref (ph a2)), (3, .int x3), (4, .int x4)]) dX6_find_66 (by decide) rfl ?_
      refine rr_iconst hG (v := 0) dX6_find_68 (by decide) ?_
      refine rr_istore hG (lv2 := [(6, .int (0 : Int32)), (5, .int (1 : Int32)), (0, .ref (ph 10)), (1, .ref (ph a1)), (2, .ref (ph a2)), (3, .int x3), (4, .int x4)]) dX6_find_69 (by decide) rfl ?_
      exact rr_sub (lv2 := [(0, .ref (ph 10)), (1, .ref (ph a1)), (2, .ref (ph a2)), (3, .int x3), (4, .int x4), (5, .int (1 : Int32)), (6, .int (0 : Int32))]) [2, 3, 4, 5, 6, 1, 0] rfl (wX6_find_L71 hN _ _ hG hR ka1 ka2 _ _ _ _ _ _ hf)
    · refine rr_aload_n hG dX6_find_39 0 rfl rfl ?_
      refine rr_get hG 6 0 (v := .ref (ph 11)) dX6_find_40 (rm_c hN rfl (by decide)) (by decide) rfl tX6_find_X6 (by decide) kX6_find_9 rfl rfl ?_
      refine rr_iload hG dX6_find_43 5 rfl ?_
      refine rr_iconst hG (v := 0) dX6_find_45 (by decide) ?_
      refine rr_iast hG dX6_find_46 (rm_c hN rfl (by decide)) hf (fun b12 hf => ?_)
      refine rr_bindM hf (fun M13 eM13 hf => ?_)
      refine rr_iinc hG (v := x5 + (1 : Int32)) (lv2 := [(5, .int (x5 + (1 : Int32))), (0, .ref (ph 10)), (1, .ref (ph a1)), (2, .ref (ph a2)), (3, .int x3), (4, .int x4)]) (k := 5) dX6_find_47 rfl rfl (by decide) rfl ?_
      refine rr_goto hG (tgt := 33) dX6_find_50 (by decide) ?_
      exact rr_sub (lv2 := [(0, .ref (ph 10)), (1, .ref (ph a1)), (2, .ref (ph a2)), (3, .int x3), (4, .int x4), (5, .int (x5 + (1 : Int32)))]) [1, 2, 3, 4, 5, 0] rfl (ih _ _ _ _ hf)
set_option maxHeartbeats 4000000 in
set_option maxRecDepth 100000 in
theorem wX6_find_L21 {G : rm_G} {NC : Nat} (hN : 79 ≤ NC) {ph : Nat → Nat} {rho : Int32 × rm_M} (a1 : Nat) (a2 : Nat) (hG : rm_k G NC ph cX6_find RX6 wsX6_find 8 3 74) (hR : rm_rI G NC ph .int rho) (ka1 : rm_kq NC a1 (1, 0)) (ka2 : rm_kq NC a2 (4, 0))   : ∀ (s0 : Int32) (M : rm_M), fX6_find_L21 a1 a2 s0 M = some rho → rm_L G NC ph 8 21 [(0, .ref (ph 10)), (1, .ref (ph a1)), (2, .ref (ph a2))] [.int s0] M := by
  intro s0 M hf
  unfold fX6_find_L21 at hf
  refine rr_istore_n hG (lv2 := [(3, .int s0), (0, .ref (ph 10)), (1, .ref (ph a1)), (2, .ref (ph a2))]) dX6_find_21 rfl (by decide) rfl ?_
  refine rr_aload_n hG dX6_find_22 1 rfl rfl ?_
  refine rr_aload_n hG dX6_find_23 2 rfl rfl ?_
  refine rr_aload_n hG dX6_find_24 3 rfl rfl ?_
  refine rr_cVI hG (st := []) (n := 2) (ci := 6) (rf := 1) (rl := 22) [.ref (ph a1), .ref (ph a2)] dX6_find_25 hf (rm_c hN rfl (by decide)) (by decide) rfl gX6_find_X6_insideOf rfl (by decide +kernel) rfl ⟨by decide, by decide⟩ rfl (Nat.le_of_ble_eq_true rfl) (fun r9 M9 h9 => mX6_insideOf hN ph _ _ _ _ ka1 ka2 h9) (fun r15 M16 h14 hf => ?_)
  refine rr_istore hG (lv2 := [(4, .int r15), (3, .int s0), (0, .ref (ph 10)), (1, .ref (ph a1)), (2, .ref (ph a2))]) dX6_find_28 (by decide) rfl ?_
  refine rr_iconst hG (v := 1) dX6_find_30 (by decide) ?_
  refine rr_istore hG (lv2 := [(5, .int (1 : Int32)), (4, .int r15), (3, .int s0), (0, .ref (ph 10)), (1, .ref (ph a1)), (2, .ref (ph a2))]) dX6_find_31 (by decide) rfl ?_
  exact rr_sub (lv2 := [(0, .ref (ph 10)), (1, .ref (ph a1)), (2, .ref (ph a2)), (3, .int s0), (4, .int r15), (5, .int (1 : Int32))]) [3, 4, 5, 2, 1, 0] rfl (wX6_find_L33 hN _ _ hG hR ka1 ka2 _ _ _ _ _ hf)
set_option maxHeartbeats 4000000 in
set_option maxRecDepth 100000 in
theorem mX6_find {NC : Nat} (hN : 79 ≤ NC) (ph : Nat → Nat) (a1 : Nat) (a2 : Nat) (M : rm_M) (rho : Int32 × rm_M) (ka1 : rm_kq NC a1 (1, 0)) (ka2 : rm_kq NC a2 (4, 0)) (hf : fX6_find a1 a2 M = some rho) : rm_CI yX6_find wsX6_find 3 74 [.ref (ph 10), .ref (ph a1), .ref (ph a2)] NC ph M rho := by
  refine rm_metI (cc := cX6_find) (maxL := 8) (by decide +kernel) rfl rfl (Nat.le_of_ble_eq_true rfl) rfl (fun G hG hR => ?_)
  unfold fX6_find at hf
  refine rr_aload_n hG dX6_find_0 2 rfl rfl ?_
  refine rr_get hG 4 2 dX6_find_1 ka2 (by decide) rfl tX6_find_X4 (by decide) kX6_find_15 rfl rfl ?_
  refine rr_iconst hG (v := 1) dX6_find_4 (by decide) ?_
  refine rr_icmp_ne hG (tgt := 20) dX6_find_5 (by decide) hf (fun c17 hf => ?_) (fun c17 hf => ?_)
  · refine rr_iconst hG (v := 1) dX6_find_20 (by decide) ?_
    exact rr_sub (lv2 := [(0, .ref (ph 10)), (1, .ref (ph a1)), (2, .ref (ph a2))]) [0, 1, 2] rfl (wX6_find_L21 hN _ _ hG hR ka1 ka2 _ _ hf)
  · refine rr_aload_n hG dX6_find_8 2 rfl rfl ?_
    refine rr_get hG 4 3 dX6_find_9 ka2 (by decide) rfl tX6_find_X4 (by decide) kX6_find_21 rfl rfl ?_
    refine rr_bipush hG (v := 9) dX6_find_12 (by decide) ?_
    refine rr_min hG dX6_find_14 kX6_find_24 kX6_find_stamin kX6_find_math kX6_find_codemin (by decide) (Nat.le_of_ble_eq_true rfl) ?_
    refine rr_goto hG (tgt := 21) dX6_find_17 (by decide) ?_
    exact rr_sub (lv2 := [(0, .ref (ph 10)), (1, .ref (ph a1)), (2, .ref (ph a2))]) [0, 1, 2] rfl (wX6_find_L21 hN _ _ hG hR ka1 ka2 _ _ hf)
/-! X7.write -/
theorem tX7_write_X5 : ∀ w ∈ u_ws RX5 TX5 4, w ∈ wsX7_write := by decide +kernel
theorem tX7_write_X7 : ∀ w ∈ u_ws RX7 TX7 10, w ∈ wsX7_write := by decide +kernel
theorem kX7_write_10 : Cond.fieldLink RX7 10 "RingPages" "text" "LRingPages$Text;" ∈ wsX7_write := by decide +kernel
theorem kX7_write_87 : Cond.fieldLink RX7 87 "RingPages$Text" "length" "I" ∈ wsX7_write := by decide +kernel
set_option maxHeartbeats 4000000 in
set_option maxRecDepth 100000 in
theorem mX7_write {NC : Nat} (hN : 79 ≤ NC) (ph : Nat → Nat) (a1 : Int32) (M : rm_M) (rho : Int32 × rm_M)  (hf : fX7_write a1 M = some rho) : rm_CI yX7_write wsX7_write 1 21 [.ref (ph 0), .int a1] NC ph M rho := by
  refine rm_metI (cc := cX7_write) (maxL := 2) (by decide +kernel) rfl rfl (Nat.le_of_ble_eq_true rfl) rfl (fun G hG hR => ?_)
  unfold fX7_write at hf
  refine rr_iload_n hG dX7_write_0 1 rfl rfl ?_
  refine rr_bipush hG (v := 32) dX7_write_1 (by decide) ?_
  refine rr_icmp_lt hG (tgt := 12) dX7_write_3 (by decide) hf (fun c1 hf => ?_) (fun c1 hf => ?_)
  · refine rr_iconst hG (v := (-1)) dX7_write_12 (by decide) ?_
    exact rr_iret hG hR dX7_write_13 hf
  · refine rr_iload_n hG dX7_write_6 1 rfl rfl ?_
    refine rr_bipush hG (v := 126) dX7_write_7 (by decide) ?_
    refine rr_icmp_le hG (tgt := 14) dX7_write_9 (by decide) hf (fun c2 hf => ?_) (fun c2 hf => ?_)
    · refine rr_aload_n hG dX7_write_14 0 rfl rfl ?_
      refine rr_get hG 7 0 (v := .ref (ph 1)) dX7_write_15 (rm_c hN rfl (by decide)) (by decide) rfl tX7_write_X7 (by decide) kX7_write_10 rfl rfl ?_
      refine rr_iload_n hG dX7_write_18 1 rfl rfl ?_
      refine rr_cVI hG (st := []) (n := 1) (ci := 5) (rf := 0) (rl := 0) [.int a1] dX7_write_19 hf (rm_c hN rfl (by decide)) (by decide) rfl gX7_write_X5_append rfl (by decide +kernel) rfl ⟨by decide, by decide⟩ rfl (Nat.le_of_ble_eq_true rfl) (fun r9 M9 h9 => mX5_append hN ph _ _ _ h9) (fun r4 M5 h3 hf => ?_)
      refine rr_if_eq hG (tgt := 35) dX7_write_22 (by decide) hf (fun c6 hf => ?_) (fun c6 hf => ?_)
      · refine rr_bipush hG (v := (-3)) dX7_write_35 (by decide) ?_
        exact rr_iret hG hR dX7_write_37 hf
      · refine rr_aload_n hG dX7_write_25 0 rfl rfl ?_
        refine rr_get hG 7 0 (v := .ref (ph 1)) dX7_write_26 (rm_c hN rfl (by decide)) (by decide) rfl tX7_write_X7 (by decide) kX7_write_10 rfl rfl ?_
        refine rr_get hG 5 3 dX7_write_29 (rm_c hN rfl (by decide)) (by decide) rfl tX7_write_X5 (by decide) kX7_write_87 rfl rfl ?_
        refine rr_goto hG (tgt := 37) dX7_write_32 (by decide) ?_
        exact rr_iret hG hR dX7_write_37 hf
    · refine rr_iconst hG (v := (-1)) dX7_write_12 (by decide) ?_
      exact rr_iret hG hR dX7_write_13 hf
/-! X7.wipe -/
theorem tX7_wipe_X5 : ∀ w ∈ u_ws RX5 TX5 4, w ∈ wsX7_wipe := by decide +kernel
theorem tX7_wipe_X7 : ∀ w ∈ u_ws RX7 TX7 10, w ∈ wsX7_wipe := by decide +kernel
theorem kX7_wipe_10 : Cond.fieldLink RX7 10 "RingPages" "text" "LRingPages$Text;" ∈ wsX7_wipe := by decide +kernel
theorem kX7_wipe_87 : Cond.fieldLink RX7 87 "RingPages$Text" "length" "I" ∈ wsX7_wipe := by decide +kernel
set_option maxHeartbeats 4000000 in
set_option maxRecDepth 100000 in
theorem mX7_wipe {NC : Nat} (hN : 79 ≤ NC) (ph : Nat → Nat)  (M : rm_M) (rho : Int32 × rm_M)  (hf : fX7_wipe M = some rho) : rm_CI yX7_wipe wsX7_wipe 0 0 [.ref (ph 0)] NC ph M rho := by
  refine rm_metI (cc := cX7_wipe) (maxL := 2) (by decide +kernel) rfl rfl (Nat.le_of_ble_eq_true rfl) rfl (fun G hG hR => ?_)
  unfold fX7_wipe at hf
  refine rr_aload_n hG dX7_wipe_0 0 rfl rfl ?_
  refine rr_get hG 7 0 (v := .ref (ph 1)) dX7_wipe_1 (rm_c hN rfl (by decide)) (by decide) rfl tX7_wipe_X7 (by decide) kX7_wipe_10 rfl rfl ?_
  refine rr_get hG 5 3 dX7_wipe_4 (rm_c hN rfl (by decide)) (by decide) rfl tX7_wipe_X5 (by decide) kX7_wipe_87 rfl rfl ?_
  refine rr_bindI hf (fun v1 ev1 hf => ?_)
  refine rr_istore_n hG (lv2 := [(1, .int v1), (0, .ref (ph 0))]) dX7_wipe_7 rfl (by decide) rfl ?_
  refine rr_aload_n hG dX7_wipe_8 1 rfl rfl ?_
  refine rr_get hG 7 0 (v := .ref (ph 1)) dX7_wipe_9 (rm_c hN rfl (by decide)) (by decide) rfl tX7_wipe_X7 (by decide) kX7_wipe_10 rfl rfl ?_
  refine rr_iconst hG (v := 0) dX7_wipe_12 (by decide) ?_
  refine rr_putI hG 5 3 dX7_wipe_13 (rm_c hN rfl (by decide)) (by decide) rfl tX7_wipe_X5 tyX5_ok nmX5 (by decide) kX7_wipe_87 rfl rfl rfl rfl rfl (Nat.le_of_ble_eq_true rfl) rfl ?_
  refine rr_bindM hf (fun M2 eM2 hf => ?_)
  refine rr_iload_n hG dX7_wipe_16 0 rfl rfl ?_
  exact rr_iret hG hR dX7_wipe_17 hf
