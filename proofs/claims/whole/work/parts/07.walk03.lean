/-! X2.bringBack -/
theorem tX2_bringBack_X2 : ∀ w ∈ u_ws RX2 TX2 3, w ∈ wsX2_bringBack := by decide +kernel
theorem kX2_bringBack_18 : Cond.fieldLink RX2 18 "RingPages$Past" "next" "I" ∈ wsX2_bringBack := by decide +kernel
theorem kX2_bringBack_26 : Cond.fieldLink RX2 26 "RingPages$Past" "held" "I" ∈ wsX2_bringBack := by decide +kernel
theorem kX2_bringBack_11 : Cond.fieldLink RX2 11 "RingPages$Past" "kept" "[LRingPages$State;" ∈ wsX2_bringBack := by decide +kernel
set_option maxHeartbeats 4000000 in
set_option maxRecDepth 100000 in
theorem wX2_bringBack_L27 {G : rm_G} {NC : Nat} (hN : 79 ≤ NC) {ph : Nat → Nat} {rho : Int32 × rm_M} (a1 : Nat) (hG : rm_k G NC ph cX2_bringBack RX2 wsX2_bringBack 2 2 61) (hR : rm_rI G NC ph .boolean rho) (ka1 : rm_kq NC a1 (4, 0))   : ∀ (s1 : Int32) (M : rm_M), fX2_bringBack_L27 a1 s1 M = some rho → rm_L G NC ph 2 27 [(0, .ref (ph 4)), (1, .ref (ph a1))] [.int s1, .ref (ph 4)] M := by
  intro s1 M hf
  unfold fX2_bringBack_L27 at hf
  refine rr_putI hG 2 1 dX2_bringBack_27 (rm_c hN rfl (by decide)) (by decide) rfl tX2_bringBack_X2 tyX2_ok nmX2 (by decide) kX2_bringBack_18 rfl rfl rfl rfl rfl (Nat.le_of_ble_eq_true rfl) rfl ?_
  refine rr_bindM hf (fun M1 eM1 hf => ?_)
  refine rr_aload_n hG dX2_bringBack_30 0 rfl rfl ?_
  refine rr_dup hG dX2_bringBack_31 rfl ?_
  refine rr_get hG 2 2 dX2_bringBack_32 (rm_c hN rfl (by decide)) (by decide) rfl tX2_bringBack_X2 (by decide) kX2_bringBack_26 rfl rfl ?_
  refine rr_iconst hG (v := 1) dX2_bringBack_35 (by decide) ?_
  refine rr_isub hG dX2_bringBack_36 ?_
  refine rr_putI hG 2 2 dX2_bringBack_37 (rm_c hN rfl (by decide)) (by decide) rfl tX2_bringBack_X2 tyX2_ok nmX2 (by decide) kX2_bringBack_26 rfl rfl rfl rfl rfl (Nat.le_of_ble_eq_true rfl) rfl ?_
  refine rr_bindM hf (fun M2 eM2 hf => ?_)
  refine rr_aload_n hG dX2_bringBack_40 1 rfl rfl ?_
  refine rr_aload_n hG dX2_bringBack_41 0 rfl rfl ?_
  refine rr_get hG 2 0 (v := .ref (ph 5)) dX2_bringBack_42 (rm_c hN rfl (by decide)) (by decide) rfl tX2_bringBack_X2 (by decide) kX2_bringBack_11 rfl rfl ?_
  refine rr_aload_n hG dX2_bringBack_45 0 rfl rfl ?_
  refine rr_get hG 2 1 dX2_bringBack_46 (rm_c hN rfl (by decide)) (by decide) rfl tX2_bringBack_X2 (by decide) kX2_bringBack_18 rfl rfl ?_
  refine rr_aldS hG dX2_bringBack_49 (rm_c hN rfl (by decide)) hf (fun b3 hf => ?_)
  refine rr_cVV hG (st := []) (n := 1) (ci := 4) (rf := 1) (rl := 40) [.ref (ph (5 + 56 + 3 * (M2.1 4 1).toNatClampNeg))] dX2_bringBack_50 hf ka1 (by decide) rfl gX2_bringBack_X4_copyFrom rfl (by decide +kernel) rfl ⟨by decide, by decide⟩ rfl (Nat.le_of_ble_eq_true rfl) (fun M9 h9 => mX4_copyFrom hN ph _ _ _ _ ka1 (rm_kS hN b3) h9) (fun M5 h4 hf => ?_)
  refine rr_iconst hG (v := 1) dX2_bringBack_53 (by decide) ?_
  exact rr_zret hG hR dX2_bringBack_54 hf
set_option maxHeartbeats 4000000 in
set_option maxRecDepth 100000 in
theorem mX2_bringBack {NC : Nat} (hN : 79 ≤ NC) (ph : Nat → Nat) (a1 : Nat) (M : rm_M) (rho : Int32 × rm_M) (ka1 : rm_kq NC a1 (4, 0)) (hf : fX2_bringBack a1 M = some rho) : rm_CI yX2_bringBack wsX2_bringBack 2 61 [.ref (ph 4), .ref (ph a1)] NC ph M rho := by
  refine rm_metI (cc := cX2_bringBack) (maxL := 2) (by decide +kernel) rfl rfl (Nat.le_of_ble_eq_true rfl) rfl (fun G hG hR => ?_)
  unfold fX2_bringBack at hf
  refine rr_aload_n hG dX2_bringBack_0 0 rfl rfl ?_
  refine rr_get hG 2 2 dX2_bringBack_1 (rm_c hN rfl (by decide)) (by decide) rfl tX2_bringBack_X2 (by decide) kX2_bringBack_26 rfl rfl ?_
  refine rr_if_ne hG (tgt := 9) dX2_bringBack_4 (by decide) hf (fun c6 hf => ?_) (fun c6 hf => ?_)
  · refine rr_aload_n hG dX2_bringBack_9 0 rfl rfl ?_
    refine rr_aload_n hG dX2_bringBack_10 0 rfl rfl ?_
    refine rr_get hG 2 1 dX2_bringBack_11 (rm_c hN rfl (by decide)) (by decide) rfl tX2_bringBack_X2 (by decide) kX2_bringBack_18 rfl rfl ?_
    refine rr_if_le hG (tgt := 26) dX2_bringBack_14 (by decide) hf (fun c7 hf => ?_) (fun c7 hf => ?_)
    · refine rr_iconst hG (v := 5) dX2_bringBack_26 (by decide) ?_
      exact rr_sub (lv2 := [(0, .ref (ph 4)), (1, .ref (ph a1))]) [0, 1] rfl (wX2_bringBack_L27 hN _ hG hR ka1 _ _ hf)
    · refine rr_aload_n hG dX2_bringBack_17 0 rfl rfl ?_
      refine rr_get hG 2 1 dX2_bringBack_18 (rm_c hN rfl (by decide)) (by decide) rfl tX2_bringBack_X2 (by decide) kX2_bringBack_18 rfl rfl ?_
      refine rr_iconst hG (v := 1) dX2_bringBack_21 (by decide) ?_
      refine rr_isub hG dX2_bringBack_22 ?_
      refine rr_goto hG (tgt := 27) dX2_bringBack_23 (by decide) ?_
      exact rr_sub (lv2 := [(0, .ref (ph 4)), (1, .ref (ph a1))]) [0, 1] rfl (wX2_bringBack_L27 hN _ hG hR ka1 _ _ hf)
  · refine rr_iconst hG (v := 0) dX2_bringBack_7 (by decide) ?_
    exact rr_zret hG hR dX2_bringBack_8 hf
/-! X3.lineUp -/
theorem tX3_lineUp_X3 : ∀ w ∈ u_ws RX3 TX3 4, w ∈ wsX3_lineUp := by decide +kernel
theorem kX3_lineUp_9 : Cond.fieldLink RX3 9 "RingPages$Rounds" "row" "[I" ∈ wsX3_lineUp := by decide +kernel
theorem kX3_lineUp_15 : Cond.fieldLink RX3 15 "RingPages$Rounds" "length" "I" ∈ wsX3_lineUp := by decide +kernel
theorem kX3_lineUp_iniX7 : Cond.initialized RX7 ∈ wsX3_lineUp := by decide +kernel
theorem kX3_lineUp_stX7_holds : Cond.static yX7_holds ∈ wsX3_lineUp := by decide +kernel
set_option maxHeartbeats 4000000 in
set_option maxRecDepth 100000 in
theorem wX3_lineUp_L90 {G : rm_G} {NC : Nat} (hN : 79 ≤ NC) {ph : Nat → Nat} {rho : rm_M} (a1 : Int32) (a2 : Nat) (hG : rm_k G NC ph cX3_lineUp RX3 wsX3_lineUp 5 1 21) (hR : rm_rV G NC ph rho) (ka2 : rm_kq NC a2 (10, (rm_kd a2).2)) (q7 : Int32 → rm_M → Option (rm_M)) (hq7 : ∀ (x3 : Int32) (M : rm_M), q7 x3 M = some rho → rm_L G NC ph 5 7 [(0, .ref (ph 12)), (1, .int a1), (2, .ref (ph a2)), (3, .int x3)] [] M) : ∀ (x3 : Int32) (M : rm_M), fX3_lineUp_L90 a1 a2 q7 x3 M = some rho → rm_L G NC ph 5 90 [(0, .ref (ph 12)), (1, .int a1), (2, .ref (ph a2)), (3, .int x3)] [] M := by
  intro x3 M hf
  unfold fX3_lineUp_L90 at hf
  refine rr_iinc hG (v := x3 + (1 : Int32)) (lv2 := [(3, .int (x3 + (1 : Int32))), (0, .ref (ph 12)), (1, .int a1), (2, .ref (ph a2))]) (k := 3) dX3_lineUp_90 rfl rfl (by decide) rfl ?_
  refine rr_goto hG (tgt := 7) dX3_lineUp_93 (by decide) ?_
  exact rr_sub (lv2 := [(0, .ref (ph 12)), (1, .int a1), (2, .ref (ph a2)), (3, .int (x3 + (1 : Int32)))]) [1, 2, 3, 0] rfl (hq7 _ _ hf)
set_option maxHeartbeats 4000000 in
set_option maxRecDepth 100000 in
theorem wX3_lineUp_L72 {G : rm_G} {NC : Nat} (hN : 79 ≤ NC) {ph : Nat → Nat} {rho : rm_M} (a1 : Int32) (a2 : Nat) (hG : rm_k G NC ph cX3_lineUp RX3 wsX3_lineUp 5 1 21) (hR : rm_rV G NC ph rho) (ka2 : rm_kq NC a2 (10, (rm_kd a2).2)) (q7 : Int32 → rm_M → Option (rm_M)) (hq7 : ∀ (x3 : Int32) (M : rm_M), q7 x3 M = some rho → rm_L G NC ph 5 7 [(0, .ref (ph 12)), (1, .int a1), (2, .ref (ph a2)), (3, .int x3)] [] M) : ∀ (x3 : Int32) (x4 : Int32) (M : rm_M), fX3_lineUp_L72 a1 a2 q7 x3 x4 M = some rho → rm_L G NC ph 5 72 [(0, .ref (ph 12)), (1, .int a1), (2, .ref (ph a2)), (3, .int x3), (4, .int x4)] [] M := by
  intro x3 x4 M hf
  unfold fX3_lineUp_L72 at hf
  refine rr_aload_n hG dX3_lineUp_72 0 rfl rfl ?_
  refine rr_get hG 3 0 (v := .ref (ph 13)) dX3_lineUp_73 (rm_c hN rfl (by decide)) (by decide) rfl tX3_lineUp_X3 (by decide) kX3_lineUp_9 rfl rfl ?_
  refine rr_iload hG dX3_lineUp_76 4 rfl ?_
  refine rr_iload_n hG dX3_lineUp_78 3 rfl rfl ?_
  refine rr_iast hG dX3_lineUp_79 (rm_c hN rfl (by decide)) hf (fun b1 hf => ?_)
  refine rr_bindM hf (fun M2 eM2 hf => ?_)
  refine rr_aload_n hG dX3_lineUp_80 0 rfl rfl ?_
  refine rr_dup hG dX3_lineUp_81 rfl ?_
  refine rr_get hG 3 1 dX3_lineUp_82 (rm_c hN rfl (by decide)) (by decide) rfl tX3_lineUp_X3 (by decide) kX3_lineUp_15 rfl rfl ?_
  refine rr_iconst hG (v := 1) dX3_lineUp_85 (by decide) ?_
  refine rr_iadd hG dX3_lineUp_86 ?_
  refine rr_putI hG 3 1 dX3_lineUp_87 (rm_c hN rfl (by decide)) (by decide) rfl tX3_lineUp_X3 tyX3_ok nmX3 (by decide) kX3_lineUp_15 rfl rfl rfl rfl rfl (Nat.le_of_ble_eq_true rfl) rfl ?_
  refine rr_bindM hf (fun M3 eM3 hf => ?_)
  exact rr_sub (lv2 := [(0, .ref (ph 12)), (1, .int a1), (2, .ref (ph a2)), (3, .int x3)]) [0, 1, 2, 3] rfl (wX3_lineUp_L90 hN _ _ hG hR ka2 _ (hq7) _ _ hf)
set_option maxHeartbeats 4000000 in
set_option maxRecDepth 100000 in
theorem wX3_lineUp_L27 {G : rm_G} {NC : Nat} (hN : 79 ≤ NC) {ph : Nat → Nat} {rho : rm_M} (a1 : Int32) (a2 : Nat) (hG : rm_k G NC ph cX3_lineUp RX3 wsX3_lineUp 5 1 21) (hR : rm_rV G NC ph rho) (ka2 : rm_kq NC a2 (10, (rm_kd a2).2)) (q7 : Int32 → rm_M → Option (rm_M)) (hq7 : ∀ (x3 : Int32) (M : rm_M), q7 x3 M = some rho → rm_L G NC ph 5 7 [(0, .ref (ph 12)), (1, .int a1), (2, .ref (ph a2)), (3, .int x3)] [] M) : ∀ (n : Nat) (x3 : Int32) (x4 : Int32) (M : rm_M), fX3_lineUp_L27 a1 a2 q7 n x3 x4 M = some rho → rm_L G NC ph 5 27 [(0, .ref (ph 12)), (1, .int a1), (2, .ref (ph a2)), (3, .int x3), (4, .int x4)] [] M := by
  intro n
  induction n with
  | zero => intro x3 x4 M hf; rw [fX3_lineUp_L27] at hf; cases hf
  | succ n ih =>
    intro x3 x4 M hf
    rw [fX3_lineUp_L27] at hf
    refine rr_iload hG dX3_lineUp_27 4 rfl ?_
    refine rr_if_le hG (tgt := 72) dX3_lineUp_29 (by decide) hf (fun c4 hf => ?_) (fun c4 hf => ?_)
    · exact rr_sub (lv2 := [(0, .ref (ph 12)), (1, .int a1), (2, .ref (ph a2)), (3, .int x3), (4, .int x4)]) [0, 1, 2, 3, 4] rfl (wX3_lineUp_L72 hN _ _ hG hR ka2 _ (hq7) _ _ _ hf)
    · refine rr_aload_n hG dX3_lineUp_32 2 rfl rfl ?_
      refine rr_aload_n hG dX3_lineUp_33 0 rfl rfl ?_
      refine rr_get hG 3 0 (v := .ref (ph 13)) dX3_lineUp_34 (rm_c hN rfl (by decide)) (by decide) rfl tX3_lineUp_X3 (by decide) kX3_lineUp_9 rfl rfl ?_
      refine rr_iload hG dX3_lineUp_37 4 rfl ?_
      refine rr_iconst hG (v := 1) dX3_lineUp_39 (by decide) ?_
      refine rr_isub hG dX3_lineUp_40 ?_
      refine rr_iald hG dX3_lineUp_41 (rm_c hN rfl (by decide)) hf (fun b5 hf => ?_)
      refine rr_lald hG dX3_lineUp_42 ka2 hf (fun b6 hf => ?_)
      refine rr_aload_n hG dX3_lineUp_43 2 rfl rfl ?_
      refine rr_iload_n hG dX3_lineUp_44 3 rfl rfl ?_
      refine rr_lald hG dX3_lineUp_45 ka2 hf (fun b7 hf => ?_)
      refine rr_lcmp hG dX3_lineUp_46 ?_
      refine rr_if_ge hG (tgt := 72) dX3_lineUp_47 (by decide) hf (fun c8 hf => ?_) (fun c8 hf => ?_)
      · exact rr_sub (lv2 := [(0, .ref (ph 12)), (1, .int a1), (2, .ref (ph a2)), (3, .int x3), (4, .int x4)]) [0, 1, 2, 3, 4] rfl (wX3_lineUp_L72 hN _ _ hG hR ka2 _ (hq7) _ _ _ hf)
      · refine rr_aload_n hG dX3_lineUp_50 0 rfl rfl ?_
        refine rr_get hG 3 0 (v := .ref (ph 13)) dX3_lineUp_51 (rm_c hN rfl (by decide)) (by decide) rfl tX3_lineUp_X3 (by decide) kX3_lineUp_9 rfl rfl ?_
        refine rr_iload hG dX3_lineUp_54 4 rfl ?_
        refine rr_aload_n hG dX3_lineUp_56 0 rfl rfl ?_
        refine rr_get hG 3 0 (v := .ref (ph 13)) dX3_lineUp_57 (rm_c hN rfl (by decide)) (by decide) rfl tX3_lineUp_X3 (by decide) kX3_lineUp_9 rfl rfl ?_
        refine rr_iload hG dX3_lineUp_60 4 rfl ?_
        refine rr_iconst hG (v := 1) dX3_lineUp_62 (by decide) ?_
        refine rr_isub hG dX3_lineUp_63 ?_
        refine rr_iald hG dX3_lineUp_64 (rm_c hN rfl (by decide)) hf (fun b9 hf => ?_)
        refine rr_iast hG dX3_lineUp_65 (rm_c hN rfl (by decide)) hf (fun b10 hf => ?_)
        refine rr_bindM hf (fun M11 eM11 hf => ?_)
        refine rr_iinc hG (v := x4 + (-1 : Int32)) (lv2 := [(4, .int (x4 + (-1 : Int32))), (0, .ref (ph 12)), (1, .int a1), (2, .ref (ph a2)), (3, .int x3)]) (k := 4) dX3_lineUp_66 rfl rfl (by decide) rfl ?_
        refine rr_goto hG (tgt := 27) dX3_lineUp_69 (by decide) ?_
        exact rr_sub (lv2 := [(0, .ref (ph 12)), (1, .int a1), (2, .ref (ph a2)), (3, .int x3), (4, .int (x4 + (-1 : Int32)))]) [1, 2, 3, 4, 0] rfl (ih _ _ _ hf)
set_option maxHeartbeats 4000000 in
set_option maxRecDepth 100000 in
theorem wX3_lineUp_L7 {G : rm_G} {NC : Nat} (hN : 79 ≤ NC) {ph : Nat → Nat} {rho : rm_M} (a1 : Int32) (a2 : Nat) (hG : rm_k G NC ph cX3_lineUp RX3 wsX3_lineUp 5 1 21) (hR : rm_rV G NC ph rho) (ka2 : rm_kq NC a2 (10, (rm_kd a2).2))   : ∀ (n : Nat) (x3 : Int32) (M : rm_M), fX3_lineUp_L7 a1 a2 n x3 M = some rho → rm_L G NC ph 5 7 [(0, .ref (ph 12)), (1, .int a1), (2, .ref (ph a2)), (3, .int x3)] [] M := by
  intro n
  induction n with
  | zero => intro x3 M hf; rw [fX3_lineUp_L7] at hf; cases hf
  | succ n ih =>
    intro x3 M hf
    rw [fX3_lineUp_L7] at hf
    refine rr_iload_n hG dX3_lineUp_7 3 rfl rfl ?_
    refine rr_bipush hG (v := 6) dX3_lineUp_8 (by decide) ?_
    refine rr_icmp_ge hG (tgt := 96) dX3_lineUp_10 (by decide) hf (fun c12 hf => ?_) (fun c12 hf => ?_)
    · exact rr_vret hG hR dX3_lineUp_96 hf
    · refine rr_iload_n hG dX3_lineUp_13 1 rfl rfl ?_
      refine rr_iload_n hG dX3_lineUp_14 3 rfl rfl ?_
      refine rr_cNI hG (st := []) (n := 2) (rf := 0) (rl := 0) [.int a1, .int x3] dX3_lineUp_15 hf gX3_lineUp_X7_holds_n19 (by decide +kernel) kX3_lineUp_iniX7 kX3_lineUp_stX7_holds rfl (by decide +kernel) rfl ⟨by decide, by decide⟩ rfl (Nat.le_of_ble_eq_true rfl) (fun r9 M9 h9 => mX7_holds hN ph _ _ _ _ h9) (fun r14 M15 h13 hf => ?_)
      refine rr_if_eq hG (tgt := 90) dX3_lineUp_18 (by decide) hf (fun c16 hf => ?_) (fun c16 hf => ?_)
      · exact rr_sub (lv2 := [(0, .ref (ph 12)), (1, .int a1), (2, .ref (ph a2)), (3, .int x3)]) [0, 1, 2, 3] rfl (wX3_lineUp_L90 hN _ _ hG hR ka2 _ (ih) _ _ hf)
      · refine rr_aload_n hG dX3_lineUp_21 0 rfl rfl ?_
        refine rr_get hG 3 1 dX3_lineUp_22 (rm_c hN rfl (by decide)) (by decide) rfl tX3_lineUp_X3 (by decide) kX3_lineUp_15 rfl rfl ?_
        refine rr_bindI hf (fun v17 ev17 hf => ?_)
        refine rr_istore hG (lv2 := [(4, .int v17), (0, .ref (ph 12)), (1, .int a1), (2, .ref (ph a2)), (3, .int x3)]) dX3_lineUp_25 (by decide) rfl ?_
        exact rr_sub (lv2 := [(0, .ref (ph 12)), (1, .int a1), (2, .ref (ph a2)), (3, .int x3), (4, .int v17)]) [1, 2, 3, 4, 0] rfl (wX3_lineUp_L27 hN _ _ hG hR ka2 _ (ih) _ _ _ _ hf)
set_option maxHeartbeats 4000000 in
set_option maxRecDepth 100000 in
theorem mX3_lineUp {NC : Nat} (hN : 79 ≤ NC) (ph : Nat → Nat) (a1 : Int32) (a2 : Nat) (M : rm_M) (rho : rm_M) (ka2 : rm_kq NC a2 (10, (rm_kd a2).2)) (hf : fX3_lineUp a1 a2 M = some rho) : rm_CV yX3_lineUp wsX3_lineUp 1 21 [.ref (ph 12), .int a1, .ref (ph a2)] NC ph M rho := by
  refine rm_metV (cc := cX3_lineUp) (maxL := 5) (by decide +kernel) rfl rfl (Nat.le_of_ble_eq_true rfl) rfl (fun G hG hR => ?_)
  unfold fX3_lineUp at hf
  refine rr_aload_n hG dX3_lineUp_0 0 rfl rfl ?_
  refine rr_iconst hG (v := 0) dX3_lineUp_1 (by decide) ?_
  refine rr_putI hG 3 1 dX3_lineUp_2 (rm_c hN rfl (by decide)) (by decide) rfl tX3_lineUp_X3 tyX3_ok nmX3 (by decide) kX3_lineUp_15 rfl rfl rfl rfl rfl (Nat.le_of_ble_eq_true rfl) rfl ?_
  refine rr_bindM hf (fun M18 eM18 hf => ?_)
  refine rr_iconst hG (v := 0) dX3_lineUp_5 (by decide) ?_
  refine rr_istore_n hG (lv2 := [(3, .int (0 : Int32)), (0, .ref (ph 12)), (1, .int a1), (2, .ref (ph a2))]) dX3_lineUp_6 rfl (by decide) rfl ?_
  exact rr_sub (lv2 := [(0, .ref (ph 12)), (1, .int a1), (2, .ref (ph a2)), (3, .int (0 : Int32))]) [1, 2, 3, 0] rfl (wX3_lineUp_L7 hN _ _ hG hR ka2 _ _ _ hf)
/-! X3.isCutBehind -/
theorem tX3_isCutBehind_X3 : ∀ w ∈ u_ws RX3 TX3 4, w ∈ wsX3_isCutBehind := by decide +kernel
theorem kX3_isCutBehind_15 : Cond.fieldLink RX3 15 "RingPages$Rounds" "length" "I" ∈ wsX3_isCutBehind := by decide +kernel
theorem kX3_isCutBehind_iniX7 : Cond.initialized RX7 ∈ wsX3_isCutBehind := by decide +kernel
theorem kX3_isCutBehind_stX7_holds : Cond.static yX7_holds ∈ wsX3_isCutBehind := by decide +kernel
set_option maxHeartbeats 4000000 in
set_option maxRecDepth 100000 in
theorem mX3_isCutBehind {NC : Nat} (hN : 79 ≤ NC) (ph : Nat → Nat) (a1 : Int32) (a2 : Int32) (M : rm_M) (rho : Int32 × rm_M)  (hf : fX3_isCutBehind a1 a2 M = some rho) : rm_CI yX3_isCutBehind wsX3_isCutBehind 1 21 [.ref (ph 12), .int a1, .int a2] NC ph M rho := by
  refine rm_metI (cc := cX3_isCutBehind) (maxL := 3) (by decide +kernel) rfl rfl (Nat.le_of_ble_eq_true rfl) rfl (fun G hG hR => ?_)
  unfold fX3_isCutBehind at hf
  refine rr_iload_n hG dX3_isCutBehind_0 2 rfl rfl ?_
  refine rr_aload_n hG dX3_isCutBehind_1 0 rfl rfl ?_
  refine rr_get hG 3 1 dX3_isCutBehind_2 (rm_c hN rfl (by decide)) (by decide) rfl tX3_isCutBehind_X3 (by decide) kX3_isCutBehind_15 rfl rfl ?_
  refine rr_iconst hG (v := 1) dX3_isCutBehind_5 (by decide) ?_
  refine rr_isub hG dX3_isCutBehind_6 ?_
  refine rr_icmp_ge hG (tgt := 29) dX3_isCutBehind_7 (by decide) hf (fun c1 hf => ?_) (fun c1 hf => ?_)
  · refine rr_iconst hG (v := 0) dX3_isCutBehind_29 (by decide) ?_
    exact rr_zret hG hR dX3_isCutBehind_30 hf
  · refine rr_iload_n hG dX3_isCutBehind_10 1 rfl rfl ?_
    refine rr_aload_n hG dX3_isCutBehind_11 0 rfl rfl ?_
    refine rr_get hG 3 1 dX3_isCutBehind_12 (rm_c hN rfl (by decide)) (by decide) rfl tX3_isCutBehind_X3 (by decide) kX3_isCutBehind_15 rfl rfl ?_
    refine rr_iconst hG (v := 2) dX3_isCutBehind_15 (by decide) ?_
    refine rr_isub hG dX3_isCutBehind_16 ?_
    refine rr_iload_n hG dX3_isCutBehind_17 2 rfl rfl ?_
    refine rr_isub hG dX3_isCutBehind_18 ?_
    refine rr_cNI hG (st := []) (n := 2) (rf := 0) (rl := 0) [.int a1, .int (((M.1 12 1) - (2 : Int32)) - a2)] dX3_isCutBehind_19 hf gX3_isCutBehind_X7_holds_n19 (by decide +kernel) kX3_isCutBehind_iniX7 kX3_isCutBehind_stX7_holds rfl (by decide +kernel) rfl ⟨by decide, by decide⟩ rfl (Nat.le_of_ble_eq_true rfl) (fun r9 M9 h9 => mX7_holds hN ph _ _ _ _ h9) (fun r3 M4 h2 hf => ?_)
    refine rr_if_eq hG (tgt := 29) dX3_isCutBehind_22 (by decide) hf (fun c5 hf => ?_) (fun c5 hf => ?_)
    · refine rr_iconst hG (v := 0) dX3_isCutBehind_29 (by decide) ?_
      exact rr_zret hG hR dX3_isCutBehind_30 hf
    · refine rr_iconst hG (v := 1) dX3_isCutBehind_25 (by decide) ?_
      refine rr_goto hG (tgt := 30) dX3_isCutBehind_26 (by decide) ?_
      exact rr_zret hG hR dX3_isCutBehind_30 hf
/-! X3.meanPaged -/
theorem tX3_meanPaged_X3 : ∀ w ∈ u_ws RX3 TX3 4, w ∈ wsX3_meanPaged := by decide +kernel
theorem kX3_meanPaged_9 : Cond.fieldLink RX3 9 "RingPages$Rounds" "row" "[I" ∈ wsX3_meanPaged := by decide +kernel
theorem kX3_meanPaged_15 : Cond.fieldLink RX3 15 "RingPages$Rounds" "length" "I" ∈ wsX3_meanPaged := by decide +kernel
set_option maxHeartbeats 4000000 in
set_option maxRecDepth 100000 in
theorem wX3_meanPaged_L37 {G : rm_G} {NC : Nat} (hN : 79 ≤ NC) {ph : Nat → Nat} {rho : Int64 × rm_M} (a1 : Int32) (a2 : Nat) (hG : rm_k G NC ph cX3_meanPaged RX3 wsX3_meanPaged 7 2 43) (hR : rm_rJ G NC ph rho) (ka2 : rm_kq NC a2 (10, (rm_kd a2).2)) (q16 : Int64 → Int32 → Int32 → rm_M → Option (Int64 × rm_M)) (hq16 : ∀ (x3 : Int64) (x5 : Int32) (x6 : Int32) (M : rm_M), q16 x3 x5 x6 M = some rho → rm_L G NC ph 7 16 [(0, .ref (ph 12)), (1, .int a1), (2, .ref (ph a2)), (3, .long x3), (5, .int x5), (6, .int x6)] [] M) : ∀ (x3 : Int64) (x5 : Int32) (x6 : Int32) (M : rm_M), fX3_meanPaged_L37 a1 a2 q16 x3 x5 x6 M = some rho → rm_L G NC ph 7 37 [(0, .ref (ph 12)), (1, .int a1), (2, .ref (ph a2)), (3, .long x3), (5, .int x5), (6, .int x6)] [] M := by
  intro x3 x5 x6 M hf
  unfold fX3_meanPaged_L37 at hf
  refine rr_lload_n hG dX3_meanPaged_37 3 rfl rfl ?_
  refine rr_iload hG dX3_meanPaged_38 4 rfl ?_
  refine rr_i2l hG dX3_meanPaged_40 ?_
  refine rr_aload_n hG dX3_meanPaged_41 2 rfl rfl ?_
  refine rr_aload_n hG dX3_meanPaged_42 0 rfl rfl ?_
  refine rr_get hG 3 0 (v := .ref (ph 13)) dX3_meanPaged_43 (rm_c hN rfl (by decide)) (by decide) rfl tX3_meanPaged_X3 (by decide) kX3_meanPaged_9 rfl rfl ?_
  refine rr_iload hG dX3_meanPaged_46 5 rfl ?_
  refine rr_iald hG dX3_meanPaged_48 (rm_c hN rfl (by decide)) hf (fun b1 hf => ?_)
  refine rr_lald hG dX3_meanPaged_49 ka2 hf (fun b2 hf => ?_)
  refine rr_lmul hG dX3_meanPaged_50 ?_
  refine rr_ladd hG dX3_meanPaged_51 ?_
  refine rr_bindJ hf (fun v3 ev3 hf => ?_)
  refine rr_lstore_n hG (lv2 := [(3, .long v3), (0, .ref (ph 12)), (1, .int a1), (2, .ref (ph a2)), (5, .int x5), (6, .int x6)]) dX3_meanPaged_52 rfl (by decide) rfl ?_
  refine rr_iinc hG (v := x6 + (-1 : Int32)) (lv2 := [(6, .int (x6 + (-1 : Int32))), (3, .long v3), (0, .ref (ph 12)), (1, .int a1), (2, .ref (ph a2)), (5, .int x5)]) (k := 5) dX3_meanPaged_53 rfl rfl (by decide) rfl ?_
  refine rr_goto hG (tgt := 16) dX3_meanPaged_56 (by decide) ?_
  exact rr_sub (lv2 := [(0, .ref (ph 12)), (1, .int a1), (2, .ref (ph a2)), (3, .long v3), (5, .int x5), (6, .int (x6 + (-1 : Int32)))]) [2, 3, 4, 1, 5, 0] rfl (hq16 _ _ _ _ hf)
set_option maxHeartbeats 4000000 in
set_option maxRecDepth 100000 in
theorem wX3_meanPaged_L16 {G : rm_G} {NC : Nat} (hN : 79 ≤ NC) {ph : Nat → Nat} {rho : Int64 × rm_M} (a1 : Int32) (a2 : Nat) (hG : rm_k G NC ph cX3_meanPaged RX3 wsX3_meanPaged 7 2 43) (hR : rm_rJ G NC ph rho) (ka2 : rm_kq NC a2 (10, (rm_kd a2).2))   : ∀ (n : Nat) (x3 : Int64) (x5 : Int32) (x6 : Int32) (M : rm_M), fX3_meanPaged_L16 a1 a2 n x3 x5 x6 M = some rho → rm_L G NC ph 7 16 [(0, .ref (ph 12)), (1, .int a1), (2, .ref (ph a2)), (3, .long x3), (5, .int x5), (6, .int x6)] [] M := by
  intro n
  induction n with
  | zero => intro x3 x5 x6 M hf; rw [fX3_meanPaged_L16] at hf; cases hf
  | succ n ih =>
    intro x3 x5 x6 M hf
    rw [fX3_meanPaged_L16] at hf
    refine rr_iload hG dX3_meanPaged_16 5 rfl ?_
    refine rr_if_lt hG (tgt := 59) dX3_meanPaged_18 (by decide) hf (fun c4 hf => ?_) (fun c4 hf => ?_)
    · refine rr_lload_n hG dX3_meanPaged_59 3 rfl rfl ?_
      exact rr_lret hG hR dX3_meanPaged_60 hf
    · refine rr_aload_n hG dX3_meanPaged_21 0 rfl rfl ?_
      refine rr_iload_n hG dX3_meanPaged_22 1 rfl rfl ?_
      refine rr_iload hG dX3_meanPaged_23 5 rfl ?_
      refine rr_cVI hG (st := []) (n := 2) (ci := 3) (rf := 1) (rl := 21) [.int a1, .int x6] dX3_meanPaged_25 hf (rm_c hN rfl (by decide)) (by decide) rfl gX3_meanPaged_X3_isCutBehind rfl (by decide +kernel) rfl ⟨by decide, by decide⟩ rfl (Nat.le_of_ble_eq_true rfl) (fun r9 M9 h9 => mX3_isCutBehind hN ph _ _ _ _ h9) (fun r6 M7 h5 hf => ?_)
      refine rr_if_eq hG (tgt := 37) dX3_meanPaged_28 (by decide) hf (fun c8 hf => ?_) (fun c8 hf => ?_)
      · exact rr_sub (lv2 := [(0, .ref (ph 12)), (1, .int a1), (2, .ref (ph a2)), (3, .long x3), (5, .int x5), (6, .int x6)]) [0, 1, 2, 3, 4, 5] rfl (wX3_meanPaged_L37 hN _ _ hG hR ka2 _ (ih) _ _ _ _ hf)
      · refine rr_iload hG dX3_meanPaged_31 5 rfl ?_
        refine rr_iconst hG (v := 1) dX3_meanPaged_33 (by decide) ?_
        refine rr_iadd hG dX3_meanPaged_34 ?_
        refine rr_bindI hf (fun v9 ev9 hf => ?_)
        refine rr_istore hG (lv2 := [(5, .int v9), (0, .ref (ph 12)), (1, .int a1), (2, .ref (ph a2)), (3, .long x3), (6, .int x6)]) dX3_meanPaged_35 (by decide) rfl ?_
        exact rr_sub (lv2 := [(0, .ref (ph 12)), (1, .int a1), (2, .ref (ph a2)), (3, .long x3), (5, .int v9), (6, .int x6)]) [1, 2, 3, 4, 0, 5] rfl (wX3_meanPaged_L37 hN _ _ hG hR ka2 _ (ih) _ _ _ _ hf)
set_option maxHeartbeats 4000000 in
set_option maxRecDepth 100000 in
theorem mX3_meanPaged {NC : Nat} (hN : 79 ≤ NC) (ph : Nat → Nat) (a1 : Int32) (a2 : Nat) (M : rm_M) (rho : Int64 × rm_M) (ka2 : rm_kq NC a2 (10, (rm_kd a2).2)) (hf : fX3_meanPaged a1 a2 M = some rho) : rm_CJ yX3_meanPaged wsX3_meanPaged 2 43 [.ref (ph 12), .int a1, .ref (ph a2)] NC ph M rho := by
  refine rm_metJ (cc := cX3_meanPaged) (maxL := 7) (by decide +kernel) rfl rfl (Nat.le_of_ble_eq_true rfl) rfl (fun G hG hR => ?_)
  unfold fX3_meanPaged at hf
  refine rr_lconst hG (v := 0) dX3_meanPaged_0 (by decide) ?_
  refine rr_lstore_n hG (lv2 := [(3, .long (0 : Int64)), (0, .ref (ph 12)), (1, .int a1), (2, .ref (ph a2))]) dX3_meanPaged_1 rfl (by decide) rfl ?_
  refine rr_aload_n hG dX3_meanPaged_2 1 rfl rfl ?_
  refine rr_get hG 3 1 dX3_meanPaged_3 (rm_c hN rfl (by decide)) (by decide) rfl tX3_meanPaged_X3 (by decide) kX3_meanPaged_15 rfl rfl ?_
  refine rr_bindI hf (fun v10 ev10 hf => ?_)
  refine rr_istore hG (lv2 := [(5, .int v10), (3, .long (0 : Int64)), (0, .ref (ph 12)), (1, .int a1), (2, .ref (ph a2))]) dX3_meanPaged_6 (by decide) rfl ?_
  refine rr_aload_n hG dX3_meanPaged_8 2 rfl rfl ?_
  refine rr_get hG 3 1 dX3_meanPaged_9 (rm_c hN rfl (by decide)) (by decide) rfl tX3_meanPaged_X3 (by decide) kX3_meanPaged_15 rfl rfl ?_
  refine rr_iconst hG (v := 1) dX3_meanPaged_12 (by decide) ?_
  refine rr_isub hG dX3_meanPaged_13 ?_
  refine rr_bindI hf (fun v11 ev11 hf => ?_)
  refine rr_istore hG (lv2 := [(6, .int v11), (5, .int v10), (3, .long (0 : Int64)), (0, .ref (ph 12)), (1, .int a1), (2, .ref (ph a2))]) dX3_meanPaged_14 (by decide) rfl ?_
  exact rr_sub (lv2 := [(0, .ref (ph 12)), (1, .int a1), (2, .ref (ph a2)), (3, .long (0 : Int64)), (5, .int v10), (6, .int v11)]) [3, 4, 5, 2, 1, 0] rfl (wX3_meanPaged_L16 hN _ _ hG hR ka2 _ _ _ _ _ hf)
/-! X3.split -/
theorem tX3_split_X3 : ∀ w ∈ u_ws RX3 TX3 4, w ∈ wsX3_split := by decide +kernel
theorem kX3_split_28 : Cond.fieldLink RX3 28 "RingPages$Rounds" "cuts" "I" ∈ wsX3_split := by decide +kernel
theorem kX3_split_25 : Cond.fieldLink RX3 25 "RingPages$Rounds" "many" "I" ∈ wsX3_split := by decide +kernel
theorem kX3_split_23 : Cond.constantLong RX3 23 (-1) ∈ wsX3_split := by decide +kernel
theorem kX3_split_15 : Cond.fieldLink RX3 15 "RingPages$Rounds" "length" "I" ∈ wsX3_split := by decide +kernel
set_option maxHeartbeats 4000000 in
set_option maxRecDepth 100000 in
theorem wX3_split_L127 {G : rm_G} {NC : Nat} (hN : 79 ≤ NC) {ph : Nat → Nat} {rho : rm_M} (a1 : Int32) (a2 : Nat) (hG : rm_k G NC ph cX3_split RX3 wsX3_split 10 3 69) (hR : rm_rV G NC ph rho) (ka2 : rm_kq NC a2 (10, (rm_kd a2).2)) (q41 : Int64 → Int32 → rm_M → Option (rm_M)) (hq41 : ∀ (x3 : Int64) (x6 : Int32) (M : rm_M), q41 x3 x6 M = some rho → rm_L G NC ph 10 41 [(0, .ref (ph 12)), (1, .int a1), (2, .ref (ph a2)), (3, .long x3), (6, .int x6)] [] M) : ∀ (x3 : Int64) (x6 : Int32) (M : rm_M), fX3_split_L127 a1 a2 q41 x3 x6 M = some rho → rm_L G NC ph 10 127 [(0, .ref (ph 12)), (1, .int a1), (2, .ref (ph a2)), (3, .long x3), (6, .int x6)] [] M := by
  intro x3 x6 M hf
  unfold fX3_split_L127 at hf
  refine rr_iinc hG (v := x6 + (-1 : Int32)) (lv2 := [(6, .int (x6 + (-1 : Int32))), (0, .ref (ph 12)), (1, .int a1), (2, .ref (ph a2)), (3, .long x3)]) (k := 4) dX3_split_127 rfl rfl (by decide) rfl ?_
  refine rr_goto hG (tgt := 41) dX3_split_130 (by decide) ?_
  exact rr_sub (lv2 := [(0, .ref (ph 12)), (1, .int a1), (2, .ref (ph a2)), (3, .long x3), (6, .int (x6 + (-1 : Int32)))]) [1, 2, 3, 4, 0] rfl (hq41 _ _ _ hf)
set_option maxHeartbeats 4000000 in
set_option maxRecDepth 100000 in
theorem wX3_split_L112 {G : rm_G} {NC : Nat} (hN : 79 ≤ NC) {ph : Nat → Nat} {rho : rm_M} (a1 : Int32) (a2 : Nat) (hG : rm_k G NC ph cX3_split RX3 wsX3_split 10 3 69) (hR : rm_rV G NC ph rho) (ka2 : rm_kq NC a2 (10, (rm_kd a2).2)) (q41 : Int64 → Int32 → rm_M → Option (rm_M)) (hq41 : ∀ (x3 : Int64) (x6 : Int32) (M : rm_M), q41 x3 x6 M = some rho → rm_L G NC ph 10 41 [(0, .ref (ph 12)), (1, .int a1), (2, .ref (ph a2)), (3, .long x3), (6, .int x6)] [] M) : ∀ (x6 : Int32) (x7 : Int32) (x8 : Int64) (M : rm_M), fX3_split_L112 a1 a2 q41 x6 x7 x8 M = some rho → rm_L G NC ph 10 112 [(0, .ref (ph 12)), (1, .int a1), (2, .ref (ph a2)), (6, .int x6), (7, .int x7), (8, .long x8)] [] M := by
  intro x6 x7 x8 M hf
  unfold fX3_split_L112 at hf
  refine rr_lload hG dX3_split_112 5 rfl ?_
  refine rr_lstore_n hG (lv2 := [(3, .long x8), (0, .ref (ph 12)), (1, .int a1), (2, .ref (ph a2)), (6, .int x6), (7, .int x7), (8, .long x8)]) dX3_split_114 rfl (by decide) rfl ?_
  refine rr_aload_n hG dX3_split_115 1 rfl rfl ?_
  refine rr_iload hG dX3_split_116 4 rfl ?_
  refine rr_putI hG 3 2 dX3_split_118 (rm_c hN rfl (by decide)) (by decide) rfl tX3_split_X3 tyX3_ok nmX3 (by decide) kX3_split_28 rfl rfl rfl rfl rfl (Nat.le_of_ble_eq_true rfl) rfl ?_
  refine rr_bindM hf (fun M1 eM1 hf => ?_)
  refine rr_aload_n hG dX3_split_121 1 rfl rfl ?_
  refine rr_iload hG dX3_split_122 5 rfl ?_
  refine rr_putI hG 3 3 dX3_split_124 (rm_c hN rfl (by decide)) (by decide) rfl tX3_split_X3 tyX3_ok nmX3 (by decide) kX3_split_25 rfl rfl rfl rfl rfl (Nat.le_of_ble_eq_true rfl) rfl ?_
  refine rr_bindM hf (fun M2 eM2 hf => ?_)
  exact rr_sub (lv2 := [(0, .ref (ph 12)), (1, .int a1), (2, .ref (ph a2)), (3, .long x8), (6, .int x6)]) [1, 2, 3, 0, 4] rfl (wX3_split_L127 hN _ _ hG hR ka2 _ (hq41) _ _ _ hf)
set_option maxHeartbeats 4000000 in
set_option maxRecDepth 100000 in
theorem wX3_split_L74 {G : rm_G} {NC : Nat} (hN : 79 ≤ NC) {ph : Nat → Nat} {rho : rm_M} (a1 : Int32) (a2 : Nat) (hG : rm_k G NC ph cX3_split RX3 wsX3_split 10 3 69) (hR : rm_rV G NC ph rho) (ka2 : rm_kq NC a2 (10, (rm_kd a2).2)) (q41 : Int64 → Int32 → rm_M → Option (rm_M)) (hq41 : ∀ (x3 : Int64) (x6 : Int32) (M : rm_M), q41 x3 x6 M = some rho → rm_L G NC ph 10 41 [(0, .ref (ph 12)), (1, .int a1), (2, .ref (ph a2)), (3, .long x3), (6, .int x6)] [] M) : ∀ (x3 : Int64) (x6 : Int32) (x7 : Int32) (s0 : Int64) (M : rm_M), fX3_split_L74 a1 a2 q41 x3 x6 x7 s0 M = some rho → rm_L G NC ph 10 74 [(0, .ref (ph 12)), (1, .int a1), (2, .ref (ph a2)), (3, .long x3), (6, .int x6), (7, .int x7)] [.long s0] M := by
  intro x3 x6 x7 s0 M hf
  unfold fX3_split_L74 at hf
  refine rr_lstore hG (lv2 := [(8, .long s0), (0, .ref (ph 12)), (1, .int a1), (2, .ref (ph a2)), (3, .long x3), (6, .int x6), (7, .int x7)]) dX3_split_74 (by decide) rfl ?_
  refine rr_lload hG dX3_split_76 0 rfl ?_
  refine rr_lconst hG (v := 0) dX3_split_78 (by decide) ?_
  refine rr_lcmp hG dX3_split_79 ?_
  refine rr_if_lt hG (tgt := 127) dX3_split_80 (by decide) hf (fun c3 hf => ?_) (fun c3 hf => ?_)
  · exact rr_sub (lv2 := [(0, .ref (ph 12)), (1, .int a1), (2, .ref (ph a2)), (3, .long x3), (6, .int x6)]) [1, 2, 3, 4, 5] rfl (wX3_split_L127 hN _ _ hG hR ka2 _ (hq41) _ _ _ hf)
  · refine rr_lload_n hG dX3_split_83 4 rfl rfl ?_
    refine rr_lconst hG (v := 0) dX3_split_84 (by decide) ?_
    refine rr_lcmp hG dX3_split_85 ?_
    refine rr_if_lt hG (tgt := 112) dX3_split_86 (by decide) hf (fun c4 hf => ?_) (fun c4 hf => ?_)
    · exact rr_sub (lv2 := [(0, .ref (ph 12)), (1, .int a1), (2, .ref (ph a2)), (6, .int x6), (7, .int x7), (8, .long s0)]) [1, 2, 3, 5, 6, 0] rfl (wX3_split_L112 hN _ _ hG hR ka2 _ (hq41) _ _ _ _ hf)
    · refine rr_lload hG dX3_split_89 0 rfl ?_
      refine rr_lload_n hG dX3_split_91 4 rfl rfl ?_
      refine rr_lcmp hG dX3_split_92 ?_
      refine rr_if_lt hG (tgt := 112) dX3_split_93 (by decide) hf (fun c5 hf => ?_) (fun c5 hf => ?_)
      · exact rr_sub (lv2 := [(0, .ref (ph 12)), (1, .int a1), (2, .ref (ph a2)), (6, .int x6), (7, .int x7), (8, .long s0)]) [1, 2, 3, 5, 6, 0] rfl (wX3_split_L112 hN _ _ hG hR ka2 _ (hq41) _ _ _ _ hf)
      · refine rr_lload hG dX3_split_96 0 rfl ?_
        refine rr_lload_n hG dX3_split_98 4 rfl rfl ?_
        refine rr_lcmp hG dX3_split_99 ?_
        refine rr_if_ne hG (tgt := 127) dX3_split_100 (by decide) hf (fun c6 hf => ?_) (fun c6 hf => ?_)
        · exact rr_sub (lv2 := [(0, .ref (ph 12)), (1, .int a1), (2, .ref (ph a2)), (3, .long x3), (6, .int x6)]) [1, 2, 3, 4, 5] rfl (wX3_split_L127 hN _ _ hG hR ka2 _ (hq41) _ _ _ hf)
        · refine rr_iload hG dX3_split_103 6 rfl ?_
          refine rr_aload_n hG dX3_split_105 1 rfl rfl ?_
          refine rr_get hG 3 3 dX3_split_106 (rm_c hN rfl (by decide)) (by decide) rfl tX3_split_X3 (by decide) kX3_split_25 rfl rfl ?_
          refine rr_icmp_ge hG (tgt := 127) dX3_split_109 (by decide) hf (fun c7 hf => ?_) (fun c7 hf => ?_)
          · exact rr_sub (lv2 := [(0, .ref (ph 12)), (1, .int a1), (2, .ref (ph a2)), (3, .long x3), (6, .int x6)]) [1, 2, 3, 4, 5] rfl (wX3_split_L127 hN _ _ hG hR ka2 _ (hq41) _ _ _ hf)
          · exact rr_sub (lv2 := [(0, .ref (ph 12)), (1, .int a1), (2, .ref (ph a2)), (6, .int x6), (7, .int x7), (8, .long s0)]) [1, 2, 3, 5, 6, 0] rfl (wX3_split_L112 hN _ _ hG hR ka2 _ (hq41) _ _ _ _ hf)
set_option maxHeartbeats 4000000 in
set_option maxRecDepth 100000 in
theorem wX3_split_L41 {G : rm_G} {NC : Nat} (hN : 79 ≤ NC) {ph : Nat → Nat} {rho : rm_M} (a1 : Int32) (a2 : Nat) (hG : rm_k G NC ph cX3_split RX3 wsX3_split 10 3 69) (hR : rm_rV G NC ph rho) (ka2 : rm_kq NC a2 (10, (rm_kd a2).2))   : ∀ (n : Nat) (x3 : Int64) (x6 : Int32) (M : rm_M), fX3_split_L41 a1 a2 n x3 x6 M = some rho → rm_L G NC ph 10 41 [(0, .ref (ph 12)), (1, .int a1), (2, .ref (ph a2)), (3, .long x3), (6, .int x6)] [] M := by
  intro n
  induction n with
  | zero => intro x3 x6 M hf; rw [fX3_split_L41] at hf; cases hf
  | succ n ih =>
    intro x3 x6 M hf
    rw [fX3_split_L41] at hf
    refine rr_iload hG dX3_split_41 4 rfl ?_
    refine rr_if_lt hG (tgt := 133) dX3_split_43 (by decide) hf (fun c8 hf => ?_) (fun c8 hf => ?_)
    · exact rr_vret hG hR dX3_split_133 hf
    · refine rr_iload hG dX3_split_46 4 rfl ?_
      refine rr_cSI hG (st := []) (n := 1) (rf := 0) (rl := 0) [.int x6] dX3_split_48 hf gX3_split_J6_bitCount_0f7a4 rfl (by decide +kernel) rfl ⟨by decide, by decide⟩ rfl (Nat.le_of_ble_eq_true rfl) (fun r9 M9 h9 => mJ6_bitCount_0f7a4 hN ph _ _ _ h9) (fun r10 M11 h9 hf => ?_)
      refine rr_iconst hG (v := 1) dX3_split_51 (by decide) ?_
      refine rr_iadd hG dX3_split_52 ?_
      refine rr_bindI hf (fun v12 ev12 hf => ?_)
      refine rr_istore hG (lv2 := [(7, .int v12), (0, .ref (ph 12)), (1, .int a1), (2, .ref (ph a2)), (3, .long x3), (6, .int x6)]) dX3_split_53 (by decide) rfl ?_
      refine rr_iload hG dX3_split_55 0 rfl ?_
      refine rr_iload_n hG dX3_split_57 2 rfl rfl ?_
      refine rr_icmp_gt hG (tgt := 71) dX3_split_58 (by decide) hf (fun c13 hf => ?_) (fun c13 hf => ?_)
      · refine rr_ldc2 hG (v := (-1)) dX3_split_71 kX3_split_23 ?_
        exact rr_sub (lv2 := [(0, .ref (ph 12)), (1, .int a1), (2, .ref (ph a2)), (3, .long x3), (6, .int x6), (7, .int v12)]) [1, 2, 3, 4, 5, 0] rfl (wX3_split_L74 hN _ _ hG hR ka2 _ (ih) _ _ _ _ _ hf)
      · refine rr_aload_n hG dX3_split_61 1 rfl rfl ?_
        refine rr_iload hG dX3_split_62 5 rfl ?_
        refine rr_aload_n hG dX3_split_64 3 rfl rfl ?_
        refine rr_cVJ hG (st := []) (n := 2) (ci := 3) (rf := 2) (rl := 43) [.int x6, .ref (ph a2)] dX3_split_65 hf (rm_c hN rfl (by decide)) (by decide) rfl gX3_split_X3_meanPaged rfl (by decide +kernel) rfl ⟨by decide, by decide⟩ rfl (Nat.le_of_ble_eq_true rfl) (fun r9 M9 h9 => mX3_meanPaged hN ph _ _ _ _ (rm_kself ka2) h9) (fun r15 M16 h14 hf => ?_)
        refine rr_goto hG (tgt := 74) dX3_split_68 (by decide) ?_
        exact rr_sub (lv2 := [(0, .ref (ph 12)), (1, .int a1), (2, .ref (ph a2)), (3, .long x3), (6, .int x6), (7, .int v12)]) [1, 2, 3, 4, 5, 0] rfl (wX3_split_L74 hN _ _ hG hR ka2 _ (ih) _ _ _ _ _ hf)
set_option maxHeartbeats 4000000 in
set_option maxRecDepth 100000 in
theorem wX3_split_L35 {G : rm_G} {NC : Nat} (hN : 79 ≤ NC) {ph : Nat → Nat} {rho : rm_M} (a1 : Int32) (a2 : Nat) (hG : rm_k G NC ph cX3_split RX3 wsX3_split 10 3 69) (hR : rm_rV G NC ph rho) (ka2 : rm_kq NC a2 (10, (rm_kd a2).2))   : ∀ (x3 : Int64) (s0 : Int32) (M : rm_M), fX3_split_L35 a1 a2 x3 s0 M = some rho → rm_L G NC ph 10 35 [(0, .ref (ph 12)), (1, .int a1), (2, .ref (ph a2)), (3, .long x3)] [.int s0] M := by
  intro x3 s0 M hf
  unfold fX3_split_L35 at hf
  refine rr_istore hG (lv2 := [(5, .int s0), (0, .ref (ph 12)), (1, .int a1), (2, .ref (ph a2)), (3, .long x3)]) dX3_split_35 (by decide) rfl ?_
  refine rr_iload hG dX3_split_37 0 rfl ?_
  refine rr_istore hG (lv2 := [(6, .int s0), (5, .int s0), (0, .ref (ph 12)), (1, .int a1), (2, .ref (ph a2)), (3, .long x3)]) dX3_split_39 (by decide) rfl ?_
  exact rr_sub (lv2 := [(0, .ref (ph 12)), (1, .int a1), (2, .ref (ph a2)), (3, .long x3), (6, .int s0)]) [2, 3, 4, 5, 0] rfl (wX3_split_L41 hN _ _ hG hR ka2 _ _ _ _ hf)
set_option maxHeartbeats 4000000 in
set_option maxRecDepth 100000 in
theorem mX3_split {NC : Nat} (hN : 79 ≤ NC) (ph : Nat → Nat) (a1 : Int32) (a2 : Nat) (M : rm_M) (rho : rm_M) (ka2 : rm_kq NC a2 (10, (rm_kd a2).2)) (hf : fX3_split a1 a2 M = some rho) : rm_CV yX3_split wsX3_split 3 69 [.ref (ph 12), .int a1, .ref (ph a2)] NC ph M rho := by
  refine rm_metV (cc := cX3_split) (maxL := 10) (by decide +kernel) rfl rfl (Nat.le_of_ble_eq_true rfl) rfl (fun G hG hR => ?_)
  unfold fX3_split at hf
  refine rr_ldc2 hG (v := (-1)) dX3_split_0 kX3_split_23 ?_
  refine rr_lstore_n hG (lv2 := [(3, .long (-1 : Int64)), (0, .ref (ph 12)), (1, .int a1), (2, .ref (ph a2))]) dX3_split_3 rfl (by decide) rfl ?_
  refine rr_aload_n hG dX3_split_4 1 rfl rfl ?_
  refine rr_iconst hG (v := 0) dX3_split_5 (by decide) ?_
  refine rr_putI hG 3 3 dX3_split_6 (rm_c hN rfl (by decide)) (by decide) rfl tX3_split_X3 tyX3_ok nmX3 (by decide) kX3_split_25 rfl rfl rfl rfl rfl (Nat.le_of_ble_eq_true rfl) rfl ?_
  refine rr_bindM hf (fun M17 eM17 hf => ?_)
  refine rr_aload_n hG dX3_split_9 1 rfl rfl ?_
  refine rr_iconst hG (v := 0) dX3_split_10 (by decide) ?_
  refine rr_putI hG 3 2 dX3_split_11 (rm_c hN rfl (by decide)) (by decide) rfl tX3_split_X3 tyX3_ok nmX3 (by decide) kX3_split_28 rfl rfl rfl rfl rfl (Nat.le_of_ble_eq_true rfl) rfl ?_
  refine rr_bindM hf (fun M18 eM18 hf => ?_)
  refine rr_aload_n hG dX3_split_14 1 rfl rfl ?_
  refine rr_get hG 3 1 dX3_split_15 (rm_c hN rfl (by decide)) (by decide) rfl tX3_split_X3 (by decide) kX3_split_15 rfl rfl ?_
  refine rr_if_le hG (tgt := 34) dX3_split_18 (by decide) hf (fun c19 hf => ?_) (fun c19 hf => ?_)
  · refine rr_iconst hG (v := (-1)) dX3_split_34 (by decide) ?_
    exact rr_sub (lv2 := [(0, .ref (ph 12)), (1, .int a1), (2, .ref (ph a2)), (3, .long (-1 : Int64))]) [1, 2, 3, 0] rfl (wX3_split_L35 hN _ _ hG hR ka2 _ _ _ hf)
  · refine rr_iconst hG (v := 1) dX3_split_21 (by decide) ?_
    refine rr_aload_n hG dX3_split_22 1 rfl rfl ?_
    refine rr_get hG 3 1 dX3_split_23 (rm_c hN rfl (by decide)) (by decide) rfl tX3_split_X3 (by decide) kX3_split_15 rfl rfl ?_
    refine rr_iconst hG (v := 1) dX3_split_26 (by decide) ?_
    refine rr_isub hG dX3_split_27 ?_
    refine rr_ishl hG dX3_split_28 ?_
    refine rr_iconst hG (v := 1) dX3_split_29 (by decide) ?_
    refine rr_isub hG dX3_split_30 ?_
    refine rr_goto hG (tgt := 35) dX3_split_31 (by decide) ?_
    exact rr_sub (lv2 := [(0, .ref (ph 12)), (1, .int a1), (2, .ref (ph a2)), (3, .long (-1 : Int64))]) [1, 2, 3, 0] rfl (wX3_split_L35 hN _ _ hG hR ka2 _ _ _ hf)
/-! X3.cellsOf -/
theorem tX3_cellsOf_X3 : ∀ w ∈ u_ws RX3 TX3 4, w ∈ wsX3_cellsOf := by decide +kernel
theorem kX3_cellsOf_28 : Cond.fieldLink RX3 28 "RingPages$Rounds" "cuts" "I" ∈ wsX3_cellsOf := by decide +kernel
theorem kX3_cellsOf_15 : Cond.fieldLink RX3 15 "RingPages$Rounds" "length" "I" ∈ wsX3_cellsOf := by decide +kernel
theorem kX3_cellsOf_9 : Cond.fieldLink RX3 9 "RingPages$Rounds" "row" "[I" ∈ wsX3_cellsOf := by decide +kernel
set_option maxHeartbeats 4000000 in
set_option maxRecDepth 100000 in
theorem wX3_cellsOf_L49 {G : rm_G} {NC : Nat} (hN : 79 ≤ NC) {ph : Nat → Nat} {rho : Int32 × rm_M} (a1 : Int32) (hG : rm_k G NC ph cX3_cellsOf RX3 wsX3_cellsOf 5 2 43) (hR : rm_rI G NC ph .int rho)  (q7 : Int32 → Int32 → Int32 → rm_M → Option (Int32 × rm_M)) (hq7 : ∀ (x2 : Int32) (x3 : Int32) (x4 : Int32) (M : rm_M), q7 x2 x3 x4 M = some rho → rm_L G NC ph 5 7 [(0, .ref (ph 12)), (1, .int a1), (2, .int x2), (3, .int x3), (4, .int x4)] [] M) : ∀ (x2 : Int32) (x3 : Int32) (x4 : Int32) (M : rm_M), fX3_cellsOf_L49 a1 q7 x2 x3 x4 M = some rho → rm_L G NC ph 5 49 [(0, .ref (ph 12)), (1, .int a1), (2, .int x2), (3, .int x3), (4, .int x4)] [] M := by
  intro x2 x3 x4 M hf
  unfold fX3_cellsOf_L49 at hf
  refine rr_iinc hG (v := x4 + (1 : Int32)) (lv2 := [(4, .int (x4 + (1 : Int32))), (0, .ref (ph 12)), (1, .int a1), (2, .int x2), (3, .int x3)]) (k := 4) dX3_cellsOf_49 rfl rfl (by decide) rfl ?_
  refine rr_goto hG (tgt := 7) dX3_cellsOf_52 (by decide) ?_
  exact rr_sub (lv2 := [(0, .ref (ph 12)), (1, .int a1), (2, .int x2), (3, .int x3), (4, .int (x4 + (1 : Int32)))]) [1, 2, 3, 4, 0] rfl (hq7 _ _ _ _ hf)
set_option maxHeartbeats 4000000 in
set_option maxRecDepth 100000 in
theorem wX3_cellsOf_L33 {G : rm_G} {NC : Nat} (hN : 79 ≤ NC) {ph : Nat → Nat} {rho : Int32 × rm_M} (a1 : Int32) (hG : rm_k G NC ph cX3_cellsOf RX3 wsX3_cellsOf 5 2 43) (hR : rm_rI G NC ph .int rho)  (q7 : Int32 → Int32 → Int32 → rm_M → Option (Int32 × rm_M)) (hq7 : ∀ (x2 : Int32) (x3 : Int32) (x4 : Int32) (M : rm_M), q7 x2 x3 x4 M = some rho → rm_L G NC ph 5 7 [(0, .ref (ph 12)), (1, .int a1), (2, .int x2), (3, .int x3), (4, .int x4)] [] M) : ∀ (x2 : Int32) (x3 : Int32) (x4 : Int32) (M : rm_M), fX3_cellsOf_L33 a1 q7 x2 x3 x4 M = some rho → rm_L G NC ph 5 33 [(0, .ref (ph 12)), (1, .int a1), (2, .int x2), (3, .int x3), (4, .int x4)] [] M := by
  intro x2 x3 x4 M hf
  unfold fX3_cellsOf_L33 at hf
  refine rr_aload_n hG dX3_cellsOf_33 0 rfl rfl ?_
  refine rr_aload_n hG dX3_cellsOf_34 0 rfl rfl ?_
  refine rr_get hG 3 2 dX3_cellsOf_35 (rm_c hN rfl (by decide)) (by decide) rfl tX3_cellsOf_X3 (by decide) kX3_cellsOf_28 rfl rfl ?_
  refine rr_iload hG dX3_cellsOf_38 4 rfl ?_
  refine rr_cVI hG (st := []) (n := 2) (ci := 3) (rf := 1) (rl := 21) [.int (M.1 12 2), .int x4] dX3_cellsOf_40 hf (rm_c hN rfl (by decide)) (by decide) rfl gX3_cellsOf_X3_isCutBehind rfl (by decide +kernel) rfl ⟨by decide, by decide⟩ rfl (Nat.le_of_ble_eq_true rfl) (fun r9 M9 h9 => mX3_isCutBehind hN ph _ _ _ _ h9) (fun r2 M3 h1 hf => ?_)
  refine rr_if_eq hG (tgt := 49) dX3_cellsOf_43 (by decide) hf (fun c4 hf => ?_) (fun c4 hf => ?_)
  · exact rr_sub (lv2 := [(0, .ref (ph 12)), (1, .int a1), (2, .int x2), (3, .int x3), (4, .int x4)]) [0, 1, 2, 3, 4] rfl (wX3_cellsOf_L49 hN _ hG hR _ (hq7) _ _ _ _ hf)
  · refine rr_iinc hG (v := x3 + (1 : Int32)) (lv2 := [(3, .int (x3 + (1 : Int32))), (0, .ref (ph 12)), (1, .int a1), (2, .int x2), (4, .int x4)]) (k := 3) dX3_cellsOf_46 rfl rfl (by decide) rfl ?_
    exact rr_sub (lv2 := [(0, .ref (ph 12)), (1, .int a1), (2, .int x2), (3, .int (x3 + (1 : Int32))), (4, .int x4)]) [1, 2, 3, 0, 4] rfl (wX3_cellsOf_L49 hN _ hG hR _ (hq7) _ _ _ _ hf)
set_option maxHeartbeats 4000000 in
set_option maxRecDepth 100000 in
theorem wX3_cellsOf_L7 {G : rm_G} {NC : Nat} (hN : 79 ≤ NC) {ph : Nat → Nat} {rho : Int32 × rm_M} (a1 : Int32) (hG : rm_k G NC ph cX3_cellsOf RX3 wsX3_cellsOf 5 2 43) (hR : rm_rI G NC ph .int rho)    : ∀ (n : Nat) (x2 : Int32) (x3 : Int32) (x4 : Int32) (M : rm_M), fX3_cellsOf_L7 a1 n x2 x3 x4 M = some rho → rm_L G NC ph 5 7 [(0, .ref (ph 12)), (1, .int a1), (2, .int x2), (3, .int x3), (4, .int x4)] [] M := by
  intro n
  induction n with
  | zero => intro x2 x3 x4 M hf; rw [fX3_cellsOf_L7] at hf; cases hf
  | succ n ih =>
    intro x2 x3 x4 M hf
    rw [fX3_cellsOf_L7] at hf
    refine rr_iload hG dX3_cellsOf_7 4 rfl ?_
    refine rr_aload_n hG dX3_cellsOf_9 0 rfl rfl ?_
    refine rr_get hG 3 1 dX3_cellsOf_10 (rm_c hN rfl (by decide)) (by decide) rfl tX3_cellsOf_X3 (by decide) kX3_cellsOf_15 rfl rfl ?_
    refine rr_icmp_ge hG (tgt := 55) dX3_cellsOf_13 (by decide) hf (fun c5 hf => ?_) (fun c5 hf => ?_)
    · refine rr_iload_n hG dX3_cellsOf_55 2 rfl rfl ?_
      exact rr_iret hG hR dX3_cellsOf_56 hf
    · refine rr_iload_n hG dX3_cellsOf_16 3 rfl rfl ?_
      refine rr_iload_n hG dX3_cellsOf_17 1 rfl rfl ?_
      refine rr_icmp_ne hG (tgt := 33) dX3_cellsOf_18 (by decide) hf (fun c6 hf => ?_) (fun c6 hf => ?_)
      · exact rr_sub (lv2 := [(0, .ref (ph 12)), (1, .int a1), (2, .int x2), (3, .int x3), (4, .int x4)]) [0, 1, 2, 3, 4] rfl (wX3_cellsOf_L33 hN _ hG hR _ (ih) _ _ _ _ hf)
      · refine rr_iload_n hG dX3_cellsOf_21 2 rfl rfl ?_
        refine rr_iconst hG (v := 1) dX3_cellsOf_22 (by decide) ?_
        refine rr_aload_n hG dX3_cellsOf_23 0 rfl rfl ?_
        refine rr_get hG 3 0 (v := .ref (ph 13)) dX3_cellsOf_24 (rm_c hN rfl (by decide)) (by decide) rfl tX3_cellsOf_X3 (by decide) kX3_cellsOf_9 rfl rfl ?_
        refine rr_iload hG dX3_cellsOf_27 4 rfl ?_
        refine rr_iald hG dX3_cellsOf_29 (rm_c hN rfl (by decide)) hf (fun b7 hf => ?_)
        refine rr_ishl hG dX3_cellsOf_30 ?_
        refine rr_ior hG dX3_cellsOf_31 ?_
        refine rr_bindI hf (fun v8 ev8 hf => ?_)
        refine rr_istore_n hG (lv2 := [(2, .int v8), (0, .ref (ph 12)), (1, .int a1), (3, .int x3), (4, .int x4)]) dX3_cellsOf_32 rfl (by decide) rfl ?_
        exact rr_sub (lv2 := [(0, .ref (ph 12)), (1, .int a1), (2, .int v8), (3, .int x3), (4, .int x4)]) [1, 2, 0, 3, 4] rfl (wX3_cellsOf_L33 hN _ hG hR _ (ih) _ _ _ _ hf)
set_option maxHeartbeats 4000000 in
set_option maxRecDepth 100000 in
theorem mX3_cellsOf {NC : Nat} (hN : 79 ≤ NC) (ph : Nat → Nat) (a1 : Int32) (M : rm_M) (rho : Int32 × rm_M)  (hf : fX3_cellsOf a1 M = some rho) : rm_CI yX3_cellsOf wsX3_cellsOf 2 43 [.ref (ph 12), .int a1] NC ph M rho := by
  refine rm_metI (cc := cX3_cellsOf) (maxL := 5) (by decide +kernel) rfl rfl (Nat.le_of_ble_eq_true rfl) rfl (fun G hG hR => ?_)
  unfold fX3_cellsOf at hf
  refine rr_iconst hG (v := 0) dX3_cellsOf_0 (by decide) ?_
  refine rr_istore_n hG (lv2 := [(2, .int (0 : Int32)), (0, .ref (ph 12)), (1, .int a1)]) dX3_cellsOf_1 rfl (by decide) rfl ?_
  refine rr_iconst hG (v := 0) dX3_cellsOf_2 (by decide) ?_
  refine rr_istore_n hG (lv2 := [(3, .int (0 : Int32)), (2, .int (0 : Int32)), (0, .ref (ph 12)), (1, .int a1)]) dX3_cellsOf_3 rfl (by decide) rfl ?_
  refine rr_iconst hG (v := 0) dX3_cellsOf_4 (by decide) ?_
  refine rr_istore hG (lv2 := [(4, .int (0 : Int32)), (3, .int (0 : Int32)), (2, .int (0 : Int32)), (0, .ref (ph 12)), (1, .int a1)]) dX3_cellsOf_5 (by decide) rfl ?_
  exact rr_sub (lv2 := [(0, .ref (ph 12)), (1, .int a1), (2, .int (0 : Int32)), (3, .int (0 : Int32)), (4, .int (0 : Int32))]) [3, 4, 2, 1, 0] rfl (wX3_cellsOf_L7 hN _ hG hR _ _ _ _ _ hf)
/-! X4.register -/
theorem tX4_register_X4 : ∀ w ∈ u_ws RX4 TX4 10, w ∈ wsX4_register := by decide +kernel
theorem kX4_register_25 : Cond.fieldLink RX4 25 "RingPages$State" "cell" "I" ∈ wsX4_register := by decide +kernel
theorem kX4_register_43 : Cond.fieldLink RX4 43 "RingPages$State" "home" "I" ∈ wsX4_register := by decide +kernel
theorem kX4_register_46 : Cond.fieldLink RX4 46 "RingPages$State" "moves" "I" ∈ wsX4_register := by decide +kernel
theorem kX4_register_49 : Cond.fieldLink RX4 49 "RingPages$State" "ticks" "I" ∈ wsX4_register := by decide +kernel
set_option maxHeartbeats 4000000 in
set_option maxRecDepth 100000 in
theorem mX4_register {NC : Nat} (hN : 79 ≤ NC) (ph : Nat → Nat) (a0 : Nat) (M : rm_M) (rho : rm_M) (ka0 : rm_kq NC a0 (4, 0)) (hf : fX4_register a0 M = some rho) : rm_CV yX4_register wsX4_register 0 0 [.ref (ph a0)] NC ph M rho := by
  refine rm_metV (cc := cX4_register) (maxL := 1) (by decide +kernel) rfl rfl (Nat.le_of_ble_eq_true rfl) rfl (fun G hG hR => ?_)
  unfold fX4_register at hf
  refine rr_aload_n hG dX4_register_0 0 rfl rfl ?_
  refine rr_aload_n hG dX4_register_1 0 rfl rfl ?_
  refine rr_get hG 4 4 dX4_register_2 ka0 (by decide) rfl tX4_register_X4 (by decide) kX4_register_25 rfl rfl ?_
  refine rr_putI hG 4 5 dX4_register_5 ka0 (by decide) rfl tX4_register_X4 tyX4_ok nmX4 (by decide) kX4_register_43 rfl rfl rfl rfl rfl (Nat.le_of_ble_eq_true rfl) rfl ?_
  refine rr_bindM hf (fun M1 eM1 hf => ?_)
  refine rr_aload_n hG dX4_register_8 0 rfl rfl ?_
  refine rr_iconst hG (v := 0) dX4_register_9 (by decide) ?_
  refine rr_putI hG 4 6 dX4_register_10 ka0 (by decide) rfl tX4_register_X4 tyX4_ok nmX4 (by decide) kX4_register_46 rfl rfl rfl rfl rfl (Nat.le_of_ble_eq_true rfl) rfl ?_
  refine rr_bindM hf (fun M2 eM2 hf => ?_)
  refine rr_aload_n hG dX4_register_13 0 rfl rfl ?_
  refine rr_iconst hG (v := 0) dX4_register_14 (by decide) ?_
  refine rr_putI hG 4 7 dX4_register_15 ka0 (by decide) rfl tX4_register_X4 tyX4_ok nmX4 (by decide) kX4_register_49 rfl rfl rfl rfl rfl (Nat.le_of_ble_eq_true rfl) rfl ?_
  refine rr_bindM hf (fun M3 eM3 hf => ?_)
  exact rr_vret hG hR dX4_register_18 hf
/-! X4.begin -/
theorem tX4_begin_X4 : ∀ w ∈ u_ws RX4 TX4 10, w ∈ wsX4_begin := by decide +kernel
theorem kX4_begin_18 : Cond.fieldLink RX4 18 "RingPages$State" "kind" "I" ∈ wsX4_begin := by decide +kernel
theorem kX4_begin_22 : Cond.fieldLink RX4 22 "RingPages$State" "value" "I" ∈ wsX4_begin := by decide +kernel
theorem kX4_begin_25 : Cond.fieldLink RX4 25 "RingPages$State" "cell" "I" ∈ wsX4_begin := by decide +kernel
theorem kX4_begin_28 : Cond.fieldLink RX4 28 "RingPages$State" "updates" "I" ∈ wsX4_begin := by decide +kernel
theorem kX4_begin_31 : Cond.fieldLink RX4 31 "RingPages$State" "paged" "I" ∈ wsX4_begin := by decide +kernel
theorem kX4_begin_9 : Cond.fieldLink RX4 9 "RingPages$State" "stay" "[I" ∈ wsX4_begin := by decide +kernel
theorem kX4_begin_15 : Cond.fieldLink RX4 15 "RingPages$State" "area" "[I" ∈ wsX4_begin := by decide +kernel
set_option maxHeartbeats 4000000 in
set_option maxRecDepth 100000 in
theorem wX4_begin_L2 {G : rm_G} {NC : Nat} (hN : 79 ≤ NC) {ph : Nat → Nat} {rho : rm_M} (a0 : Nat) (hG : rm_k G NC ph cX4_begin RX4 wsX4_begin 2 1 20) (hR : rm_rV G NC ph rho) (ka0 : rm_kq NC a0 (4, 0))   : ∀ (n : Nat) (x1 : Int32) (M : rm_M), fX4_begin_L2 a0 n x1 M = some rho → rm_L G NC ph 2 2 [(0, .ref (ph a0)), (1, .int x1)] [] M := by
  intro n
  induction n with
  | zero => intro x1 M hf; rw [fX4_begin_L2] at hf; cases hf
  | succ n ih =>
    intro x1 M hf
    rw [fX4_begin_L2] at hf
    refine rr_iload_n hG dX4_begin_2 1 rfl rfl ?_
    refine rr_bipush hG (v := 6) dX4_begin_3 (by decide) ?_
    refine rr_icmp_ge hG (tgt := 28) dX4_begin_5 (by decide) hf (fun c1 hf => ?_) (fun c1 hf => ?_)
    · refine rr_aload_n hG dX4_begin_28 0 rfl rfl ?_
      refine rr_iconst hG (v := 0) dX4_begin_29 (by decide) ?_
      refine rr_putI hG 4 2 dX4_begin_30 ka0 (by decide) rfl tX4_begin_X4 tyX4_ok nmX4 (by decide) kX4_begin_18 rfl rfl rfl rfl rfl (Nat.le_of_ble_eq_true rfl) rfl ?_
      refine rr_bindM hf (fun M2 eM2 hf => ?_)
      refine rr_aload_n hG dX4_begin_33 0 rfl rfl ?_
      refine rr_iconst hG (v := 0) dX4_begin_34 (by decide) ?_
      refine rr_putI hG 4 3 dX4_begin_35 ka0 (by decide) rfl tX4_begin_X4 tyX4_ok nmX4 (by decide) kX4_begin_22 rfl rfl rfl rfl rfl (Nat.le_of_ble_eq_true rfl) rfl ?_
      refine rr_bindM hf (fun M3 eM3 hf => ?_)
      refine rr_aload_n hG dX4_begin_38 0 rfl rfl ?_
      refine rr_iconst hG (v := 0) dX4_begin_39 (by decide) ?_
      refine rr_putI hG 4 4 dX4_begin_40 ka0 (by decide) rfl tX4_begin_X4 tyX4_ok nmX4 (by decide) kX4_begin_25 rfl rfl rfl rfl rfl (Nat.le_of_ble_eq_true rfl) rfl ?_
      refine rr_bindM hf (fun M4 eM4 hf => ?_)
      refine rr_aload_n hG dX4_begin_43 0 rfl rfl ?_
      refine rr_iconst hG (v := 0) dX4_begin_44 (by decide) ?_
      refine rr_putI hG 4 8 dX4_begin_45 ka0 (by decide) rfl tX4_begin_X4 tyX4_ok nmX4 (by decide) kX4_begin_28 rfl rfl rfl rfl rfl (Nat.le_of_ble_eq_true rfl) rfl ?_
      refine rr_bindM hf (fun M5 eM5 hf => ?_)
      refine rr_aload_n hG dX4_begin_48 0 rfl rfl ?_
      refine rr_iconst hG (v := 0) dX4_begin_49 (by decide) ?_
      refine rr_putI hG 4 9 dX4_begin_50 ka0 (by decide) rfl tX4_begin_X4 tyX4_ok nmX4 (by decide) kX4_begin_31 rfl rfl rfl rfl rfl (Nat.le_of_ble_eq_true rfl) rfl ?_
      refine rr_bindM hf (fun M6 eM6 hf => ?_)
      refine rr_aload_n hG dX4_begin_53 0 rfl rfl ?_
      refine rr_cVV hG (st := []) (n := 0) (ci := 4) (rf := 0) (rl := 0) [] dX4_begin_54 hf ka0 (by decide) rfl gX4_begin_X4_register rfl (by decide +kernel) rfl ⟨by decide, by decide⟩ rfl (Nat.le_of_ble_eq_true rfl) (fun M9 h9 => mX4_register hN ph _ _ _ ka0 h9) (fun M8 h7 hf => ?_)
      exact rr_vret hG hR dX4_begin_57 hf
    · refine rr_aload_n hG dX4_begin_8 0 rfl rfl ?_
      refine rr_get hG 4 0 (v := .ref (ph (a0 + 1))) dX4_begin_9 ka0 (by decide) rfl tX4_begin_X4 (by decide) kX4_begin_9 rfl rfl ?_
      refine rr_iload_n hG dX4_begin_12 1 rfl rfl ?_
      refine rr_iconst hG (v := 1) dX4_begin_13 (by decide) ?_
      refine rr_iast hG dX4_begin_14 (rm_kX4_1 hN ka0) hf (fun b9 hf => ?_)
      refine rr_bindM hf (fun M10 eM10 hf => ?_)
      refine rr_aload_n hG dX4_begin_15 0 rfl rfl ?_
      refine rr_get hG 4 1 (v := .ref (ph (a0 + 2))) dX4_begin_16 ka0 (by decide) rfl tX4_begin_X4 (by decide) kX4_begin_15 rfl rfl ?_
      refine rr_iload_n hG dX4_begin_19 1 rfl rfl ?_
      refine rr_iconst hG (v := 0) dX4_begin_20 (by decide) ?_
      refine rr_iast hG dX4_begin_21 (rm_kX4_2 hN ka0) hf (fun b11 hf => ?_)
      refine rr_bindM hf (fun M12 eM12 hf => ?_)
      refine rr_iinc hG (v := x1 + (1 : Int32)) (lv2 := [(1, .int (x1 + (1 : Int32))), (0, .ref (ph a0))]) (k := 1) dX4_begin_22 rfl rfl (by decide) rfl ?_
      refine rr_goto hG (tgt := 2) dX4_begin_25 (by decide) ?_
      exact rr_sub (lv2 := [(0, .ref (ph a0)), (1, .int (x1 + (1 : Int32)))]) [1, 0] rfl (ih _ _ hf)
set_option maxHeartbeats 4000000 in
set_option maxRecDepth 100000 in
theorem mX4_begin {NC : Nat} (hN : 79 ≤ NC) (ph : Nat → Nat) (a0 : Nat) (M : rm_M) (rho : rm_M) (ka0 : rm_kq NC a0 (4, 0)) (hf : fX4_begin a0 M = some rho) : rm_CV yX4_begin wsX4_begin 1 20 [.ref (ph a0)] NC ph M rho := by
  refine rm_metV (cc := cX4_begin) (maxL := 2) (by decide +kernel) rfl rfl (Nat.le_of_ble_eq_true rfl) rfl (fun G hG hR => ?_)
  unfold fX4_begin at hf
  refine rr_iconst hG (v := 0) dX4_begin_0 (by decide) ?_
  refine rr_istore_n hG (lv2 := [(1, .int (0 : Int32)), (0, .ref (ph a0))]) dX4_begin_1 rfl (by decide) rfl ?_
  exact rr_sub (lv2 := [(0, .ref (ph a0)), (1, .int (0 : Int32))]) [1, 0] rfl (wX4_begin_L2 hN _ hG hR ka0 _ _ _ hf)
/-! X4.canGo -/
theorem tX4_canGo_X1 : ∀ w ∈ u_ws RX1 TX1 12, w ∈ wsX4_canGo := by decide +kernel
theorem tX4_canGo_X4 : ∀ w ∈ u_ws RX4 TX4 10, w ∈ wsX4_canGo := by decide +kernel
theorem kX4_canGo_25 : Cond.fieldLink RX4 25 "RingPages$State" "cell" "I" ∈ wsX4_canGo := by decide +kernel
theorem kX4_canGo_52 : Cond.fieldLink RX4 52 "RingPages$Net" "near" "[I" ∈ wsX4_canGo := by decide +kernel
theorem kX4_canGo_iniX7 : Cond.initialized RX7 ∈ wsX4_canGo := by decide +kernel
theorem kX4_canGo_stX7_holds : Cond.static yX7_holds ∈ wsX4_canGo := by decide +kernel
theorem kX4_canGo_9 : Cond.fieldLink RX4 9 "RingPages$State" "stay" "[I" ∈ wsX4_canGo := by decide +kernel
set_option maxHeartbeats 4000000 in
set_option maxRecDepth 100000 in
theorem mX4_canGo {NC : Nat} (hN : 79 ≤ NC) (ph : Nat → Nat) (a0 : Nat) (a1 : Nat) (a2 : Int32) (M : rm_M) (rho : Int32 × rm_M) (ka0 : rm_kq NC a0 (4, 0)) (ka1 : rm_kq NC a1 (1, 0)) (hf : fX4_canGo a0 a1 a2 M = some rho) : rm_CI yX4_canGo wsX4_canGo 1 21 [.ref (ph a0), .ref (ph a1), .int a2] NC ph M rho := by
  refine rm_metI (cc := cX4_canGo) (maxL := 3) (by decide +kernel) rfl rfl (Nat.le_of_ble_eq_true rfl) rfl (fun G hG hR => ?_)
  unfold fX4_canGo at hf
  refine rr_iload_n hG dX4_canGo_0 2 rfl rfl ?_
  refine rr_aload_n hG dX4_canGo_1 0 rfl rfl ?_
  refine rr_get hG 4 4 dX4_canGo_2 ka0 (by decide) rfl tX4_canGo_X4 (by decide) kX4_canGo_25 rfl rfl ?_
  refine rr_icmp_ne hG (tgt := 25) dX4_canGo_5 (by decide) hf (fun c1 hf => ?_) (fun c1 hf => ?_)
  · refine rr_aload_n hG dX4_canGo_25 1 rfl rfl ?_
    refine rr_get hG 1 8 (v := .ref (ph (a1 + 15))) dX4_canGo_26 ka1 (by decide) rfl tX4_canGo_X1 (by decide) kX4_canGo_52 rfl rfl ?_
    refine rr_aload_n hG dX4_canGo_29 0 rfl rfl ?_
    refine rr_get hG 4 4 dX4_canGo_30 ka0 (by decide) rfl tX4_canGo_X4 (by decide) kX4_canGo_25 rfl rfl ?_
    refine rr_iald hG dX4_canGo_33 (rm_kX1_15 hN ka1) hf (fun b2 hf => ?_)
    refine rr_iload_n hG dX4_canGo_34 2 rfl rfl ?_
    refine rr_cNI hG (st := []) (n := 2) (rf := 0) (rl := 0) [.int (M.1 (a1 + 15) (M.1 a0 4).toNatClampNeg), .int a2] dX4_canGo_35 hf gX4_canGo_X7_holds_n57 (by decide +kernel) kX4_canGo_iniX7 kX4_canGo_stX7_holds rfl (by decide +kernel) rfl ⟨by decide, by decide⟩ rfl (Nat.le_of_ble_eq_true rfl) (fun r9 M9 h9 => mX7_holds hN ph _ _ _ _ h9) (fun r4 M5 h3 hf => ?_)
    exact rr_zret hG hR dX4_canGo_38 hf
  · refine rr_aload_n hG dX4_canGo_8 0 rfl rfl ?_
    refine rr_get hG 4 0 (v := .ref (ph (a0 + 1))) dX4_canGo_9 ka0 (by decide) rfl tX4_canGo_X4 (by decide) kX4_canGo_9 rfl rfl ?_
    refine rr_iload_n hG dX4_canGo_12 2 rfl rfl ?_
    refine rr_iald hG dX4_canGo_13 (rm_kX4_1 hN ka0) hf (fun b6 hf => ?_)
    refine rr_if_le hG (tgt := 21) dX4_canGo_14 (by decide) hf (fun c7 hf => ?_) (fun c7 hf => ?_)
    · refine rr_iconst hG (v := 0) dX4_canGo_21 (by decide) ?_
      refine rr_goto hG (tgt := 38) dX4_canGo_22 (by decide) ?_
      exact rr_zret hG hR dX4_canGo_38 hf
    · refine rr_iconst hG (v := 1) dX4_canGo_17 (by decide) ?_
      refine rr_goto hG (tgt := 38) dX4_canGo_18 (by decide) ?_
      exact rr_zret hG hR dX4_canGo_38 hf
/-! X4.isOutside -/
theorem tX4_isOutside_X1 : ∀ w ∈ u_ws RX1 TX1 12, w ∈ wsX4_isOutside := by decide +kernel
theorem tX4_isOutside_X4 : ∀ w ∈ u_ws RX4 TX4 10, w ∈ wsX4_isOutside := by decide +kernel
theorem kX4_isOutside_18 : Cond.fieldLink RX4 18 "RingPages$State" "kind" "I" ∈ wsX4_isOutside := by decide +kernel
theorem kX4_isOutside_15 : Cond.fieldLink RX4 15 "RingPages$State" "area" "[I" ∈ wsX4_isOutside := by decide +kernel
theorem kX4_isOutside_43 : Cond.fieldLink RX4 43 "RingPages$State" "home" "I" ∈ wsX4_isOutside := by decide +kernel
theorem kX4_isOutside_69 : Cond.fieldLink RX4 69 "RingPages$Net" "wide" "[[I" ∈ wsX4_isOutside := by decide +kernel
theorem kX4_isOutside_22 : Cond.fieldLink RX4 22 "RingPages$State" "value" "I" ∈ wsX4_isOutside := by decide +kernel
set_option maxHeartbeats 4000000 in
set_option maxRecDepth 100000 in
theorem mX4_isOutside {NC : Nat} (hN : 79 ≤ NC) (ph : Nat → Nat) (a0 : Nat) (a1 : Nat) (a2 : Int32) (M : rm_M) (rho : Int32 × rm_M) (ka0 : rm_kq NC a0 (4, 0)) (ka1 : rm_kq NC a1 (1, 0)) (hf : fX4_isOutside a0 a1 a2 M = some rho) : rm_CI yX4_isOutside wsX4_isOutside 0 0 [.ref (ph a0), .ref (ph a1), .int a2] NC ph M rho := by
  refine rm_metI (cc := cX4_isOutside) (maxL := 3) (by decide +kernel) rfl rfl (Nat.le_of_ble_eq_true rfl) rfl (fun G hG hR => ?_)
  unfold fX4_isOutside at hf
  refine rr_aload_n hG dX4_isOutside_0 0 rfl rfl ?_
  refine rr_get hG 4 2 dX4_isOutside_1 ka0 (by decide) rfl tX4_isOutside_X4 (by decide) kX4_isOutside_18 rfl rfl ?_
  refine rr_bindI hf (fun v1 ev1 hf => ?_)
  by_cases c2 : v1 = 0
  · rw [if_pos c2] at hf
    refine rr_lookup hG (tgt := 32) (off := 28) dX4_isOutside_4 (by decide) (by rw [c2] <;> rfl) (by decide) ?_
    refine rr_aload_n hG dX4_isOutside_32 0 rfl rfl ?_
    refine rr_get hG 4 1 (v := .ref (ph (a0 + 2))) dX4_isOutside_33 ka0 (by decide) rfl tX4_isOutside_X4 (by decide) kX4_isOutside_15 rfl rfl ?_
    refine rr_iload_n hG dX4_isOutside_36 2 rfl rfl ?_
    refine rr_iald hG dX4_isOutside_37 (rm_kX4_2 hN ka0) hf (fun b3 hf => ?_)
    refine rr_aload_n hG dX4_isOutside_38 0 rfl rfl ?_
    refine rr_get hG 4 1 (v := .ref (ph (a0 + 2))) dX4_isOutside_39 ka0 (by decide) rfl tX4_isOutside_X4 (by decide) kX4_isOutside_15 rfl rfl ?_
    refine rr_aload_n hG dX4_isOutside_42 0 rfl rfl ?_
    refine rr_get hG 4 5 dX4_isOutside_43 ka0 (by decide) rfl tX4_isOutside_X4 (by decide) kX4_isOutside_43 rfl rfl ?_
    refine rr_iald hG dX4_isOutside_46 (rm_kX4_2 hN ka0) hf (fun b4 hf => ?_)
    refine rr_icmp_eq hG (tgt := 54) dX4_isOutside_47 (by decide) hf (fun c5 hf => ?_) (fun c5 hf => ?_)
    · refine rr_iconst hG (v := 0) dX4_isOutside_54 (by decide) ?_
      exact rr_zret hG hR dX4_isOutside_55 hf
    · refine rr_iconst hG (v := 1) dX4_isOutside_50 (by decide) ?_
      refine rr_goto hG (tgt := 55) dX4_isOutside_51 (by decide) ?_
      exact rr_zret hG hR dX4_isOutside_55 hf
  · rw [if_neg c2] at hf
    by_cases c6 : v1 = 3
    · rw [if_pos c6] at hf
      refine rr_lookup hG (tgt := 56) (off := 52) dX4_isOutside_4 (by decide) (by rw [c6] <;> rfl) (by decide) ?_
      refine rr_aload_n hG dX4_isOutside_56 1 rfl rfl ?_
      refine rr_get hG 1 7 (v := .ref (ph (a1 + 8))) dX4_isOutside_57 ka1 (by decide) rfl tX4_isOutside_X1 (by decide) kX4_isOutside_69 rfl rfl ?_
      refine rr_aload_n hG dX4_isOutside_60 0 rfl rfl ?_
      refine rr_get hG 4 5 dX4_isOutside_61 ka0 (by decide) rfl tX4_isOutside_X4 (by decide) kX4_isOutside_43 rfl rfl ?_
      refine rr_aldR hG dX4_isOutside_64 (rm_kX1_8 hN ka1) hf (fun b7 hf => ?_)
      refine rr_iload_n hG dX4_isOutside_65 2 rfl rfl ?_
      refine rr_iald hG dX4_isOutside_66 (rm_kR hN (rm_kX1_8 hN ka1) b7) hf (fun b8 hf => ?_)
      refine rr_aload_n hG dX4_isOutside_67 0 rfl rfl ?_
      refine rr_get hG 4 3 dX4_isOutside_68 ka0 (by decide) rfl tX4_isOutside_X4 (by decide) kX4_isOutside_22 rfl rfl ?_
      refine rr_icmp_lt hG (tgt := 78) dX4_isOutside_71 (by decide) hf (fun c9 hf => ?_) (fun c9 hf => ?_)
      · refine rr_iconst hG (v := 0) dX4_isOutside_78 (by decide) ?_
        exact rr_zret hG hR dX4_isOutside_79 hf
      · refine rr_iconst hG (v := 1) dX4_isOutside_74 (by decide) ?_
        refine rr_goto hG (tgt := 79) dX4_isOutside_75 (by decide) ?_
        exact rr_zret hG hR dX4_isOutside_79 hf
    · rw [if_neg c6] at hf
      refine rr_lookup hG (tgt := 80) (off := 76) dX4_isOutside_4 (by decide) (by show Op.lookupswitch.offset (_ :: _) _ _ = _; rw [lv_osw c2 (by decide), lv_osw c6 (by decide)] <;> rfl) (by decide) ?_
      refine rr_iconst hG (v := 0) dX4_isOutside_80 (by decide) ?_
      exact rr_zret hG hR dX4_isOutside_81 hf
/-! X4.isDue -/
theorem tX4_isDue_X4 : ∀ w ∈ u_ws RX4 TX4 10, w ∈ wsX4_isDue := by decide +kernel
theorem kX4_isDue_18 : Cond.fieldLink RX4 18 "RingPages$State" "kind" "I" ∈ wsX4_isDue := by decide +kernel
theorem kX4_isDue_46 : Cond.fieldLink RX4 46 "RingPages$State" "moves" "I" ∈ wsX4_isDue := by decide +kernel
theorem kX4_isDue_22 : Cond.fieldLink RX4 22 "RingPages$State" "value" "I" ∈ wsX4_isDue := by decide +kernel
theorem kX4_isDue_49 : Cond.fieldLink RX4 49 "RingPages$State" "ticks" "I" ∈ wsX4_isDue := by decide +kernel
theorem kX4_isDue_25 : Cond.fieldLink RX4 25 "RingPages$State" "cell" "I" ∈ wsX4_isDue := by decide +kernel
set_option maxHeartbeats 4000000 in
set_option maxRecDepth 100000 in
theorem mX4_isDue {NC : Nat} (hN : 79 ≤ NC) (ph : Nat → Nat) (a0 : Nat) (a1 : Nat) (M : rm_M) (rho : Int32 × rm_M) (ka0 : rm_kq NC a0 (4, 0)) (ka1 : rm_kq NC a1 (1, 0)) (hf : fX4_isDue a0 a1 M = some rho) : rm_CI yX4_isDue wsX4_isDue 1 22 [.ref (ph a0), .ref (ph a1)] NC ph M rho := by
  refine rm_metI (cc := cX4_isDue) (maxL := 2) (by decide +kernel) rfl rfl (Nat.le_of_ble_eq_true rfl) rfl (fun G hG hR => ?_)
  unfold fX4_isDue at hf
  refine rr_aload_n hG dX4_isDue_0 0 rfl rfl ?_
  refine rr_get hG 4 2 dX4_isDue_1 ka0 (by decide) rfl tX4_isDue_X4 (by decide) kX4_isDue_18 rfl rfl ?_
  refine rr_bindI hf (fun v1 ev1 hf => ?_)
  by_cases c2 : v1 = 1
  · rw [if_pos c2] at hf
    refine rr_lookup hG (tgt := 32) (off := 28) dX4_isDue_4 (by decide) (by rw [c2] <;> rfl) (by decide) ?_
    refine rr_aload_n hG dX4_isDue_32 0 rfl rfl ?_
    refine rr_get hG 4 6 dX4_isDue_33 ka0 (by decide) rfl tX4_isDue_X4 (by decide) kX4_isDue_46 rfl rfl ?_
    refine rr_aload_n hG dX4_isDue_36 0 rfl rfl ?_
    refine rr_get hG 4 3 dX4_isDue_37 ka0 (by decide) rfl tX4_isDue_X4 (by decide) kX4_isDue_22 rfl rfl ?_
    refine rr_icmp_lt hG (tgt := 47) dX4_isDue_40 (by decide) hf (fun c3 hf => ?_) (fun c3 hf => ?_)
    · refine rr_iconst hG (v := 0) dX4_isDue_47 (by decide) ?_
      exact rr_zret hG hR dX4_isDue_48 hf
    · refine rr_iconst hG (v := 1) dX4_isDue_43 (by decide) ?_
      refine rr_goto hG (tgt := 48) dX4_isDue_44 (by decide) ?_
      exact rr_zret hG hR dX4_isDue_48 hf
  · rw [if_neg c2] at hf
    by_cases c4 : v1 = 2
    · rw [if_pos c4] at hf
      refine rr_lookup hG (tgt := 49) (off := 45) dX4_isDue_4 (by decide) (by rw [c4] <;> rfl) (by decide) ?_
      refine rr_aload_n hG dX4_isDue_49 0 rfl rfl ?_
      refine rr_get hG 4 7 dX4_isDue_50 ka0 (by decide) rfl tX4_isDue_X4 (by decide) kX4_isDue_49 rfl rfl ?_
      refine rr_aload_n hG dX4_isDue_53 0 rfl rfl ?_
      refine rr_get hG 4 3 dX4_isDue_54 ka0 (by decide) rfl tX4_isDue_X4 (by decide) kX4_isDue_22 rfl rfl ?_
      refine rr_icmp_lt hG (tgt := 64) dX4_isDue_57 (by decide) hf (fun c5 hf => ?_) (fun c5 hf => ?_)
      · refine rr_iconst hG (v := 0) dX4_isDue_64 (by decide) ?_
        exact rr_zret hG hR dX4_isDue_65 hf
      · refine rr_iconst hG (v := 1) dX4_isDue_60 (by decide) ?_
        refine rr_goto hG (tgt := 65) dX4_isDue_61 (by decide) ?_
        exact rr_zret hG hR dX4_isDue_65 hf
    · rw [if_neg c4] at hf
      refine rr_lookup hG (tgt := 66) (off := 62) dX4_isDue_4 (by decide) (by show Op.lookupswitch.offset (_ :: _) _ _ = _; rw [lv_osw c2 (by decide), lv_osw c4 (by decide)] <;> rfl) (by decide) ?_
      refine rr_aload_n hG dX4_isDue_66 0 rfl rfl ?_
      refine rr_aload_n hG dX4_isDue_67 1 rfl rfl ?_
      refine rr_aload_n hG dX4_isDue_68 0 rfl rfl ?_
      refine rr_get hG 4 4 dX4_isDue_69 ka0 (by decide) rfl tX4_isDue_X4 (by decide) kX4_isDue_25 rfl rfl ?_
      refine rr_cVI hG (st := []) (n := 2) (ci := 4) (rf := 0) (rl := 0) [.ref (ph a1), .int (M.1 a0 4)] dX4_isDue_72 hf ka0 (by decide) rfl gX4_isDue_X4_isOutside rfl (by decide +kernel) rfl ⟨by decide, by decide⟩ rfl (Nat.le_of_ble_eq_true rfl) (fun r9 M9 h9 => mX4_isOutside hN ph _ _ _ _ _ ka0 ka1 h9) (fun r7 M8 h6 hf => ?_)
      exact rr_zret hG hR dX4_isDue_75 hf
