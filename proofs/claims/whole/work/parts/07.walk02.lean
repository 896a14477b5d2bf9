/-! X1.lead -/
theorem tX1_lead_X1 : ∀ w ∈ u_ws RX1 TX1 12, w ∈ wsX1_lead := by decide +kernel
theorem kX1_lead_11 : Cond.fieldLink RX1 11 "RingPages$Net" "weight" "[[I" ∈ wsX1_lead := by decide +kernel
theorem kX1_lead_16 : Cond.fieldLink RX1 16 "RingPages$Net" "wide" "[[I" ∈ wsX1_lead := by decide +kernel
theorem kX1_lead_19 : Cond.fieldLink RX1 19 "RingPages$Net" "near" "[I" ∈ wsX1_lead := by decide +kernel
theorem kX1_lead_23 : Cond.fieldLink RX1 23 "RingPages$Net" "out" "[I" ∈ wsX1_lead := by decide +kernel
set_option maxHeartbeats 4000000 in
set_option maxRecDepth 100000 in
theorem mX1_lead {NC : Nat} (hN : 79 ≤ NC) (ph : Nat → Nat) (a0 : Nat) (a1 : Int32) (a2 : Int32) (a3 : Int32) (M : rm_M) (rho : rm_M) (ka0 : rm_kq NC a0 (1, 0)) (hf : fX1_lead a0 a1 a2 a3 M = some rho) : rm_CV yX1_lead wsX1_lead 0 0 [.ref (ph a0), .int a1, .int a2, .int a3] NC ph M rho := by
  refine rm_metV (cc := cX1_lead) (maxL := 4) (by decide +kernel) rfl rfl (Nat.le_of_ble_eq_true rfl) rfl (fun G hG hR => ?_)
  unfold fX1_lead at hf
  refine rr_aload_n hG dX1_lead_0 0 rfl rfl ?_
  refine rr_get hG 1 6 (v := .ref (ph (a0 + 1))) dX1_lead_1 ka0 (by decide) rfl tX1_lead_X1 (by decide) kX1_lead_11 rfl rfl ?_
  refine rr_iload_n hG dX1_lead_4 1 rfl rfl ?_
  refine rr_aldR hG dX1_lead_5 (rm_kX1_1 hN ka0) hf (fun b1 hf => ?_)
  refine rr_iload_n hG dX1_lead_6 2 rfl rfl ?_
  refine rr_iload_n hG dX1_lead_7 3 rfl rfl ?_
  refine rr_iast hG dX1_lead_8 (rm_kR hN (rm_kX1_1 hN ka0) b1) hf (fun b2 hf => ?_)
  refine rr_bindM hf (fun M3 eM3 hf => ?_)
  refine rr_aload_n hG dX1_lead_9 0 rfl rfl ?_
  refine rr_get hG 1 7 (v := .ref (ph (a0 + 8))) dX1_lead_10 ka0 (by decide) rfl tX1_lead_X1 (by decide) kX1_lead_16 rfl rfl ?_
  refine rr_iload_n hG dX1_lead_13 1 rfl rfl ?_
  refine rr_aldR hG dX1_lead_14 (rm_kX1_8 hN ka0) hf (fun b4 hf => ?_)
  refine rr_iload_n hG dX1_lead_15 2 rfl rfl ?_
  refine rr_iconst hG (v := 1) dX1_lead_16 (by decide) ?_
  refine rr_iast hG dX1_lead_17 (rm_kR hN (rm_kX1_8 hN ka0) b4) hf (fun b5 hf => ?_)
  refine rr_bindM hf (fun M6 eM6 hf => ?_)
  refine rr_aload_n hG dX1_lead_18 0 rfl rfl ?_
  refine rr_get hG 1 8 (v := .ref (ph (a0 + 15))) dX1_lead_19 ka0 (by decide) rfl tX1_lead_X1 (by decide) kX1_lead_19 rfl rfl ?_
  refine rr_iload_n hG dX1_lead_22 1 rfl rfl ?_
  refine rr_dup2 hG dX1_lead_23 rfl rfl ?_
  refine rr_iald hG dX1_lead_24 (rm_kX1_15 hN ka0) hf (fun b7 hf => ?_)
  refine rr_iconst hG (v := 1) dX1_lead_25 (by decide) ?_
  refine rr_iload_n hG dX1_lead_26 2 rfl rfl ?_
  refine rr_ishl hG dX1_lead_27 ?_
  refine rr_ior hG dX1_lead_28 ?_
  refine rr_iast hG dX1_lead_29 (rm_kX1_15 hN ka0) hf (fun b8 hf => ?_)
  refine rr_bindM hf (fun M9 eM9 hf => ?_)
  refine rr_aload_n hG dX1_lead_30 0 rfl rfl ?_
  refine rr_get hG 1 9 (v := .ref (ph (a0 + 16))) dX1_lead_31 ka0 (by decide) rfl tX1_lead_X1 (by decide) kX1_lead_23 rfl rfl ?_
  refine rr_iload_n hG dX1_lead_34 1 rfl rfl ?_
  refine rr_dup2 hG dX1_lead_35 rfl rfl ?_
  refine rr_iald hG dX1_lead_36 (rm_kX1_16 hN ka0) hf (fun b10 hf => ?_)
  refine rr_iload_n hG dX1_lead_37 3 rfl rfl ?_
  refine rr_iadd hG dX1_lead_38 ?_
  refine rr_iast hG dX1_lead_39 (rm_kX1_16 hN ka0) hf (fun b11 hf => ?_)
  refine rr_bindM hf (fun M12 eM12 hf => ?_)
  exact rr_vret hG hR dX1_lead_40 hf
/-! X1.join -/
theorem tX1_join_X1 : ∀ w ∈ u_ws RX1 TX1 12, w ∈ wsX1_join := by decide +kernel
theorem kX1_join_37 : Cond.fieldLink RX1 37 "RingPages$Net" "joins" "I" ∈ wsX1_join := by decide +kernel
set_option maxHeartbeats 4000000 in
set_option maxRecDepth 100000 in
theorem mX1_join {NC : Nat} (hN : 79 ≤ NC) (ph : Nat → Nat) (a0 : Nat) (a1 : Int32) (a2 : Int32) (a3 : Int32) (a4 : Int32) (M : rm_M) (rho : rm_M) (ka0 : rm_kq NC a0 (1, 0)) (hf : fX1_join a0 a1 a2 a3 a4 M = some rho) : rm_CV yX1_join wsX1_join 1 23 [.ref (ph a0), .int a1, .int a2, .int a3, .int a4] NC ph M rho := by
  refine rm_metV (cc := cX1_join) (maxL := 5) (by decide +kernel) rfl rfl (Nat.le_of_ble_eq_true rfl) rfl (fun G hG hR => ?_)
  unfold fX1_join at hf
  refine rr_aload_n hG dX1_join_0 0 rfl rfl ?_
  refine rr_dup hG dX1_join_1 rfl ?_
  refine rr_get hG 1 1 dX1_join_2 ka0 (by decide) rfl tX1_join_X1 (by decide) kX1_join_37 rfl rfl ?_
  refine rr_iconst hG (v := 1) dX1_join_5 (by decide) ?_
  refine rr_iadd hG dX1_join_6 ?_
  refine rr_putI hG 1 1 dX1_join_7 ka0 (by decide) rfl tX1_join_X1 tyX1_ok nmX1 (by decide) kX1_join_37 rfl rfl rfl rfl rfl (Nat.le_of_ble_eq_true rfl) rfl ?_
  refine rr_bindM hf (fun M1 eM1 hf => ?_)
  refine rr_aload_n hG dX1_join_10 0 rfl rfl ?_
  refine rr_iload_n hG dX1_join_11 1 rfl rfl ?_
  refine rr_iload_n hG dX1_join_12 2 rfl rfl ?_
  refine rr_iload_n hG dX1_join_13 3 rfl rfl ?_
  refine rr_cVV hG (st := []) (n := 3) (ci := 1) (rf := 0) (rl := 0) [.int a1, .int a2, .int a3] dX1_join_14 hf ka0 (by decide) rfl gX1_join_X1_lead rfl (by decide +kernel) rfl ⟨by decide, by decide⟩ rfl (Nat.le_of_ble_eq_true rfl) (fun M9 h9 => mX1_lead hN ph _ _ _ _ _ _ ka0 h9) (fun M3 h2 hf => ?_)
  refine rr_aload_n hG dX1_join_17 0 rfl rfl ?_
  refine rr_iload_n hG dX1_join_18 2 rfl rfl ?_
  refine rr_iload_n hG dX1_join_19 1 rfl rfl ?_
  refine rr_iload hG dX1_join_20 4 rfl ?_
  refine rr_cVV hG (st := []) (n := 3) (ci := 1) (rf := 0) (rl := 0) [.int a2, .int a1, .int a4] dX1_join_22 hf ka0 (by decide) rfl gX1_join_X1_lead rfl (by decide +kernel) rfl ⟨by decide, by decide⟩ rfl (Nat.le_of_ble_eq_true rfl) (fun M9 h9 => mX1_lead hN ph _ _ _ _ _ _ ka0 h9) (fun M5 h4 hf => ?_)
  exact rr_vret hG hR dX1_join_25 hf
/-! X1.isWhole -/
theorem tX1_isWhole_X1 : ∀ w ∈ u_ws RX1 TX1 12, w ∈ wsX1_isWhole := by decide +kernel
theorem kX1_isWhole_33 : Cond.fieldLink RX1 33 "RingPages$Net" "cells" "I" ∈ wsX1_isWhole := by decide +kernel
theorem kX1_isWhole_16 : Cond.fieldLink RX1 16 "RingPages$Net" "wide" "[[I" ∈ wsX1_isWhole := by decide +kernel
theorem kX1_isWhole_60 : Cond.methodLink RX1 60 Lib.Math.min.name ∈ wsX1_isWhole := by decide +kernel
theorem kX1_isWhole_stamin : Cond.static Lib.Math.min.name ∈ wsX1_isWhole := by decide +kernel
theorem kX1_isWhole_math : Cond.initialized "java/lang/Math" ∈ wsX1_isWhole := by decide +kernel
theorem kX1_isWhole_codemin : Cond.code Lib.Math.min.name Lib.Math.min.code 2 (some .int) ∈ wsX1_isWhole := by decide +kernel
set_option maxHeartbeats 4000000 in
set_option maxRecDepth 100000 in
theorem wX1_isWhole_L22 {G : rm_G} {NC : Nat} (hN : 79 ≤ NC) {ph : Nat → Nat} {rho : Int32 × rm_M} (a0 : Nat) (hG : rm_k G NC ph cX1_isWhole RX1 wsX1_isWhole 4 1 21) (hR : rm_rI G NC ph .boolean rho) (ka0 : rm_kq NC a0 (1, 0)) (q2 : Int32 → rm_M → Option (Int32 × rm_M)) (q12 : Int32 → Int32 → rm_M → Option (Int32 × rm_M)) (hq2 : ∀ (x1 : Int32) (M : rm_M), q2 x1 M = some rho → rm_L G NC ph 4 2 [(0, .ref (ph a0)), (1, .int x1)] [] M) (hq12 : ∀ (x1 : Int32) (x2 : Int32) (M : rm_M), q12 x1 x2 M = some rho → rm_L G NC ph 4 12 [(0, .ref (ph a0)), (1, .int x1), (2, .int x2)] [] M) : ∀ (n : Nat) (x1 : Int32) (x2 : Int32) (x3 : Int32) (M : rm_M), fX1_isWhole_L22 a0 q2 q12 n x1 x2 x3 M = some rho → rm_L G NC ph 4 22 [(0, .ref (ph a0)), (1, .int x1), (2, .int x2), (3, .int x3)] [] M := by
  intro n
  induction n with
  | zero => intro x1 x2 x3 M hf; rw [fX1_isWhole_L22] at hf; cases hf
  | succ n ih =>
    intro x1 x2 x3 M hf
    rw [fX1_isWhole_L22] at hf
    refine rr_iload_n hG dX1_isWhole_22 3 rfl rfl ?_
    refine rr_aload_n hG dX1_isWhole_23 0 rfl rfl ?_
    refine rr_get hG 1 0 dX1_isWhole_24 ka0 (by decide) rfl tX1_isWhole_X1 (by decide) kX1_isWhole_33 rfl rfl ?_
    refine rr_icmp_ge hG (tgt := 72) dX1_isWhole_27 (by decide) hf (fun c1 hf => ?_) (fun c1 hf => ?_)
    · refine rr_iinc hG (v := x2 + (1 : Int32)) (lv2 := [(2, .int (x2 + (1 : Int32))), (0, .ref (ph a0)), (1, .int x1), (3, .int x3)]) (k := 2) dX1_isWhole_72 rfl rfl (by decide) rfl ?_
      refine rr_goto hG (tgt := 12) dX1_isWhole_75 (by decide) ?_
      exact rr_sub (lv2 := [(0, .ref (ph a0)), (1, .int x1), (2, .int (x2 + (1 : Int32)))]) [1, 2, 0] rfl (hq12 _ _ _ hf)
    · refine rr_aload_n hG dX1_isWhole_30 0 rfl rfl ?_
      refine rr_get hG 1 7 (v := .ref (ph (a0 + 8))) dX1_isWhole_31 ka0 (by decide) rfl tX1_isWhole_X1 (by decide) kX1_isWhole_16 rfl rfl ?_
      refine rr_iload_n hG dX1_isWhole_34 2 rfl rfl ?_
      refine rr_aldR hG dX1_isWhole_35 (rm_kX1_8 hN ka0) hf (fun b2 hf => ?_)
      refine rr_iload_n hG dX1_isWhole_36 3 rfl rfl ?_
      refine rr_aload_n hG dX1_isWhole_37 0 rfl rfl ?_
      refine rr_get hG 1 7 (v := .ref (ph (a0 + 8))) dX1_isWhole_38 ka0 (by decide) rfl tX1_isWhole_X1 (by decide) kX1_isWhole_16 rfl rfl ?_
      refine rr_iload_n hG dX1_isWhole_41 2 rfl rfl ?_
      refine rr_aldR hG dX1_isWhole_42 (rm_kX1_8 hN ka0) hf (fun b3 hf => ?_)
      refine rr_iload_n hG dX1_isWhole_43 3 rfl rfl ?_
      refine rr_iald hG dX1_isWhole_44 (rm_kR hN (rm_kX1_8 hN ka0) b3) hf (fun b4 hf => ?_)
      refine rr_aload_n hG dX1_isWhole_45 0 rfl rfl ?_
      refine rr_get hG 1 7 (v := .ref (ph (a0 + 8))) dX1_isWhole_46 ka0 (by decide) rfl tX1_isWhole_X1 (by decide) kX1_isWhole_16 rfl rfl ?_
      refine rr_iload_n hG dX1_isWhole_49 2 rfl rfl ?_
      refine rr_aldR hG dX1_isWhole_50 (rm_kX1_8 hN ka0) hf (fun b5 hf => ?_)
      refine rr_iload_n hG dX1_isWhole_51 1 rfl rfl ?_
      refine rr_iald hG dX1_isWhole_52 (rm_kR hN (rm_kX1_8 hN ka0) b5) hf (fun b6 hf => ?_)
      refine rr_aload_n hG dX1_isWhole_53 0 rfl rfl ?_
      refine rr_get hG 1 7 (v := .ref (ph (a0 + 8))) dX1_isWhole_54 ka0 (by decide) rfl tX1_isWhole_X1 (by decide) kX1_isWhole_16 rfl rfl ?_
      refine rr_iload_n hG dX1_isWhole_57 1 rfl rfl ?_
      refine rr_aldR hG dX1_isWhole_58 (rm_kX1_8 hN ka0) hf (fun b7 hf => ?_)
      refine rr_iload_n hG dX1_isWhole_59 3 rfl rfl ?_
      refine rr_iald hG dX1_isWhole_60 (rm_kR hN (rm_kX1_8 hN ka0) b7) hf (fun b8 hf => ?_)
      refine rr_iadd hG dX1_isWhole_61 ?_
      refine rr_min hG dX1_isWhole_62 kX1_isWhole_60 kX1_isWhole_stamin kX1_isWhole_math kX1_isWhole_codemin (by decide) (Nat.le_of_ble_eq_true rfl) ?_
      refine rr_iast hG dX1_isWhole_65 (rm_kR hN (rm_kX1_8 hN ka0) b2) hf (fun b9 hf => ?_)
      refine rr_bindM hf (fun M10 eM10 hf => ?_)
      refine rr_iinc hG (v := x3 + (1 : Int32)) (lv2 := [(3, .int (x3 + (1 : Int32))), (0, .ref (ph a0)), (1, .int x1), (2, .int x2)]) (k := 3) dX1_isWhole_66 rfl rfl (by decide) rfl ?_
      refine rr_goto hG (tgt := 22) dX1_isWhole_69 (by decide) ?_
      exact rr_sub (lv2 := [(0, .ref (ph a0)), (1, .int x1), (2, .int x2), (3, .int (x3 + (1 : Int32)))]) [1, 2, 3, 0] rfl (ih _ _ _ _ hf)
set_option maxHeartbeats 4000000 in
set_option maxRecDepth 100000 in
theorem wX1_isWhole_L12 {G : rm_G} {NC : Nat} (hN : 79 ≤ NC) {ph : Nat → Nat} {rho : Int32 × rm_M} (a0 : Nat) (hG : rm_k G NC ph cX1_isWhole RX1 wsX1_isWhole 4 1 21) (hR : rm_rI G NC ph .boolean rho) (ka0 : rm_kq NC a0 (1, 0)) (q2 : Int32 → rm_M → Option (Int32 × rm_M)) (hq2 : ∀ (x1 : Int32) (M : rm_M), q2 x1 M = some rho → rm_L G NC ph 4 2 [(0, .ref (ph a0)), (1, .int x1)] [] M) : ∀ (n : Nat) (x1 : Int32) (x2 : Int32) (M : rm_M), fX1_isWhole_L12 a0 q2 n x1 x2 M = some rho → rm_L G NC ph 4 12 [(0, .ref (ph a0)), (1, .int x1), (2, .int x2)] [] M := by
  intro n
  induction n with
  | zero => intro x1 x2 M hf; rw [fX1_isWhole_L12] at hf; cases hf
  | succ n ih =>
    intro x1 x2 M hf
    rw [fX1_isWhole_L12] at hf
    refine rr_iload_n hG dX1_isWhole_12 2 rfl rfl ?_
    refine rr_aload_n hG dX1_isWhole_13 0 rfl rfl ?_
    refine rr_get hG 1 0 dX1_isWhole_14 ka0 (by decide) rfl tX1_isWhole_X1 (by decide) kX1_isWhole_33 rfl rfl ?_
    refine rr_icmp_ge hG (tgt := 78) dX1_isWhole_17 (by decide) hf (fun c11 hf => ?_) (fun c11 hf => ?_)
    · refine rr_iinc hG (v := x1 + (1 : Int32)) (lv2 := [(1, .int (x1 + (1 : Int32))), (0, .ref (ph a0)), (2, .int x2)]) (k := 1) dX1_isWhole_78 rfl rfl (by decide) rfl ?_
      refine rr_goto hG (tgt := 2) dX1_isWhole_81 (by decide) ?_
      exact rr_sub (lv2 := [(0, .ref (ph a0)), (1, .int (x1 + (1 : Int32)))]) [1, 0] rfl (hq2 _ _ hf)
    · refine rr_iconst hG (v := 0) dX1_isWhole_20 (by decide) ?_
      refine rr_istore_n hG (lv2 := [(3, .int (0 : Int32)), (0, .ref (ph a0)), (1, .int x1), (2, .int x2)]) dX1_isWhole_21 rfl (by decide) rfl ?_
      exact rr_sub (lv2 := [(0, .ref (ph a0)), (1, .int x1), (2, .int x2), (3, .int (0 : Int32))]) [1, 2, 3, 0] rfl (wX1_isWhole_L22 hN _ hG hR ka0 _ _ (hq2) (ih) _ _ _ _ _ hf)
set_option maxHeartbeats 4000000 in
set_option maxRecDepth 100000 in
theorem wX1_isWhole_L86 {G : rm_G} {NC : Nat} (hN : 79 ≤ NC) {ph : Nat → Nat} {rho : Int32 × rm_M} (a0 : Nat) (hG : rm_k G NC ph cX1_isWhole RX1 wsX1_isWhole 4 1 21) (hR : rm_rI G NC ph .boolean rho) (ka0 : rm_kq NC a0 (1, 0))   : ∀ (n : Nat) (x1 : Int32) (M : rm_M), fX1_isWhole_L86 a0 n x1 M = some rho → rm_L G NC ph 4 86 [(0, .ref (ph a0)), (1, .int x1)] [] M := by
  intro n
  induction n with
  | zero => intro x1 M hf; rw [fX1_isWhole_L86] at hf; cases hf
  | succ n ih =>
    intro x1 M hf
    rw [fX1_isWhole_L86] at hf
    refine rr_iload_n hG dX1_isWhole_86 1 rfl rfl ?_
    refine rr_aload_n hG dX1_isWhole_87 0 rfl rfl ?_
    refine rr_get hG 1 0 dX1_isWhole_88 ka0 (by decide) rfl tX1_isWhole_X1 (by decide) kX1_isWhole_33 rfl rfl ?_
    refine rr_icmp_ge hG (tgt := 115) dX1_isWhole_91 (by decide) hf (fun c12 hf => ?_) (fun c12 hf => ?_)
    · refine rr_aload_n hG dX1_isWhole_115 0 rfl rfl ?_
      refine rr_get hG 1 0 dX1_isWhole_116 ka0 (by decide) rfl tX1_isWhole_X1 (by decide) kX1_isWhole_33 rfl rfl ?_
      refine rr_iconst hG (v := 2) dX1_isWhole_119 (by decide) ?_
      refine rr_icmp_lt hG (tgt := 127) dX1_isWhole_120 (by decide) hf (fun c13 hf => ?_) (fun c13 hf => ?_)
      · refine rr_iconst hG (v := 0) dX1_isWhole_127 (by decide) ?_
        exact rr_zret hG hR dX1_isWhole_128 hf
      · refine rr_iconst hG (v := 1) dX1_isWhole_123 (by decide) ?_
        refine rr_goto hG (tgt := 128) dX1_isWhole_124 (by decide) ?_
        exact rr_zret hG hR dX1_isWhole_128 hf
    · refine rr_aload_n hG dX1_isWhole_94 0 rfl rfl ?_
      refine rr_get hG 1 7 (v := .ref (ph (a0 + 8))) dX1_isWhole_95 ka0 (by decide) rfl tX1_isWhole_X1 (by decide) kX1_isWhole_16 rfl rfl ?_
      refine rr_iconst hG (v := 0) dX1_isWhole_98 (by decide) ?_
      refine rr_aldR hG dX1_isWhole_99 (rm_kX1_8 hN ka0) hf (fun b14 hf => ?_)
      refine rr_iload_n hG dX1_isWhole_100 1 rfl rfl ?_
      refine rr_iald hG dX1_isWhole_101 (rm_kR hN (rm_kX1_8 hN ka0) b14) hf (fun b15 hf => ?_)
      refine rr_bipush hG (v := 99) dX1_isWhole_102 (by decide) ?_
      refine rr_icmp_lt hG (tgt := 109) dX1_isWhole_104 (by decide) hf (fun c16 hf => ?_) (fun c16 hf => ?_)
      · refine rr_iinc hG (v := x1 + (1 : Int32)) (lv2 := [(1, .int (x1 + (1 : Int32))), (0, .ref (ph a0))]) (k := 1) dX1_isWhole_109 rfl rfl (by decide) rfl ?_
        refine rr_goto hG (tgt := 86) dX1_isWhole_112 (by decide) ?_
        exact rr_sub (lv2 := [(0, .ref (ph a0)), (1, .int (x1 + (1 : Int32)))]) [1, 0] rfl (ih _ _ hf)
      · refine rr_iconst hG (v := 0) dX1_isWhole_107 (by decide) ?_
        exact rr_zret hG hR dX1_isWhole_108 hf
set_option maxHeartbeats 4000000 in
set_option maxRecDepth 100000 in
theorem wX1_isWhole_L2 {G : rm_G} {NC : Nat} (hN : 79 ≤ NC) {ph : Nat → Nat} {rho : Int32 × rm_M} (a0 : Nat) (hG : rm_k G NC ph cX1_isWhole RX1 wsX1_isWhole 4 1 21) (hR : rm_rI G NC ph .boolean rho) (ka0 : rm_kq NC a0 (1, 0))   : ∀ (n : Nat) (x1 : Int32) (M : rm_M), fX1_isWhole_L2 a0 n x1 M = some rho → rm_L G NC ph 4 2 [(0, .ref (ph a0)), (1, .int x1)] [] M := by
  intro n
  induction n with
  | zero => intro x1 M hf; rw [fX1_isWhole_L2] at hf; cases hf
  | succ n ih =>
    intro x1 M hf
    rw [fX1_isWhole_L2] at hf
    refine rr_iload_n hG dX1_isWhole_2 1 rfl rfl ?_
    refine rr_aload_n hG dX1_isWhole_3 0 rfl rfl ?_
    refine rr_get hG 1 0 dX1_isWhole_4 ka0 (by decide) rfl tX1_isWhole_X1 (by decide) kX1_isWhole_33 rfl rfl ?_
    refine rr_icmp_ge hG (tgt := 84) dX1_isWhole_7 (by decide) hf (fun c17 hf => ?_) (fun c17 hf => ?_)
    · refine rr_iconst hG (v := 1) dX1_isWhole_84 (by decide) ?_
      refine rr_istore_n hG (lv2 := [(1, .int (1 : Int32)), (0, .ref (ph a0))]) dX1_isWhole_85 rfl (by decide) rfl ?_
      exact rr_sub (lv2 := [(0, .ref (ph a0)), (1, .int (1 : Int32))]) [1, 0] rfl (wX1_isWhole_L86 hN _ hG hR ka0 _ _ _ hf)
    · refine rr_iconst hG (v := 0) dX1_isWhole_10 (by decide) ?_
      refine rr_istore_n hG (lv2 := [(2, .int (0 : Int32)), (0, .ref (ph a0)), (1, .int x1)]) dX1_isWhole_11 rfl (by decide) rfl ?_
      exact rr_sub (lv2 := [(0, .ref (ph a0)), (1, .int x1), (2, .int (0 : Int32))]) [1, 2, 0] rfl (wX1_isWhole_L12 hN _ hG hR ka0 _ (ih) _ _ _ _ hf)
set_option maxHeartbeats 4000000 in
set_option maxRecDepth 100000 in
theorem mX1_isWhole {NC : Nat} (hN : 79 ≤ NC) (ph : Nat → Nat) (a0 : Nat) (M : rm_M) (rho : Int32 × rm_M) (ka0 : rm_kq NC a0 (1, 0)) (hf : fX1_isWhole a0 M = some rho) : rm_CI yX1_isWhole wsX1_isWhole 1 21 [.ref (ph a0)] NC ph M rho := by
  refine rm_metI (cc := cX1_isWhole) (maxL := 4) (by decide +kernel) rfl rfl (Nat.le_of_ble_eq_true rfl) rfl (fun G hG hR => ?_)
  unfold fX1_isWhole at hf
  refine rr_iconst hG (v := 0) dX1_isWhole_0 (by decide) ?_
  refine rr_istore_n hG (lv2 := [(1, .int (0 : Int32)), (0, .ref (ph a0))]) dX1_isWhole_1 rfl (by decide) rfl ?_
  exact rr_sub (lv2 := [(0, .ref (ph a0)), (1, .int (0 : Int32))]) [1, 0] rfl (wX1_isWhole_L2 hN _ hG hR ka0 _ _ _ hf)
/-! J6.bitCount -/
theorem kJ6_bitCount_0f7a4_265 : Cond.constant RJ6 265 (1431655765) ∈ wsJ6_bitCount_0f7a4 := by decide +kernel
theorem kJ6_bitCount_0f7a4_266 : Cond.constant RJ6 266 (858993459) ∈ wsJ6_bitCount_0f7a4 := by decide +kernel
theorem kJ6_bitCount_0f7a4_267 : Cond.constant RJ6 267 (252645135) ∈ wsJ6_bitCount_0f7a4 := by decide +kernel
set_option maxHeartbeats 4000000 in
set_option maxRecDepth 100000 in
theorem mJ6_bitCount_0f7a4 {NC : Nat} (hN : 79 ≤ NC) (ph : Nat → Nat) (a0 : Int32) (M : rm_M) (rho : Int32 × rm_M)  (hf : fJ6_bitCount_0f7a4 a0 M = some rho) : rm_CI yJ6_bitCount_0f7a4 wsJ6_bitCount_0f7a4 0 0 [.int a0] NC ph M rho := by
  refine rm_metI (cc := cJ6_bitCount_0f7a4) (maxL := 1) (by decide +kernel) rfl rfl (Nat.le_of_ble_eq_true rfl) rfl (fun G hG hR => ?_)
  unfold fJ6_bitCount_0f7a4 at hf
  refine rr_iload_n hG dJ6_bitCount_0f7a4_0 0 rfl rfl ?_
  refine rr_iload_n hG dJ6_bitCount_0f7a4_1 0 rfl rfl ?_
  refine rr_iconst hG (v := 1) dJ6_bitCount_0f7a4_2 (by decide) ?_
  refine rr_iushr hG dJ6_bitCount_0f7a4_3 ?_
  refine rr_ldcw hG (v := (1431655765)) dJ6_bitCount_0f7a4_4 kJ6_bitCount_0f7a4_265 ?_
  refine rr_iand hG dJ6_bitCount_0f7a4_7 ?_
  refine rr_isub hG dJ6_bitCount_0f7a4_8 ?_
  refine rr_bindI hf (fun v1 ev1 hf => ?_)
  refine rr_istore_n hG (lv2 := [(0, .int v1)]) dJ6_bitCount_0f7a4_9 rfl (by decide) rfl ?_
  refine rr_iload_n hG dJ6_bitCount_0f7a4_10 0 rfl rfl ?_
  refine rr_ldcw hG (v := (858993459)) dJ6_bitCount_0f7a4_11 kJ6_bitCount_0f7a4_266 ?_
  refine rr_iand hG dJ6_bitCount_0f7a4_14 ?_
  refine rr_iload_n hG dJ6_bitCount_0f7a4_15 0 rfl rfl ?_
  refine rr_iconst hG (v := 2) dJ6_bitCount_0f7a4_16 (by decide) ?_
  refine rr_iushr hG dJ6_bitCount_0f7a4_17 ?_
  refine rr_ldcw hG (v := (858993459)) dJ6_bitCount_0f7a4_18 kJ6_bitCount_0f7a4_266 ?_
  refine rr_iand hG dJ6_bitCount_0f7a4_21 ?_
  refine rr_iadd hG dJ6_bitCount_0f7a4_22 ?_
  refine rr_bindI hf (fun v2 ev2 hf => ?_)
  refine rr_istore_n hG (lv2 := [(0, .int v2)]) dJ6_bitCount_0f7a4_23 rfl (by decide) rfl ?_
  refine rr_iload_n hG dJ6_bitCount_0f7a4_24 0 rfl rfl ?_
  refine rr_iload_n hG dJ6_bitCount_0f7a4_25 0 rfl rfl ?_
  refine rr_iconst hG (v := 4) dJ6_bitCount_0f7a4_26 (by decide) ?_
  refine rr_iushr hG dJ6_bitCount_0f7a4_27 ?_
  refine rr_iadd hG dJ6_bitCount_0f7a4_28 ?_
  refine rr_ldcw hG (v := (252645135)) dJ6_bitCount_0f7a4_29 kJ6_bitCount_0f7a4_267 ?_
  refine rr_iand hG dJ6_bitCount_0f7a4_32 ?_
  refine rr_bindI hf (fun v3 ev3 hf => ?_)
  refine rr_istore_n hG (lv2 := [(0, .int v3)]) dJ6_bitCount_0f7a4_33 rfl (by decide) rfl ?_
  refine rr_iload_n hG dJ6_bitCount_0f7a4_34 0 rfl rfl ?_
  refine rr_iload_n hG dJ6_bitCount_0f7a4_35 0 rfl rfl ?_
  refine rr_bipush hG (v := 8) dJ6_bitCount_0f7a4_36 (by decide) ?_
  refine rr_iushr hG dJ6_bitCount_0f7a4_38 ?_
  refine rr_iadd hG dJ6_bitCount_0f7a4_39 ?_
  refine rr_bindI hf (fun v4 ev4 hf => ?_)
  refine rr_istore_n hG (lv2 := [(0, .int v4)]) dJ6_bitCount_0f7a4_40 rfl (by decide) rfl ?_
  refine rr_iload_n hG dJ6_bitCount_0f7a4_41 0 rfl rfl ?_
  refine rr_iload_n hG dJ6_bitCount_0f7a4_42 0 rfl rfl ?_
  refine rr_bipush hG (v := 16) dJ6_bitCount_0f7a4_43 (by decide) ?_
  refine rr_iushr hG dJ6_bitCount_0f7a4_45 ?_
  refine rr_iadd hG dJ6_bitCount_0f7a4_46 ?_
  refine rr_bindI hf (fun v5 ev5 hf => ?_)
  refine rr_istore_n hG (lv2 := [(0, .int v5)]) dJ6_bitCount_0f7a4_47 rfl (by decide) rfl ?_
  refine rr_iload_n hG dJ6_bitCount_0f7a4_48 0 rfl rfl ?_
  refine rr_bipush hG (v := 63) dJ6_bitCount_0f7a4_49 (by decide) ?_
  refine rr_iand hG dJ6_bitCount_0f7a4_51 ?_
  exact rr_iret hG hR dJ6_bitCount_0f7a4_52 hf
/-! X1.rowOf -/
set_option maxHeartbeats 4000000 in
set_option maxRecDepth 100000 in
theorem mX1_rowOf {NC : Nat} (hN : 79 ≤ NC) (ph : Nat → Nat) (a0 : Nat) (a1 : Int32) (a2 : Int32) (M : rm_M) (rho : Int32 × rm_M) (ka0 : rm_kq NC a0 (1, 0)) (hf : fX1_rowOf a0 a1 a2 M = some rho) : rm_CI yX1_rowOf wsX1_rowOf 0 0 [.ref (ph a0), .int a1, .int a2] NC ph M rho := by
  refine rm_metI (cc := cX1_rowOf) (maxL := 3) (by decide +kernel) rfl rfl (Nat.le_of_ble_eq_true rfl) rfl (fun G hG hR => ?_)
  unfold fX1_rowOf at hf
  refine rr_iload_n hG dX1_rowOf_0 1 rfl rfl ?_
  refine rr_iload_n hG dX1_rowOf_1 2 rfl rfl ?_
  refine rr_icmp_ge hG (tgt := 9) dX1_rowOf_2 (by decide) hf (fun c1 hf => ?_) (fun c1 hf => ?_)
  · refine rr_iload_n hG dX1_rowOf_9 1 rfl rfl ?_
    refine rr_iconst hG (v := 1) dX1_rowOf_10 (by decide) ?_
    refine rr_iadd hG dX1_rowOf_11 ?_
    exact rr_iret hG hR dX1_rowOf_12 hf
  · refine rr_iload_n hG dX1_rowOf_5 1 rfl rfl ?_
    refine rr_goto hG (tgt := 12) dX1_rowOf_6 (by decide) ?_
    exact rr_iret hG hR dX1_rowOf_12 hf
/-! X7.holds -/
set_option maxHeartbeats 4000000 in
set_option maxRecDepth 100000 in
theorem mX7_holds {NC : Nat} (hN : 79 ≤ NC) (ph : Nat → Nat) (a0 : Int32) (a1 : Int32) (M : rm_M) (rho : Int32 × rm_M)  (hf : fX7_holds a0 a1 M = some rho) : rm_CI yX7_holds wsX7_holds 0 0 [.int a0, .int a1] NC ph M rho := by
  refine rm_metI (cc := cX7_holds) (maxL := 2) (by decide +kernel) rfl rfl (Nat.le_of_ble_eq_true rfl) rfl (fun G hG hR => ?_)
  unfold fX7_holds at hf
  refine rr_iload_n hG dX7_holds_0 0 rfl rfl ?_
  refine rr_iload_n hG dX7_holds_1 1 rfl rfl ?_
  refine rr_ishr hG dX7_holds_2 ?_
  refine rr_iconst hG (v := 1) dX7_holds_3 (by decide) ?_
  refine rr_iand hG dX7_holds_4 ?_
  refine rr_if_eq hG (tgt := 12) dX7_holds_5 (by decide) hf (fun c1 hf => ?_) (fun c1 hf => ?_)
  · refine rr_iconst hG (v := 0) dX7_holds_12 (by decide) ?_
    exact rr_zret hG hR dX7_holds_13 hf
  · refine rr_iconst hG (v := 1) dX7_holds_8 (by decide) ?_
    refine rr_goto hG (tgt := 13) dX7_holds_9 (by decide) ?_
    exact rr_zret hG hR dX7_holds_13 hf
/-! X1.minorOf -/
theorem tX1_minorOf_X1 : ∀ w ∈ u_ws RX1 TX1 12, w ∈ wsX1_minorOf := by decide +kernel
theorem kX1_minorOf_30 : Cond.fieldLink RX1 30 "RingPages$Net" "minors" "[J" ∈ wsX1_minorOf := by decide +kernel
theorem kX1_minorOf_33 : Cond.fieldLink RX1 33 "RingPages$Net" "cells" "I" ∈ wsX1_minorOf := by decide +kernel
theorem kX1_minorOf_iniX7 : Cond.initialized RX7 ∈ wsX1_minorOf := by decide +kernel
theorem kX1_minorOf_stX7_holds : Cond.static yX7_holds ∈ wsX1_minorOf := by decide +kernel
theorem kX1_minorOf_11 : Cond.fieldLink RX1 11 "RingPages$Net" "weight" "[[I" ∈ wsX1_minorOf := by decide +kernel
theorem kX1_minorOf_23 : Cond.fieldLink RX1 23 "RingPages$Net" "out" "[I" ∈ wsX1_minorOf := by decide +kernel
set_option maxHeartbeats 4000000 in
set_option maxRecDepth 100000 in
theorem wX1_minorOf_L104 {G : rm_G} {NC : Nat} (hN : 79 ≤ NC) {ph : Nat → Nat} {rho : Int64 × rm_M} (a0 : Nat) (a1 : Int32) (a2 : Int32) (hG : rm_k G NC ph cX1_minorOf RX1 wsX1_minorOf 9 1 21) (hR : rm_rJ G NC ph rho) (ka0 : rm_kq NC a0 (1, 0)) (q5 : Int64 → Int32 → rm_M → Option (Int64 × rm_M)) (hq5 : ∀ (x3 : Int64) (x5 : Int32) (M : rm_M), q5 x3 x5 M = some rho → rm_L G NC ph 9 5 [(0, .ref (ph a0)), (1, .int a1), (2, .int a2), (3, .long x3), (5, .int x5)] [] M) : ∀ (x3 : Int64) (x5 : Int32) (M : rm_M), fX1_minorOf_L104 a0 a1 a2 q5 x3 x5 M = some rho → rm_L G NC ph 9 104 [(0, .ref (ph a0)), (1, .int a1), (2, .int a2), (3, .long x3), (5, .int x5)] [] M := by
  intro x3 x5 M hf
  unfold fX1_minorOf_L104 at hf
  refine rr_iinc hG (v := x5 + (1 : Int32)) (lv2 := [(5, .int (x5 + (1 : Int32))), (0, .ref (ph a0)), (1, .int a1), (2, .int a2), (3, .long x3)]) (k := 4) dX1_minorOf_104 rfl rfl (by decide) rfl ?_
  refine rr_goto hG (tgt := 5) dX1_minorOf_107 (by decide) ?_
  exact rr_sub (lv2 := [(0, .ref (ph a0)), (1, .int a1), (2, .int a2), (3, .long x3), (5, .int (x5 + (1 : Int32)))]) [1, 2, 3, 4, 0] rfl (hq5 _ _ _ hf)
set_option maxHeartbeats 4000000 in
set_option maxRecDepth 100000 in
theorem wX1_minorOf_L88 {G : rm_G} {NC : Nat} (hN : 79 ≤ NC) {ph : Nat → Nat} {rho : Int64 × rm_M} (a0 : Nat) (a1 : Int32) (a2 : Int32) (hG : rm_k G NC ph cX1_minorOf RX1 wsX1_minorOf 9 1 21) (hR : rm_rJ G NC ph rho) (ka0 : rm_kq NC a0 (1, 0)) (q5 : Int64 → Int32 → rm_M → Option (Int64 × rm_M)) (hq5 : ∀ (x3 : Int64) (x5 : Int32) (M : rm_M), q5 x3 x5 M = some rho → rm_L G NC ph 9 5 [(0, .ref (ph a0)), (1, .int a1), (2, .int a2), (3, .long x3), (5, .int x5)] [] M) : ∀ (x5 : Int32) (s0 : Int64) (s1 : Int64) (M : rm_M), fX1_minorOf_L88 a0 a1 a2 q5 x5 s0 s1 M = some rho → rm_L G NC ph 9 88 [(0, .ref (ph a0)), (1, .int a1), (2, .int a2), (5, .int x5)] [.long s1, .long s0] M := by
  intro x5 s0 s1 M hf
  unfold fX1_minorOf_L88 at hf
  refine rr_aload_n hG dX1_minorOf_88 0 rfl rfl ?_
  refine rr_get hG 1 11 (v := .ref (ph (a0 + 18))) dX1_minorOf_89 ka0 (by decide) rfl tX1_minorOf_X1 (by decide) kX1_minorOf_30 rfl rfl ?_
  refine rr_iload_n hG dX1_minorOf_92 1 rfl rfl ?_
  refine rr_iconst hG (v := 1) dX1_minorOf_93 (by decide) ?_
  refine rr_iload hG dX1_minorOf_94 3 rfl ?_
  refine rr_ishl hG dX1_minorOf_96 ?_
  refine rr_iconst hG (v := (-1)) dX1_minorOf_97 (by decide) ?_
  refine rr_ixor hG dX1_minorOf_98 ?_
  refine rr_iand hG dX1_minorOf_99 ?_
  refine rr_lald hG dX1_minorOf_100 (rm_kX1_18 hN ka0) hf (fun b1 hf => ?_)
  refine rr_lmul hG dX1_minorOf_101 ?_
  refine rr_ladd hG dX1_minorOf_102 ?_
  refine rr_bindJ hf (fun v2 ev2 hf => ?_)
  refine rr_lstore_n hG (lv2 := [(3, .long v2), (0, .ref (ph a0)), (1, .int a1), (2, .int a2), (5, .int x5)]) dX1_minorOf_103 rfl (by decide) rfl ?_
  exact rr_sub (lv2 := [(0, .ref (ph a0)), (1, .int a1), (2, .int a2), (3, .long v2), (5, .int x5)]) [1, 2, 3, 0, 4] rfl (wX1_minorOf_L104 hN _ _ _ hG hR ka0 _ (hq5) _ _ _ hf)
set_option maxHeartbeats 4000000 in
set_option maxRecDepth 100000 in
theorem wX1_minorOf_L72 {G : rm_G} {NC : Nat} (hN : 79 ≤ NC) {ph : Nat → Nat} {rho : Int64 × rm_M} (a0 : Nat) (a1 : Int32) (a2 : Int32) (hG : rm_k G NC ph cX1_minorOf RX1 wsX1_minorOf 9 1 21) (hR : rm_rJ G NC ph rho) (ka0 : rm_kq NC a0 (1, 0)) (q5 : Int64 → Int32 → rm_M → Option (Int64 × rm_M)) (hq5 : ∀ (x3 : Int64) (x5 : Int32) (M : rm_M), q5 x3 x5 M = some rho → rm_L G NC ph 9 5 [(0, .ref (ph a0)), (1, .int a1), (2, .int a2), (3, .long x3), (5, .int x5)] [] M) : ∀ (x3 : Int64) (x5 : Int32) (x6 : Int64) (s0 : Int32) (M : rm_M), fX1_minorOf_L72 a0 a1 a2 q5 x3 x5 x6 s0 M = some rho → rm_L G NC ph 9 72 [(0, .ref (ph a0)), (1, .int a1), (2, .int a2), (3, .long x3), (5, .int x5), (6, .long x6)] [.int s0] M := by
  intro x3 x5 x6 s0 M hf
  unfold fX1_minorOf_L72 at hf
  refine rr_istore hG (lv2 := [(8, .int s0), (0, .ref (ph a0)), (1, .int a1), (2, .int a2), (3, .long x3), (5, .int x5), (6, .long x6)]) dX1_minorOf_72 (by decide) rfl ?_
  refine rr_lload_n hG dX1_minorOf_74 4 rfl rfl ?_
  refine rr_iload hG dX1_minorOf_75 0 rfl ?_
  refine rr_if_eq hG (tgt := 86) dX1_minorOf_77 (by decide) hf (fun c3 hf => ?_) (fun c3 hf => ?_)
  · refine rr_lload hG dX1_minorOf_86 6 rfl ?_
    exact rr_sub (lv2 := [(0, .ref (ph a0)), (1, .int a1), (2, .int a2), (5, .int x5)]) [1, 2, 3, 5] rfl (wX1_minorOf_L88 hN _ _ _ hG hR ka0 _ (hq5) _ _ _ _ hf)
  · refine rr_lload hG dX1_minorOf_80 6 rfl ?_
    refine rr_lneg hG dX1_minorOf_82 ?_
    refine rr_goto hG (tgt := 88) dX1_minorOf_83 (by decide) ?_
    exact rr_sub (lv2 := [(0, .ref (ph a0)), (1, .int a1), (2, .int a2), (5, .int x5)]) [1, 2, 3, 5] rfl (wX1_minorOf_L88 hN _ _ _ hG hR ka0 _ (hq5) _ _ _ _ hf)
set_option maxHeartbeats 4000000 in
set_option maxRecDepth 100000 in
theorem wX1_minorOf_L50 {G : rm_G} {NC : Nat} (hN : 79 ≤ NC) {ph : Nat → Nat} {rho : Int64 × rm_M} (a0 : Nat) (a1 : Int32) (a2 : Int32) (hG : rm_k G NC ph cX1_minorOf RX1 wsX1_minorOf 9 1 21) (hR : rm_rJ G NC ph rho) (ka0 : rm_kq NC a0 (1, 0)) (q5 : Int64 → Int32 → rm_M → Option (Int64 × rm_M)) (hq5 : ∀ (x3 : Int64) (x5 : Int32) (M : rm_M), q5 x3 x5 M = some rho → rm_L G NC ph 9 5 [(0, .ref (ph a0)), (1, .int a1), (2, .int a2), (3, .long x3), (5, .int x5)] [] M) : ∀ (x3 : Int64) (x5 : Int32) (s0 : Int64) (M : rm_M), fX1_minorOf_L50 a0 a1 a2 q5 x3 x5 s0 M = some rho → rm_L G NC ph 9 50 [(0, .ref (ph a0)), (1, .int a1), (2, .int a2), (3, .long x3), (5, .int x5)] [.long s0] M := by
  intro x3 x5 s0 M hf
  unfold fX1_minorOf_L50 at hf
  refine rr_lstore hG (lv2 := [(6, .long s0), (0, .ref (ph a0)), (1, .int a1), (2, .int a2), (3, .long x3), (5, .int x5)]) dX1_minorOf_50 (by decide) rfl ?_
  refine rr_iload_n hG dX1_minorOf_52 2 rfl rfl ?_
  refine rr_iload hG dX1_minorOf_53 5 rfl ?_
  refine rr_iconst hG (v := 1) dX1_minorOf_55 (by decide) ?_
  refine rr_iadd hG dX1_minorOf_56 ?_
  refine rr_ishr hG dX1_minorOf_57 ?_
  refine rr_cSI hG (st := []) (n := 1) (rf := 0) (rl := 0) [.int (a1 >>> ((x5 + (1 : Int32)) &&& 31))] dX1_minorOf_58 hf gX1_minorOf_J6_bitCount_0f7a4 rfl (by decide +kernel) rfl ⟨by decide, by decide⟩ rfl (Nat.le_of_ble_eq_true rfl) (fun r9 M9 h9 => mJ6_bitCount_0f7a4 hN ph _ _ _ h9) (fun r5 M6 h4 hf => ?_)
  refine rr_iconst hG (v := 1) dX1_minorOf_61 (by decide) ?_
  refine rr_iand hG dX1_minorOf_62 ?_
  refine rr_iconst hG (v := 1) dX1_minorOf_63 (by decide) ?_
  refine rr_icmp_ne hG (tgt := 71) dX1_minorOf_64 (by decide) hf (fun c7 hf => ?_) (fun c7 hf => ?_)
  · refine rr_iconst hG (v := 0) dX1_minorOf_71 (by decide) ?_
    exact rr_sub (lv2 := [(0, .ref (ph a0)), (1, .int a1), (2, .int a2), (3, .long x3), (5, .int x5), (6, .long s0)]) [1, 2, 3, 4, 5, 0] rfl (wX1_minorOf_L72 hN _ _ _ hG hR ka0 _ (hq5) _ _ _ _ _ hf)
  · refine rr_iconst hG (v := 1) dX1_minorOf_67 (by decide) ?_
    refine rr_goto hG (tgt := 72) dX1_minorOf_68 (by decide) ?_
    exact rr_sub (lv2 := [(0, .ref (ph a0)), (1, .int a1), (2, .int a2), (3, .long x3), (5, .int x5), (6, .long s0)]) [1, 2, 3, 4, 5, 0] rfl (wX1_minorOf_L72 hN _ _ _ hG hR ka0 _ (hq5) _ _ _ _ _ hf)
set_option maxHeartbeats 4000000 in
set_option maxRecDepth 100000 in
theorem wX1_minorOf_L5 {G : rm_G} {NC : Nat} (hN : 79 ≤ NC) {ph : Nat → Nat} {rho : Int64 × rm_M} (a0 : Nat) (a1 : Int32) (a2 : Int32) (hG : rm_k G NC ph cX1_minorOf RX1 wsX1_minorOf 9 1 21) (hR : rm_rJ G NC ph rho) (ka0 : rm_kq NC a0 (1, 0))   : ∀ (n : Nat) (x3 : Int64) (x5 : Int32) (M : rm_M), fX1_minorOf_L5 a0 a1 a2 n x3 x5 M = some rho → rm_L G NC ph 9 5 [(0, .ref (ph a0)), (1, .int a1), (2, .int a2), (3, .long x3), (5, .int x5)] [] M := by
  intro n
  induction n with
  | zero => intro x3 x5 M hf; rw [fX1_minorOf_L5] at hf; cases hf
  | succ n ih =>
    intro x3 x5 M hf
    rw [fX1_minorOf_L5] at hf
    refine rr_iload hG dX1_minorOf_5 4 rfl ?_
    refine rr_aload_n hG dX1_minorOf_7 0 rfl rfl ?_
    refine rr_get hG 1 0 dX1_minorOf_8 ka0 (by decide) rfl tX1_minorOf_X1 (by decide) kX1_minorOf_33 rfl rfl ?_
    refine rr_icmp_ge hG (tgt := 110) dX1_minorOf_11 (by decide) hf (fun c8 hf => ?_) (fun c8 hf => ?_)
    · refine rr_lload_n hG dX1_minorOf_110 3 rfl rfl ?_
      exact rr_lret hG hR dX1_minorOf_111 hf
    · refine rr_iload_n hG dX1_minorOf_14 1 rfl rfl ?_
      refine rr_iload hG dX1_minorOf_15 4 rfl ?_
      refine rr_cNI hG (st := []) (n := 2) (rf := 0) (rl := 0) [.int a1, .int x5] dX1_minorOf_17 hf gX1_minorOf_X7_holds_n83 (by decide +kernel) kX1_minorOf_iniX7 kX1_minorOf_stX7_holds rfl (by decide +kernel) rfl ⟨by decide, by decide⟩ rfl (Nat.le_of_ble_eq_true rfl) (fun r9 M9 h9 => mX7_holds hN ph _ _ _ _ h9) (fun r10 M11 h9 hf => ?_)
      refine rr_if_eq hG (tgt := 104) dX1_minorOf_20 (by decide) hf (fun c12 hf => ?_) (fun c12 hf => ?_)
      · exact rr_sub (lv2 := [(0, .ref (ph a0)), (1, .int a1), (2, .int a2), (3, .long x3), (5, .int x5)]) [0, 1, 2, 3, 4] rfl (wX1_minorOf_L104 hN _ _ _ hG hR ka0 _ (ih) _ _ _ hf)
      · refine rr_iload_n hG dX1_minorOf_23 2 rfl rfl ?_
        refine rr_iload hG dX1_minorOf_24 4 rfl ?_
        refine rr_icmp_ne hG (tgt := 39) dX1_minorOf_26 (by decide) hf (fun c13 hf => ?_) (fun c13 hf => ?_)
        · refine rr_aload_n hG dX1_minorOf_39 0 rfl rfl ?_
          refine rr_get hG 1 6 (v := .ref (ph (a0 + 1))) dX1_minorOf_40 ka0 (by decide) rfl tX1_minorOf_X1 (by decide) kX1_minorOf_11 rfl rfl ?_
          refine rr_iload_n hG dX1_minorOf_43 2 rfl rfl ?_
          refine rr_aldR hG dX1_minorOf_44 (rm_kX1_1 hN ka0) hf (fun b14 hf => ?_)
          refine rr_iload hG dX1_minorOf_45 4 rfl ?_
          refine rr_iald hG dX1_minorOf_47 (rm_kR hN (rm_kX1_1 hN ka0) b14) hf (fun b15 hf => ?_)
          refine rr_ineg hG dX1_minorOf_48 ?_
          refine rr_i2l hG dX1_minorOf_49 ?_
          exact rr_sub (lv2 := [(0, .ref (ph a0)), (1, .int a1), (2, .int a2), (3, .long x3), (5, .int x5)]) [0, 1, 2, 3, 4] rfl (wX1_minorOf_L50 hN _ _ _ hG hR ka0 _ (ih) _ _ _ _ hf)
        · refine rr_aload_n hG dX1_minorOf_29 0 rfl rfl ?_
          refine rr_get hG 1 9 (v := .ref (ph (a0 + 16))) dX1_minorOf_30 ka0 (by decide) rfl tX1_minorOf_X1 (by decide) kX1_minorOf_23 rfl rfl ?_
          refine rr_iload_n hG dX1_minorOf_33 2 rfl rfl ?_
          refine rr_iald hG dX1_minorOf_34 (rm_kX1_16 hN ka0) hf (fun b16 hf => ?_)
          refine rr_i2l hG dX1_minorOf_35 ?_
          refine rr_goto hG (tgt := 50) dX1_minorOf_36 (by decide) ?_
          exact rr_sub (lv2 := [(0, .ref (ph a0)), (1, .int a1), (2, .int a2), (3, .long x3), (5, .int x5)]) [0, 1, 2, 3, 4] rfl (wX1_minorOf_L50 hN _ _ _ hG hR ka0 _ (ih) _ _ _ _ hf)
set_option maxHeartbeats 4000000 in
set_option maxRecDepth 100000 in
theorem mX1_minorOf {NC : Nat} (hN : 79 ≤ NC) (ph : Nat → Nat) (a0 : Nat) (a1 : Int32) (a2 : Int32) (M : rm_M) (rho : Int64 × rm_M) (ka0 : rm_kq NC a0 (1, 0)) (hf : fX1_minorOf a0 a1 a2 M = some rho) : rm_CJ yX1_minorOf wsX1_minorOf 1 21 [.ref (ph a0), .int a1, .int a2] NC ph M rho := by
  refine rm_metJ (cc := cX1_minorOf) (maxL := 9) (by decide +kernel) rfl rfl (Nat.le_of_ble_eq_true rfl) rfl (fun G hG hR => ?_)
  unfold fX1_minorOf at hf
  refine rr_lconst hG (v := 0) dX1_minorOf_0 (by decide) ?_
  refine rr_lstore_n hG (lv2 := [(3, .long (0 : Int64)), (0, .ref (ph a0)), (1, .int a1), (2, .int a2)]) dX1_minorOf_1 rfl (by decide) rfl ?_
  refine rr_iconst hG (v := 0) dX1_minorOf_2 (by decide) ?_
  refine rr_istore hG (lv2 := [(5, .int (0 : Int32)), (3, .long (0 : Int64)), (0, .ref (ph a0)), (1, .int a1), (2, .int a2)]) dX1_minorOf_3 (by decide) rfl ?_
  exact rr_sub (lv2 := [(0, .ref (ph a0)), (1, .int a1), (2, .int a2), (3, .long (0 : Int64)), (5, .int (0 : Int32))]) [2, 3, 4, 1, 0] rfl (wX1_minorOf_L5 hN _ _ _ hG hR ka0 _ _ _ _ hf)
/-! X1.treesTo -/
theorem tX1_treesTo_X1 : ∀ w ∈ u_ws RX1 TX1 12, w ∈ wsX1_treesTo := by decide +kernel
theorem kX1_treesTo_30 : Cond.fieldLink RX1 30 "RingPages$Net" "minors" "[J" ∈ wsX1_treesTo := by decide +kernel
theorem kX1_treesTo_33 : Cond.fieldLink RX1 33 "RingPages$Net" "cells" "I" ∈ wsX1_treesTo := by decide +kernel
set_option maxHeartbeats 4000000 in
set_option maxRecDepth 100000 in
theorem wX1_treesTo_L59 {G : rm_G} {NC : Nat} (hN : 79 ≤ NC) {ph : Nat → Nat} {rho : Int64 × rm_M} (a0 : Nat) (a1 : Int32) (hG : rm_k G NC ph cX1_treesTo RX1 wsX1_treesTo 4 2 49) (hR : rm_rJ G NC ph rho) (ka0 : rm_kq NC a0 (1, 0)) (q24 : Int32 → Int32 → rm_M → Option (Int64 × rm_M)) (hq24 : ∀ (x2 : Int32) (x3 : Int32) (M : rm_M), q24 x2 x3 M = some rho → rm_L G NC ph 4 24 [(0, .ref (ph a0)), (1, .int a1), (2, .int x2), (3, .int x3)] [] M) : ∀ (x2 : Int32) (x3 : Int32) (M : rm_M), fX1_treesTo_L59 a0 a1 q24 x2 x3 M = some rho → rm_L G NC ph 4 59 [(0, .ref (ph a0)), (1, .int a1), (2, .int x2), (3, .int x3)] [] M := by
  intro x2 x3 M hf
  unfold fX1_treesTo_L59 at hf
  refine rr_iinc hG (v := x3 + (1 : Int32)) (lv2 := [(3, .int (x3 + (1 : Int32))), (0, .ref (ph a0)), (1, .int a1), (2, .int x2)]) (k := 3) dX1_treesTo_59 rfl rfl (by decide) rfl ?_
  refine rr_goto hG (tgt := 24) dX1_treesTo_62 (by decide) ?_
  exact rr_sub (lv2 := [(0, .ref (ph a0)), (1, .int a1), (2, .int x2), (3, .int (x3 + (1 : Int32)))]) [1, 2, 3, 0] rfl (hq24 _ _ _ hf)
set_option maxHeartbeats 4000000 in
set_option maxRecDepth 100000 in
theorem wX1_treesTo_L24 {G : rm_G} {NC : Nat} (hN : 79 ≤ NC) {ph : Nat → Nat} {rho : Int64 × rm_M} (a0 : Nat) (a1 : Int32) (hG : rm_k G NC ph cX1_treesTo RX1 wsX1_treesTo 4 2 49) (hR : rm_rJ G NC ph rho) (ka0 : rm_kq NC a0 (1, 0))   : ∀ (n : Nat) (x2 : Int32) (x3 : Int32) (M : rm_M), fX1_treesTo_L24 a0 a1 n x2 x3 M = some rho → rm_L G NC ph 4 24 [(0, .ref (ph a0)), (1, .int a1), (2, .int x2), (3, .int x3)] [] M := by
  intro n
  induction n with
  | zero => intro x2 x3 M hf; rw [fX1_treesTo_L24] at hf; cases hf
  | succ n ih =>
    intro x2 x3 M hf
    rw [fX1_treesTo_L24] at hf
    refine rr_iload_n hG dX1_treesTo_24 3 rfl rfl ?_
    refine rr_iload_n hG dX1_treesTo_25 2 rfl rfl ?_
    refine rr_icmp_gt hG (tgt := 65) dX1_treesTo_26 (by decide) hf (fun c1 hf => ?_) (fun c1 hf => ?_)
    · refine rr_aload_n hG dX1_treesTo_65 0 rfl rfl ?_
      refine rr_get hG 1 11 (v := .ref (ph (a0 + 18))) dX1_treesTo_66 ka0 (by decide) rfl tX1_treesTo_X1 (by decide) kX1_treesTo_30 rfl rfl ?_
      refine rr_iload_n hG dX1_treesTo_69 2 rfl rfl ?_
      refine rr_lald hG dX1_treesTo_70 (rm_kX1_18 hN ka0) hf (fun b2 hf => ?_)
      exact rr_lret hG hR dX1_treesTo_71 hf
    · refine rr_iload_n hG dX1_treesTo_29 3 rfl rfl ?_
      refine rr_iload_n hG dX1_treesTo_30 2 rfl rfl ?_
      refine rr_iconst hG (v := (-1)) dX1_treesTo_31 (by decide) ?_
      refine rr_ixor hG dX1_treesTo_32 ?_
      refine rr_iand hG dX1_treesTo_33 ?_
      refine rr_if_ne hG (tgt := 59) dX1_treesTo_34 (by decide) hf (fun c3 hf => ?_) (fun c3 hf => ?_)
      · exact rr_sub (lv2 := [(0, .ref (ph a0)), (1, .int a1), (2, .int x2), (3, .int x3)]) [0, 1, 2, 3] rfl (wX1_treesTo_L59 hN _ _ hG hR ka0 _ (ih) _ _ _ hf)
      · refine rr_aload_n hG dX1_treesTo_37 0 rfl rfl ?_
        refine rr_get hG 1 11 (v := .ref (ph (a0 + 18))) dX1_treesTo_38 ka0 (by decide) rfl tX1_treesTo_X1 (by decide) kX1_treesTo_30 rfl rfl ?_
        refine rr_iload_n hG dX1_treesTo_41 3 rfl rfl ?_
        refine rr_aload_n hG dX1_treesTo_42 0 rfl rfl ?_
        refine rr_iload_n hG dX1_treesTo_43 3 rfl rfl ?_
        refine rr_aload_n hG dX1_treesTo_44 0 rfl rfl ?_
        refine rr_iload_n hG dX1_treesTo_45 3 rfl rfl ?_
        refine rr_cSI hG (st := [.ref (ph a0), .int x3, .ref (ph a0), .int x3, .ref (ph (a0 + 18))]) (n := 1) (rf := 0) (rl := 0) [.int x3] dX1_treesTo_46 hf gX1_treesTo_J6_bitCount_0f7a4 rfl (by decide +kernel) rfl ⟨by decide, by decide⟩ rfl (Nat.le_of_ble_eq_true rfl) (fun r9 M9 h9 => mJ6_bitCount_0f7a4 hN ph _ _ _ h9) (fun r5 M6 h4 hf => ?_)
        refine rr_iconst hG (v := 1) dX1_treesTo_49 (by decide) ?_
        refine rr_isub hG dX1_treesTo_50 ?_
        refine rr_iload_n hG dX1_treesTo_51 1 rfl rfl ?_
        refine rr_cVI hG (st := [.int x3, .ref (ph a0), .int x3, .ref (ph (a0 + 18))]) (n := 2) (ci := 1) (rf := 0) (rl := 0) [.int (r5 - (1 : Int32)), .int a1] dX1_treesTo_52 hf ka0 (by decide) rfl gX1_treesTo_X1_rowOf rfl (by decide +kernel) rfl ⟨by decide, by decide⟩ rfl (Nat.le_of_ble_eq_true rfl) (fun r9 M9 h9 => mX1_rowOf hN ph _ _ _ _ _ ka0 h9) (fun r8 M9 h7 hf => ?_)
        refine rr_cVJ hG (st := [.int x3, .ref (ph (a0 + 18))]) (n := 2) (ci := 1) (rf := 1) (rl := 21) [.int x3, .int r8] dX1_treesTo_55 hf ka0 (by decide) rfl gX1_treesTo_X1_minorOf rfl (by decide +kernel) rfl ⟨by decide, by decide⟩ rfl (Nat.le_of_ble_eq_true rfl) (fun r9 M9 h9 => mX1_minorOf hN ph _ _ _ _ _ ka0 h9) (fun r11 M12 h10 hf => ?_)
        refine rr_last hG dX1_treesTo_58 (rm_kX1_18 hN ka0) hf (fun b13 hf => ?_)
        refine rr_bindM hf (fun M14 eM14 hf => ?_)
        exact rr_sub (lv2 := [(0, .ref (ph a0)), (1, .int a1), (2, .int x2), (3, .int x3)]) [0, 1, 2, 3] rfl (wX1_treesTo_L59 hN _ _ hG hR ka0 _ (ih) _ _ _ hf)
set_option maxHeartbeats 4000000 in
set_option maxRecDepth 100000 in
theorem mX1_treesTo {NC : Nat} (hN : 79 ≤ NC) (ph : Nat → Nat) (a0 : Nat) (a1 : Int32) (M : rm_M) (rho : Int64 × rm_M) (ka0 : rm_kq NC a0 (1, 0)) (hf : fX1_treesTo a0 a1 M = some rho) : rm_CJ yX1_treesTo wsX1_treesTo 2 49 [.ref (ph a0), .int a1] NC ph M rho := by
  refine rm_metJ (cc := cX1_treesTo) (maxL := 4) (by decide +kernel) rfl rfl (Nat.le_of_ble_eq_true rfl) rfl (fun G hG hR => ?_)
  unfold fX1_treesTo at hf
  refine rr_iconst hG (v := 1) dX1_treesTo_0 (by decide) ?_
  refine rr_aload_n hG dX1_treesTo_1 0 rfl rfl ?_
  refine rr_get hG 1 0 dX1_treesTo_2 ka0 (by decide) rfl tX1_treesTo_X1 (by decide) kX1_treesTo_33 rfl rfl ?_
  refine rr_ishl hG dX1_treesTo_5 ?_
  refine rr_iconst hG (v := 1) dX1_treesTo_6 (by decide) ?_
  refine rr_isub hG dX1_treesTo_7 ?_
  refine rr_iconst hG (v := 1) dX1_treesTo_8 (by decide) ?_
  refine rr_iload_n hG dX1_treesTo_9 1 rfl rfl ?_
  refine rr_ishl hG dX1_treesTo_10 ?_
  refine rr_iconst hG (v := (-1)) dX1_treesTo_11 (by decide) ?_
  refine rr_ixor hG dX1_treesTo_12 ?_
  refine rr_iand hG dX1_treesTo_13 ?_
  refine rr_bindI hf (fun v15 ev15 hf => ?_)
  refine rr_istore_n hG (lv2 := [(2, .int v15), (0, .ref (ph a0)), (1, .int a1)]) dX1_treesTo_14 rfl (by decide) rfl ?_
  refine rr_aload_n hG dX1_treesTo_15 1 rfl rfl ?_
  refine rr_get hG 1 11 (v := .ref (ph (a0 + 18))) dX1_treesTo_16 ka0 (by decide) rfl tX1_treesTo_X1 (by decide) kX1_treesTo_30 rfl rfl ?_
  refine rr_iconst hG (v := 0) dX1_treesTo_19 (by decide) ?_
  refine rr_lconst hG (v := 1) dX1_treesTo_20 (by decide) ?_
  refine rr_last hG dX1_treesTo_21 (rm_kX1_18 hN ka0) hf (fun b16 hf => ?_)
  refine rr_bindM hf (fun M17 eM17 hf => ?_)
  refine rr_iconst hG (v := 1) dX1_treesTo_22 (by decide) ?_
  refine rr_istore_n hG (lv2 := [(3, .int (1 : Int32)), (2, .int v15), (0, .ref (ph a0)), (1, .int a1)]) dX1_treesTo_23 rfl (by decide) rfl ?_
  exact rr_sub (lv2 := [(0, .ref (ph a0)), (1, .int a1), (2, .int v15), (3, .int (1 : Int32))]) [2, 3, 1, 0] rfl (wX1_treesTo_L24 hN _ _ hG hR ka0 _ _ _ _ hf)
/-! X1.growTrees -/
theorem tX1_growTrees_X1 : ∀ w ∈ u_ws RX1 TX1 12, w ∈ wsX1_growTrees := by decide +kernel
theorem kX1_growTrees_33 : Cond.fieldLink RX1 33 "RingPages$Net" "cells" "I" ∈ wsX1_growTrees := by decide +kernel
theorem kX1_growTrees_26 : Cond.fieldLink RX1 26 "RingPages$Net" "trees" "[J" ∈ wsX1_growTrees := by decide +kernel
set_option maxHeartbeats 4000000 in
set_option maxRecDepth 100000 in
theorem wX1_growTrees_L2 {G : rm_G} {NC : Nat} (hN : 79 ≤ NC) {ph : Nat → Nat} {rho : rm_M} (a0 : Nat) (hG : rm_k G NC ph cX1_growTrees RX1 wsX1_growTrees 2 3 72) (hR : rm_rV G NC ph rho) (ka0 : rm_kq NC a0 (1, 0))   : ∀ (n : Nat) (x1 : Int32) (M : rm_M), fX1_growTrees_L2 a0 n x1 M = some rho → rm_L G NC ph 2 2 [(0, .ref (ph a0)), (1, .int x1)] [] M := by
  intro n
  induction n with
  | zero => intro x1 M hf; rw [fX1_growTrees_L2] at hf; cases hf
  | succ n ih =>
    intro x1 M hf
    rw [fX1_growTrees_L2] at hf
    refine rr_iload_n hG dX1_growTrees_2 1 rfl rfl ?_
    refine rr_aload_n hG dX1_growTrees_3 0 rfl rfl ?_
    refine rr_get hG 1 0 dX1_growTrees_4 ka0 (by decide) rfl tX1_growTrees_X1 (by decide) kX1_growTrees_33 rfl rfl ?_
    refine rr_icmp_ge hG (tgt := 27) dX1_growTrees_7 (by decide) hf (fun c1 hf => ?_) (fun c1 hf => ?_)
    · exact rr_vret hG hR dX1_growTrees_27 hf
    · refine rr_aload_n hG dX1_growTrees_10 0 rfl rfl ?_
      refine rr_get hG 1 10 (v := .ref (ph (a0 + 17))) dX1_growTrees_11 ka0 (by decide) rfl tX1_growTrees_X1 (by decide) kX1_growTrees_26 rfl rfl ?_
      refine rr_iload_n hG dX1_growTrees_14 1 rfl rfl ?_
      refine rr_aload_n hG dX1_growTrees_15 0 rfl rfl ?_
      refine rr_iload_n hG dX1_growTrees_16 1 rfl rfl ?_
      refine rr_cVJ hG (st := [.int x1, .ref (ph (a0 + 17))]) (n := 1) (ci := 1) (rf := 2) (rl := 49) [.int x1] dX1_growTrees_17 hf ka0 (by decide) rfl gX1_growTrees_X1_treesTo rfl (by decide +kernel) rfl ⟨by decide, by decide⟩ rfl (Nat.le_of_ble_eq_true rfl) (fun r9 M9 h9 => mX1_treesTo hN ph _ _ _ _ ka0 h9) (fun r3 M4 h2 hf => ?_)
      refine rr_last hG dX1_growTrees_20 (rm_kX1_17 hN ka0) hf (fun b5 hf => ?_)
      refine rr_bindM hf (fun M6 eM6 hf => ?_)
      refine rr_iinc hG (v := x1 + (1 : Int32)) (lv2 := [(1, .int (x1 + (1 : Int32))), (0, .ref (ph a0))]) (k := 1) dX1_growTrees_21 rfl rfl (by decide) rfl ?_
      refine rr_goto hG (tgt := 2) dX1_growTrees_24 (by decide) ?_
      exact rr_sub (lv2 := [(0, .ref (ph a0)), (1, .int (x1 + (1 : Int32)))]) [1, 0] rfl (ih _ _ hf)
set_option maxHeartbeats 4000000 in
set_option maxRecDepth 100000 in
theorem mX1_growTrees {NC : Nat} (hN : 79 ≤ NC) (ph : Nat → Nat) (a0 : Nat) (M : rm_M) (rho : rm_M) (ka0 : rm_kq NC a0 (1, 0)) (hf : fX1_growTrees a0 M = some rho) : rm_CV yX1_growTrees wsX1_growTrees 3 72 [.ref (ph a0)] NC ph M rho := by
  refine rm_metV (cc := cX1_growTrees) (maxL := 2) (by decide +kernel) rfl rfl (Nat.le_of_ble_eq_true rfl) rfl (fun G hG hR => ?_)
  unfold fX1_growTrees at hf
  refine rr_iconst hG (v := 0) dX1_growTrees_0 (by decide) ?_
  refine rr_istore_n hG (lv2 := [(1, .int (0 : Int32)), (0, .ref (ph a0))]) dX1_growTrees_1 rfl (by decide) rfl ?_
  exact rr_sub (lv2 := [(0, .ref (ph a0)), (1, .int (0 : Int32))]) [1, 0] rfl (wX1_growTrees_L2 hN _ hG hR ka0 _ _ _ hf)
/-! X4.copyFrom -/
theorem tX4_copyFrom_X4 : ∀ w ∈ u_ws RX4 TX4 10, w ∈ wsX4_copyFrom := by decide +kernel
theorem kX4_copyFrom_9 : Cond.fieldLink RX4 9 "RingPages$State" "stay" "[I" ∈ wsX4_copyFrom := by decide +kernel
theorem kX4_copyFrom_37 : Cond.methodLink RX4 37 arraycopyName ∈ wsX4_copyFrom := by decide +kernel
theorem kX4_copyFrom_nat : Cond.native arraycopyName ∈ wsX4_copyFrom := by decide +kernel
theorem kX4_copyFrom_sta : Cond.static arraycopyName ∈ wsX4_copyFrom := by decide +kernel
theorem kX4_copyFrom_sys : Cond.initialized "java/lang/System" ∈ wsX4_copyFrom := by decide +kernel
theorem kX4_copyFrom_15 : Cond.fieldLink RX4 15 "RingPages$State" "area" "[I" ∈ wsX4_copyFrom := by decide +kernel
theorem kX4_copyFrom_18 : Cond.fieldLink RX4 18 "RingPages$State" "kind" "I" ∈ wsX4_copyFrom := by decide +kernel
theorem kX4_copyFrom_22 : Cond.fieldLink RX4 22 "RingPages$State" "value" "I" ∈ wsX4_copyFrom := by decide +kernel
theorem kX4_copyFrom_25 : Cond.fieldLink RX4 25 "RingPages$State" "cell" "I" ∈ wsX4_copyFrom := by decide +kernel
theorem kX4_copyFrom_43 : Cond.fieldLink RX4 43 "RingPages$State" "home" "I" ∈ wsX4_copyFrom := by decide +kernel
theorem kX4_copyFrom_46 : Cond.fieldLink RX4 46 "RingPages$State" "moves" "I" ∈ wsX4_copyFrom := by decide +kernel
theorem kX4_copyFrom_49 : Cond.fieldLink RX4 49 "RingPages$State" "ticks" "I" ∈ wsX4_copyFrom := by decide +kernel
theorem kX4_copyFrom_28 : Cond.fieldLink RX4 28 "RingPages$State" "updates" "I" ∈ wsX4_copyFrom := by decide +kernel
theorem kX4_copyFrom_31 : Cond.fieldLink RX4 31 "RingPages$State" "paged" "I" ∈ wsX4_copyFrom := by decide +kernel
set_option maxHeartbeats 4000000 in
set_option maxRecDepth 100000 in
theorem mX4_copyFrom {NC : Nat} (hN : 79 ≤ NC) (ph : Nat → Nat) (a0 : Nat) (a1 : Nat) (M : rm_M) (rho : rm_M) (ka0 : rm_kq NC a0 (4, 0)) (ka1 : rm_kq NC a1 (4, 0)) (hf : fX4_copyFrom a0 a1 M = some rho) : rm_CV yX4_copyFrom wsX4_copyFrom 1 40 [.ref (ph a0), .ref (ph a1)] NC ph M rho := by
  refine rm_metV (cc := cX4_copyFrom) (maxL := 2) (by decide +kernel) rfl rfl (Nat.le_of_ble_eq_true rfl) rfl (fun G hG hR => ?_)
  unfold fX4_copyFrom at hf
  refine rr_aload_n hG dX4_copyFrom_0 1 rfl rfl ?_
  refine rr_get hG 4 0 (v := .ref (ph (a1 + 1))) dX4_copyFrom_1 ka1 (by decide) rfl tX4_copyFrom_X4 (by decide) kX4_copyFrom_9 rfl rfl ?_
  refine rr_iconst hG (v := 0) dX4_copyFrom_4 (by decide) ?_
  refine rr_aload_n hG dX4_copyFrom_5 0 rfl rfl ?_
  refine rr_get hG 4 0 (v := .ref (ph (a0 + 1))) dX4_copyFrom_6 ka0 (by decide) rfl tX4_copyFrom_X4 (by decide) kX4_copyFrom_9 rfl rfl ?_
  refine rr_iconst hG (v := 0) dX4_copyFrom_9 (by decide) ?_
  refine rr_bipush hG (v := 6) dX4_copyFrom_10 (by decide) ?_
  refine rr_copy hG dX4_copyFrom_12 (rm_kX4_1 hN ka1) (rm_kX4_1 hN ka0) (by decide) (by decide) (by decide) (by decide) (by decide) kX4_copyFrom_37 kX4_copyFrom_nat kX4_copyFrom_sta kX4_copyFrom_sys (by decide) (Nat.le_of_ble_eq_true rfl) ?_
  refine rr_bindM hf (fun M1 eM1 hf => ?_)
  refine rr_aload_n hG dX4_copyFrom_15 1 rfl rfl ?_
  refine rr_get hG 4 1 (v := .ref (ph (a1 + 2))) dX4_copyFrom_16 ka1 (by decide) rfl tX4_copyFrom_X4 (by decide) kX4_copyFrom_15 rfl rfl ?_
  refine rr_iconst hG (v := 0) dX4_copyFrom_19 (by decide) ?_
  refine rr_aload_n hG dX4_copyFrom_20 0 rfl rfl ?_
  refine rr_get hG 4 1 (v := .ref (ph (a0 + 2))) dX4_copyFrom_21 ka0 (by decide) rfl tX4_copyFrom_X4 (by decide) kX4_copyFrom_15 rfl rfl ?_
  refine rr_iconst hG (v := 0) dX4_copyFrom_24 (by decide) ?_
  refine rr_bipush hG (v := 6) dX4_copyFrom_25 (by decide) ?_
  refine rr_copy hG dX4_copyFrom_27 (rm_kX4_2 hN ka1) (rm_kX4_2 hN ka0) (by decide) (by decide) (by decide) (by decide) (by decide) kX4_copyFrom_37 kX4_copyFrom_nat kX4_copyFrom_sta kX4_copyFrom_sys (by decide) (Nat.le_of_ble_eq_true rfl) ?_
  refine rr_bindM hf (fun M2 eM2 hf => ?_)
  refine rr_aload_n hG dX4_copyFrom_30 0 rfl rfl ?_
  refine rr_aload_n hG dX4_copyFrom_31 1 rfl rfl ?_
  refine rr_get hG 4 2 dX4_copyFrom_32 ka1 (by decide) rfl tX4_copyFrom_X4 (by decide) kX4_copyFrom_18 rfl rfl ?_
  refine rr_putI hG 4 2 dX4_copyFrom_35 ka0 (by decide) rfl tX4_copyFrom_X4 tyX4_ok nmX4 (by decide) kX4_copyFrom_18 rfl rfl rfl rfl rfl (Nat.le_of_ble_eq_true rfl) rfl ?_
  refine rr_bindM hf (fun M3 eM3 hf => ?_)
  refine rr_aload_n hG dX4_copyFrom_38 0 rfl rfl ?_
  refine rr_aload_n hG dX4_copyFrom_39 1 rfl rfl ?_
  refine rr_get hG 4 3 dX4_copyFrom_40 ka1 (by decide) rfl tX4_copyFrom_X4 (by decide) kX4_copyFrom_22 rfl rfl ?_
  refine rr_putI hG 4 3 dX4_copyFrom_43 ka0 (by decide) rfl tX4_copyFrom_X4 tyX4_ok nmX4 (by decide) kX4_copyFrom_22 rfl rfl rfl rfl rfl (Nat.le_of_ble_eq_true rfl) rfl ?_
  refine rr_bindM hf (fun M4 eM4 hf => ?_)
  refine rr_aload_n hG dX4_copyFrom_46 0 rfl rfl ?_
  refine rr_aload_n hG dX4_copyFrom_47 1 rfl rfl ?_
  refine rr_get hG 4 4 dX4_copyFrom_48 ka1 (by decide) rfl tX4_copyFrom_X4 (by decide) kX4_copyFrom_25 rfl rfl ?_
  refine rr_putI hG 4 4 dX4_copyFrom_51 ka0 (by decide) rfl tX4_copyFrom_X4 tyX4_ok nmX4 (by decide) kX4_copyFrom_25 rfl rfl rfl rfl rfl (Nat.le_of_ble_eq_true rfl) rfl ?_
  refine rr_bindM hf (fun M5 eM5 hf => ?_)
  refine rr_aload_n hG dX4_copyFrom_54 0 rfl rfl ?_
  refine rr_aload_n hG dX4_copyFrom_55 1 rfl rfl ?_
  refine rr_get hG 4 5 dX4_copyFrom_56 ka1 (by decide) rfl tX4_copyFrom_X4 (by decide) kX4_copyFrom_43 rfl rfl ?_
  refine rr_putI hG 4 5 dX4_copyFrom_59 ka0 (by decide) rfl tX4_copyFrom_X4 tyX4_ok nmX4 (by decide) kX4_copyFrom_43 rfl rfl rfl rfl rfl (Nat.le_of_ble_eq_true rfl) rfl ?_
  refine rr_bindM hf (fun M6 eM6 hf => ?_)
  refine rr_aload_n hG dX4_copyFrom_62 0 rfl rfl ?_
  refine rr_aload_n hG dX4_copyFrom_63 1 rfl rfl ?_
  refine rr_get hG 4 6 dX4_copyFrom_64 ka1 (by decide) rfl tX4_copyFrom_X4 (by decide) kX4_copyFrom_46 rfl rfl ?_
  refine rr_putI hG 4 6 dX4_copyFrom_67 ka0 (by decide) rfl tX4_copyFrom_X4 tyX4_ok nmX4 (by decide) kX4_copyFrom_46 rfl rfl rfl rfl rfl (Nat.le_of_ble_eq_true rfl) rfl ?_
  refine rr_bindM hf (fun M7 eM7 hf => ?_)
  refine rr_aload_n hG dX4_copyFrom_70 0 rfl rfl ?_
  refine rr_aload_n hG dX4_copyFrom_71 1 rfl rfl ?_
  refine rr_get hG 4 7 dX4_copyFrom_72 ka1 (by decide) rfl tX4_copyFrom_X4 (by decide) kX4_copyFrom_49 rfl rfl ?_
  refine rr_putI hG 4 7 dX4_copyFrom_75 ka0 (by decide) rfl tX4_copyFrom_X4 tyX4_ok nmX4 (by decide) kX4_copyFrom_49 rfl rfl rfl rfl rfl (Nat.le_of_ble_eq_true rfl) rfl ?_
  refine rr_bindM hf (fun M8 eM8 hf => ?_)
  refine rr_aload_n hG dX4_copyFrom_78 0 rfl rfl ?_
  refine rr_aload_n hG dX4_copyFrom_79 1 rfl rfl ?_
  refine rr_get hG 4 8 dX4_copyFrom_80 ka1 (by decide) rfl tX4_copyFrom_X4 (by decide) kX4_copyFrom_28 rfl rfl ?_
  refine rr_putI hG 4 8 dX4_copyFrom_83 ka0 (by decide) rfl tX4_copyFrom_X4 tyX4_ok nmX4 (by decide) kX4_copyFrom_28 rfl rfl rfl rfl rfl (Nat.le_of_ble_eq_true rfl) rfl ?_
  refine rr_bindM hf (fun M9 eM9 hf => ?_)
  refine rr_aload_n hG dX4_copyFrom_86 0 rfl rfl ?_
  refine rr_aload_n hG dX4_copyFrom_87 1 rfl rfl ?_
  refine rr_get hG 4 9 dX4_copyFrom_88 ka1 (by decide) rfl tX4_copyFrom_X4 (by decide) kX4_copyFrom_31 rfl rfl ?_
  refine rr_putI hG 4 9 dX4_copyFrom_91 ka0 (by decide) rfl tX4_copyFrom_X4 tyX4_ok nmX4 (by decide) kX4_copyFrom_31 rfl rfl rfl rfl rfl (Nat.le_of_ble_eq_true rfl) rfl ?_
  refine rr_bindM hf (fun M10 eM10 hf => ?_)
  exact rr_vret hG hR dX4_copyFrom_94 hf
/-! X2.keep -/
theorem tX2_keep_X2 : ∀ w ∈ u_ws RX2 TX2 3, w ∈ wsX2_keep := by decide +kernel
theorem kX2_keep_18 : Cond.fieldLink RX2 18 "RingPages$Past" "next" "I" ∈ wsX2_keep := by decide +kernel
theorem kX2_keep_26 : Cond.fieldLink RX2 26 "RingPages$Past" "held" "I" ∈ wsX2_keep := by decide +kernel
theorem kX2_keep_29 : Cond.methodLink RX2 29 Lib.Math.min.name ∈ wsX2_keep := by decide +kernel
theorem kX2_keep_stamin : Cond.static Lib.Math.min.name ∈ wsX2_keep := by decide +kernel
theorem kX2_keep_math : Cond.initialized "java/lang/Math" ∈ wsX2_keep := by decide +kernel
theorem kX2_keep_codemin : Cond.code Lib.Math.min.name Lib.Math.min.code 2 (some .int) ∈ wsX2_keep := by decide +kernel
theorem kX2_keep_11 : Cond.fieldLink RX2 11 "RingPages$Past" "kept" "[LRingPages$State;" ∈ wsX2_keep := by decide +kernel
set_option maxHeartbeats 4000000 in
set_option maxRecDepth 100000 in
theorem wX2_keep_L35 {G : rm_G} {NC : Nat} (hN : 79 ≤ NC) {ph : Nat → Nat} {rho : rm_M} (a1 : Nat) (hG : rm_k G NC ph cX2_keep RX2 wsX2_keep 2 2 61) (hR : rm_rV G NC ph rho) (ka1 : rm_kq NC a1 (4, 0))   : ∀ (s1 : Int32) (M : rm_M), fX2_keep_L35 a1 s1 M = some rho → rm_L G NC ph 2 35 [(0, .ref (ph 4))] [.int s1, .ref (ph 4)] M := by
  intro s1 M hf
  unfold fX2_keep_L35 at hf
  refine rr_putI hG 2 1 dX2_keep_35 (rm_c hN rfl (by decide)) (by decide) rfl tX2_keep_X2 tyX2_ok nmX2 (by decide) kX2_keep_18 rfl rfl rfl rfl rfl (Nat.le_of_ble_eq_true rfl) rfl ?_
  refine rr_bindM hf (fun M1 eM1 hf => ?_)
  refine rr_aload_n hG dX2_keep_38 0 rfl rfl ?_
  refine rr_aload_n hG dX2_keep_39 0 rfl rfl ?_
  refine rr_get hG 2 2 dX2_keep_40 (rm_c hN rfl (by decide)) (by decide) rfl tX2_keep_X2 (by decide) kX2_keep_26 rfl rfl ?_
  refine rr_iconst hG (v := 1) dX2_keep_43 (by decide) ?_
  refine rr_iadd hG dX2_keep_44 ?_
  refine rr_bipush hG (v := 6) dX2_keep_45 (by decide) ?_
  refine rr_min hG dX2_keep_47 kX2_keep_29 kX2_keep_stamin kX2_keep_math kX2_keep_codemin (by decide) (Nat.le_of_ble_eq_true rfl) ?_
  refine rr_putI hG 2 2 dX2_keep_50 (rm_c hN rfl (by decide)) (by decide) rfl tX2_keep_X2 tyX2_ok nmX2 (by decide) kX2_keep_26 rfl rfl rfl rfl rfl (Nat.le_of_ble_eq_true rfl) rfl ?_
  refine rr_bindM hf (fun M2 eM2 hf => ?_)
  exact rr_vret hG hR dX2_keep_53 hf
set_option maxHeartbeats 4000000 in
set_option maxRecDepth 100000 in
theorem mX2_keep {NC : Nat} (hN : 79 ≤ NC) (ph : Nat → Nat) (a1 : Nat) (M : rm_M) (rho : rm_M) (ka1 : rm_kq NC a1 (4, 0)) (hf : fX2_keep a1 M = some rho) : rm_CV yX2_keep wsX2_keep 2 61 [.ref (ph 4), .ref (ph a1)] NC ph M rho := by
  refine rm_metV (cc := cX2_keep) (maxL := 2) (by decide +kernel) rfl rfl (Nat.le_of_ble_eq_true rfl) rfl (fun G hG hR => ?_)
  unfold fX2_keep at hf
  refine rr_aload_n hG dX2_keep_0 0 rfl rfl ?_
  refine rr_get hG 2 0 (v := .ref (ph 5)) dX2_keep_1 (rm_c hN rfl (by decide)) (by decide) rfl tX2_keep_X2 (by decide) kX2_keep_11 rfl rfl ?_
  refine rr_aload_n hG dX2_keep_4 0 rfl rfl ?_
  refine rr_get hG 2 1 dX2_keep_5 (rm_c hN rfl (by decide)) (by decide) rfl tX2_keep_X2 (by decide) kX2_keep_18 rfl rfl ?_
  refine rr_aldS hG dX2_keep_8 (rm_c hN rfl (by decide)) hf (fun b3 hf => ?_)
  refine rr_aload_n hG dX2_keep_9 1 rfl rfl ?_
  refine rr_cVV hG (st := []) (n := 1) (ci := 4) (rf := 1) (rl := 40) [.ref (ph a1)] dX2_keep_10 hf (rm_kS hN b3) (by decide) rfl gX2_keep_X4_copyFrom rfl (by decide +kernel) rfl ⟨by decide, by decide⟩ rfl (Nat.le_of_ble_eq_true rfl) (fun M9 h9 => mX4_copyFrom hN ph _ _ _ _ (rm_kS hN b3) ka1 h9) (fun M5 h4 hf => ?_)
  refine rr_aload_n hG dX2_keep_13 0 rfl rfl ?_
  refine rr_aload_n hG dX2_keep_14 0 rfl rfl ?_
  refine rr_get hG 2 1 dX2_keep_15 (rm_c hN rfl (by decide)) (by decide) rfl tX2_keep_X2 (by decide) kX2_keep_18 rfl rfl ?_
  refine rr_iconst hG (v := 1) dX2_keep_18 (by decide) ?_
  refine rr_iadd hG dX2_keep_19 ?_
  refine rr_bipush hG (v := 6) dX2_keep_20 (by decide) ?_
  refine rr_icmp_ge hG (tgt := 34) dX2_keep_22 (by decide) hf (fun c6 hf => ?_) (fun c6 hf => ?_)
  · refine rr_iconst hG (v := 0) dX2_keep_34 (by decide) ?_
    exact rr_sub (lv2 := [(0, .ref (ph 4))]) [0] rfl (wX2_keep_L35 hN _ hG hR ka1 _ _ hf)
  · refine rr_aload_n hG dX2_keep_25 0 rfl rfl ?_
    refine rr_get hG 2 1 dX2_keep_26 (rm_c hN rfl (by decide)) (by decide) rfl tX2_keep_X2 (by decide) kX2_keep_18 rfl rfl ?_
    refine rr_iconst hG (v := 1) dX2_keep_29 (by decide) ?_
    refine rr_iadd hG dX2_keep_30 ?_
    refine rr_goto hG (tgt := 35) dX2_keep_31 (by decide) ?_
    exact rr_sub (lv2 := [(0, .ref (ph 4))]) [0] rfl (wX2_keep_L35 hN _ hG hR ka1 _ _ hf)
