/-! X8.chance -/
theorem tX8_chance_X8 : ∀ w ∈ u_ws RX8 TX8 26, w ∈ wsX8_chance := by decide +kernel
theorem kX8_chance_184 : Cond.constantLong RX8 184 (-1) ∈ wsX8_chance := by decide +kernel
theorem kX8_chance_40 : Cond.fieldLink RX8 40 "RingPagesModel" "trees" "[J" ∈ wsX8_chance := by decide +kernel
set_option maxHeartbeats 4000000 in
set_option maxRecDepth 100000 in
theorem mX8_chance (ph : Nat → Nat) (a1 : Int32) (a2 : Int32) (M : rm_M) (rho : Int64 × rm_M)  (hf : fX8_chance a1 a2 M = some rho) : rm_CJ yX8_chance wsX8_chance 3 67 [.ref (ph 79), .int a1, .int a2] 96 ph M rho := by
  refine rm_metJ (cc := cX8_chance) (maxL := 3) (by decide +kernel) rfl rfl (Nat.le_of_ble_eq_true rfl) rfl (fun G hG hR => ?_)
  unfold fX8_chance at hf
  refine rr_aload_n hG dX8_chance_0 0 rfl rfl ?_
  refine rr_iload_n hG dX8_chance_1 1 rfl rfl ?_
  refine rr_cVI hG (st := []) (n := 1) (ci := 8) (rf := 1) (rl := 22) [.int a1] dX8_chance_2 hf ⟨rfl, by decide⟩ (by decide) rfl gX8_chance_X8_isCell rfl (by decide +kernel) rfl ⟨by decide, by decide⟩ rfl (Nat.le_of_ble_eq_true rfl) (fun r9 M9 h9 => mX8_isCell ph _ _ _ h9) (fun r2 M3 h1 hf => ?_)
  refine rr_if_eq hG (tgt := 17) dX8_chance_5 (by decide) hf (fun c4 hf => ?_) (fun c4 hf => ?_)
  · refine rr_ldc2 hG (v := (-1)) dX8_chance_17 kX8_chance_184 ?_
    exact rr_lret hG hR dX8_chance_20 hf
  · refine rr_iload_n hG dX8_chance_8 2 rfl rfl ?_
    refine rr_iconst hG (v := 0) dX8_chance_9 (by decide) ?_
    refine rr_iconst hG (v := 1) dX8_chance_10 (by decide) ?_
    refine rr_cSI hG (st := []) (n := 3) (rf := 0) (rl := 0) [.int a2, .int (0 : Int32), .int (1 : Int32)] dX8_chance_11 hf gX8_chance_X8_isIn rfl (by decide +kernel) rfl ⟨by decide, by decide⟩ rfl (Nat.le_of_ble_eq_true rfl) (fun r9 M9 h9 => mX8_isIn ph _ _ _ _ _ h9) (fun r6 M7 h5 hf => ?_)
    refine rr_if_ne hG (tgt := 21) dX8_chance_14 (by decide) hf (fun c8 hf => ?_) (fun c8 hf => ?_)
    · refine rr_aload_n hG dX8_chance_21 0 rfl rfl ?_
      refine rr_cVV hG (st := []) (n := 0) (ci := 8) (rf := 1) (rl := 26) [] dX8_chance_22 hf ⟨rfl, by decide⟩ (by decide) rfl gX8_chance_X8_grows rfl (by decide +kernel) rfl ⟨by decide, by decide⟩ rfl (Nat.le_of_ble_eq_true rfl) (fun M9 h9 => mX8_grows ph _ _ h9) (fun M10 h9 hf => ?_)
      refine rr_aload_n hG dX8_chance_25 0 rfl rfl ?_
      refine rr_get hG 8 18 (v := .ref (ph 90)) dX8_chance_26 ⟨rfl, by decide⟩ (by decide) rfl tX8_chance_X8 (by decide) kX8_chance_40 rfl rfl ?_
      refine rr_iload_n hG dX8_chance_29 1 rfl rfl ?_
      refine rr_lald hG dX8_chance_30 ⟨rfl, by decide⟩ hf (fun b11 hf => ?_)
      refine rr_aload_n hG dX8_chance_31 0 rfl rfl ?_
      refine rr_iload_n hG dX8_chance_32 1 rfl rfl ?_
      refine rr_cVI hG (st := [.long (M10.2.1 90 (a1).toNatClampNeg)]) (n := 1) (ci := 8) (rf := 1) (rl := 23) [.int a1] dX8_chance_33 hf ⟨rfl, by decide⟩ (by decide) rfl gX8_chance_X8_sum rfl (by decide +kernel) rfl ⟨by decide, by decide⟩ rfl (Nat.le_of_ble_eq_true rfl) (fun r9 M9 h9 => mX8_sum ph _ _ _ h9) (fun r13 M14 h12 hf => ?_)
      refine rr_i2l hG dX8_chance_36 ?_
      refine rr_lmul hG dX8_chance_37 ?_
      refine rr_aload_n hG dX8_chance_38 0 rfl rfl ?_
      refine rr_cVJ hG (st := [.long ((M10.2.1 90 (a1).toNatClampNeg) * ((r13).toInt64))]) (n := 0) (ci := 8) (rf := 2) (rl := 44) [] dX8_chance_39 hf ⟨rfl, by decide⟩ (by decide) rfl gX8_chance_X8_below rfl (by decide +kernel) rfl ⟨by decide, by decide⟩ rfl (Nat.le_of_ble_eq_true rfl) (fun r9 M9 h9 => mX8_below ph _ _ h9) (fun r16 M17 h15 hf => ?_)
      refine rr_iload_n hG dX8_chance_42 2 rfl rfl ?_
      refine rr_cSJ hG (st := []) (n := 3) (rf := 1) (rl := 29) [.long ((M10.2.1 90 (a1).toNatClampNeg) * ((r13).toInt64)), .long r16, .int a2] dX8_chance_43 hf gX8_chance_X8_term rfl (by decide +kernel) rfl ⟨by decide, by decide⟩ rfl (Nat.le_of_ble_eq_true rfl) (fun r9 M9 h9 => mX8_term ph _ _ _ _ _ h9) (fun r19 M20 h18 hf => ?_)
      exact rr_lret hG hR dX8_chance_46 hf
    · refine rr_ldc2 hG (v := (-1)) dX8_chance_17 kX8_chance_184 ?_
      exact rr_lret hG hR dX8_chance_20 hf
/-! X8.crossing -/
theorem tX8_crossing_X8 : ∀ w ∈ u_ws RX8 TX8 26, w ∈ wsX8_crossing := by decide +kernel
theorem kX8_crossing_40 : Cond.fieldLink RX8 40 "RingPagesModel" "trees" "[J" ∈ wsX8_crossing := by decide +kernel
theorem kX8_crossing_13 : Cond.fieldLink RX8 13 "RingPagesModel" "weight" "[I" ∈ wsX8_crossing := by decide +kernel
theorem kX8_crossing_76 : Cond.fieldLink RX8 76 "RingPagesModel" "cells" "I" ∈ wsX8_crossing := by decide +kernel
set_option maxHeartbeats 4000000 in
set_option maxRecDepth 100000 in
theorem wX8_crossing_L74 {G : rm_G} {ph : Nat → Nat} {rho : Int64 × rm_M} (a1 : Nat) (a2 : Int32) (a3 : Int32) (hG : rm_k G 96 ph cX8_crossing RX8 wsX8_crossing 8 0 0) (hR : rm_rJ G 96 ph rho) (ka1 : rm_kq 96 a1 (9, (rm_kd a1).2)) (q6 : Int64 → Int32 → rm_M → Option (Int64 × rm_M)) (q18 : Int64 → Int32 → Int32 → rm_M → Option (Int64 × rm_M)) (hq6 : ∀ (x4 : Int64) (x6 : Int32) (M : rm_M), q6 x4 x6 M = some rho → rm_L G 96 ph 8 6 [(0, .ref (ph 79)), (1, .ref (ph a1)), (2, .int a2), (3, .int a3), (4, .long x4), (6, .int x6)] [] M) (hq18 : ∀ (x4 : Int64) (x6 : Int32) (x7 : Int32) (M : rm_M), q18 x4 x6 x7 M = some rho → rm_L G 96 ph 8 18 [(0, .ref (ph 79)), (1, .ref (ph a1)), (2, .int a2), (3, .int a3), (4, .long x4), (6, .int x6), (7, .int x7)] [] M) : ∀ (x6 : Int32) (x7 : Int32) (s0 : Int64) (s1 : Int64) (M : rm_M), fX8_crossing_L74 a1 a2 a3 q6 q18 x6 x7 s0 s1 M = some rho → rm_L G 96 ph 8 74 [(0, .ref (ph 79)), (1, .ref (ph a1)), (2, .int a2), (3, .int a3), (6, .int x6), (7, .int x7)] [.long s1, .long s0] M := by
  intro x6 x7 s0 s1 M hf
  unfold fX8_crossing_L74 at hf
  refine rr_ladd hG dX8_crossing_74 ?_
  refine rr_bindJ hf (fun v1 ev1 hf => ?_)
  refine rr_lstore hG (lv2 := [(4, .long v1), (0, .ref (ph 79)), (1, .ref (ph a1)), (2, .int a2), (3, .int a3), (6, .int x6), (7, .int x7)]) dX8_crossing_75 (by decide) rfl ?_
  refine rr_iinc hG (v := x7 + (1 : Int32)) (lv2 := [(7, .int (x7 + (1 : Int32))), (4, .long v1), (0, .ref (ph 79)), (1, .ref (ph a1)), (2, .int a2), (3, .int a3), (6, .int x6)]) (k := 6) dX8_crossing_77 rfl rfl (by decide) rfl ?_
  refine rr_goto hG (tgt := 18) dX8_crossing_80 (by decide) ?_
  exact rr_sub (lv2 := [(0, .ref (ph 79)), (1, .ref (ph a1)), (2, .int a2), (3, .int a3), (4, .long v1), (6, .int x6), (7, .int (x7 + (1 : Int32)))]) [2, 3, 4, 5, 1, 6, 0] rfl (hq18 _ _ _ _ hf)
set_option maxHeartbeats 4000000 in
set_option maxRecDepth 100000 in
theorem wX8_crossing_L48 {G : rm_G} {ph : Nat → Nat} {rho : Int64 × rm_M} (a1 : Nat) (a2 : Int32) (a3 : Int32) (hG : rm_k G 96 ph cX8_crossing RX8 wsX8_crossing 8 0 0) (hR : rm_rJ G 96 ph rho) (ka1 : rm_kq 96 a1 (9, (rm_kd a1).2)) (q6 : Int64 → Int32 → rm_M → Option (Int64 × rm_M)) (q18 : Int64 → Int32 → Int32 → rm_M → Option (Int64 × rm_M)) (hq6 : ∀ (x4 : Int64) (x6 : Int32) (M : rm_M), q6 x4 x6 M = some rho → rm_L G 96 ph 8 6 [(0, .ref (ph 79)), (1, .ref (ph a1)), (2, .int a2), (3, .int a3), (4, .long x4), (6, .int x6)] [] M) (hq18 : ∀ (x4 : Int64) (x6 : Int32) (x7 : Int32) (M : rm_M), q18 x4 x6 x7 M = some rho → rm_L G 96 ph 8 18 [(0, .ref (ph 79)), (1, .ref (ph a1)), (2, .int a2), (3, .int a3), (4, .long x4), (6, .int x6), (7, .int x7)] [] M) : ∀ (x6 : Int32) (x7 : Int32) (s0 : Int64) (M : rm_M), fX8_crossing_L48 a1 a2 a3 q6 q18 x6 x7 s0 M = some rho → rm_L G 96 ph 8 48 [(0, .ref (ph 79)), (1, .ref (ph a1)), (2, .int a2), (3, .int a3), (6, .int x6), (7, .int x7)] [.long s0] M := by
  intro x6 x7 s0 M hf
  unfold fX8_crossing_L48 at hf
  refine rr_aload_n hG dX8_crossing_48 0 rfl rfl ?_
  refine rr_get hG 8 18 (v := .ref (ph 90)) dX8_crossing_49 ⟨rfl, by decide⟩ (by decide) rfl tX8_crossing_X8 (by decide) kX8_crossing_40 rfl rfl ?_
  refine rr_iload hG dX8_crossing_52 4 rfl ?_
  refine rr_lald hG dX8_crossing_54 ⟨rfl, by decide⟩ hf (fun b2 hf => ?_)
  refine rr_aload_n hG dX8_crossing_55 0 rfl rfl ?_
  refine rr_get hG 8 4 (v := .ref (ph 81)) dX8_crossing_56 ⟨rfl, by decide⟩ (by decide) rfl tX8_crossing_X8 (by decide) kX8_crossing_13 rfl rfl ?_
  refine rr_bipush hG (v := 6) dX8_crossing_59 (by decide) ?_
  refine rr_iload hG dX8_crossing_61 4 rfl ?_
  refine rr_imul hG dX8_crossing_63 ?_
  refine rr_iload hG dX8_crossing_64 5 rfl ?_
  refine rr_iadd hG dX8_crossing_66 ?_
  refine rr_iald hG dX8_crossing_67 ⟨rfl, by decide⟩ hf (fun b3 hf => ?_)
  refine rr_i2l hG dX8_crossing_68 ?_
  refine rr_lmul hG dX8_crossing_69 ?_
  refine rr_goto hG (tgt := 74) dX8_crossing_70 (by decide) ?_
  exact rr_sub (lv2 := [(0, .ref (ph 79)), (1, .ref (ph a1)), (2, .int a2), (3, .int a3), (6, .int x6), (7, .int x7)]) [0, 1, 2, 3, 4, 5] rfl (wX8_crossing_L74 _ _ _ hG hR ka1 _ _ (hq6) (hq18) _ _ _ _ _ hf)
set_option maxHeartbeats 4000000 in
set_option maxRecDepth 100000 in
theorem wX8_crossing_L18 {G : rm_G} {ph : Nat → Nat} {rho : Int64 × rm_M} (a1 : Nat) (a2 : Int32) (a3 : Int32) (hG : rm_k G 96 ph cX8_crossing RX8 wsX8_crossing 8 0 0) (hR : rm_rJ G 96 ph rho) (ka1 : rm_kq 96 a1 (9, (rm_kd a1).2)) (q6 : Int64 → Int32 → rm_M → Option (Int64 × rm_M)) (hq6 : ∀ (x4 : Int64) (x6 : Int32) (M : rm_M), q6 x4 x6 M = some rho → rm_L G 96 ph 8 6 [(0, .ref (ph 79)), (1, .ref (ph a1)), (2, .int a2), (3, .int a3), (4, .long x4), (6, .int x6)] [] M) : ∀ (n : Nat) (x4 : Int64) (x6 : Int32) (x7 : Int32) (M : rm_M), fX8_crossing_L18 a1 a2 a3 q6 n x4 x6 x7 M = some rho → rm_L G 96 ph 8 18 [(0, .ref (ph 79)), (1, .ref (ph a1)), (2, .int a2), (3, .int a3), (4, .long x4), (6, .int x6), (7, .int x7)] [] M := by
  intro n
  induction n with
  | zero => intro x4 x6 x7 M hf; rw [fX8_crossing_L18] at hf; cases hf
  | succ n ih =>
    intro x4 x6 x7 M hf
    rw [fX8_crossing_L18] at hf
    refine rr_iload hG dX8_crossing_18 6 rfl ?_
    refine rr_aload_n hG dX8_crossing_20 0 rfl rfl ?_
    refine rr_get hG 8 2 dX8_crossing_21 ⟨rfl, by decide⟩ (by decide) rfl tX8_crossing_X8 (by decide) kX8_crossing_76 rfl rfl ?_
    refine rr_icmp_ge hG (tgt := 83) dX8_crossing_24 (by decide) hf (fun c4 hf => ?_) (fun c4 hf => ?_)
    · refine rr_iinc hG (v := x6 + (1 : Int32)) (lv2 := [(6, .int (x6 + (1 : Int32))), (0, .ref (ph 79)), (1, .ref (ph a1)), (2, .int a2), (3, .int a3), (4, .long x4), (7, .int x7)]) (k := 5) dX8_crossing_83 rfl rfl (by decide) rfl ?_
      refine rr_goto hG (tgt := 6) dX8_crossing_86 (by decide) ?_
      exact rr_sub (lv2 := [(0, .ref (ph 79)), (1, .ref (ph a1)), (2, .int a2), (3, .int a3), (4, .long x4), (6, .int (x6 + (1 : Int32)))]) [1, 2, 3, 4, 5, 0] rfl (hq6 _ _ _ hf)
    · refine rr_lload hG dX8_crossing_27 4 rfl ?_
      refine rr_iload_n hG dX8_crossing_29 3 rfl rfl ?_
      refine rr_if_ne hG (tgt := 48) dX8_crossing_30 (by decide) hf (fun c5 hf => ?_) (fun c5 hf => ?_)
      · exact rr_sub (lv2 := [(0, .ref (ph 79)), (1, .ref (ph a1)), (2, .int a2), (3, .int a3), (6, .int x6), (7, .int x7)]) [0, 1, 2, 3, 5, 6] rfl (wX8_crossing_L48 _ _ _ hG hR ka1 _ _ (hq6) (ih) _ _ _ _ hf)
      · refine rr_aload_n hG dX8_crossing_33 1 rfl rfl ?_
        refine rr_iload_n hG dX8_crossing_34 2 rfl rfl ?_
        refine rr_iload hG dX8_crossing_35 5 rfl ?_
        refine rr_iadd hG dX8_crossing_37 ?_
        refine rr_iald hG dX8_crossing_38 ka1 hf (fun b6 hf => ?_)
        refine rr_aload_n hG dX8_crossing_39 1 rfl rfl ?_
        refine rr_iload_n hG dX8_crossing_40 2 rfl rfl ?_
        refine rr_iload hG dX8_crossing_41 6 rfl ?_
        refine rr_iadd hG dX8_crossing_43 ?_
        refine rr_iald hG dX8_crossing_44 ka1 hf (fun b7 hf => ?_)
        refine rr_icmp_eq hG (tgt := 73) dX8_crossing_45 (by decide) hf (fun c8 hf => ?_) (fun c8 hf => ?_)
        · refine rr_lconst hG (v := 0) dX8_crossing_73 (by decide) ?_
          exact rr_sub (lv2 := [(0, .ref (ph 79)), (1, .ref (ph a1)), (2, .int a2), (3, .int a3), (6, .int x6), (7, .int x7)]) [0, 1, 2, 3, 5, 6] rfl (wX8_crossing_L74 _ _ _ hG hR ka1 _ _ (hq6) (ih) _ _ _ _ _ hf)
        · exact rr_sub (lv2 := [(0, .ref (ph 79)), (1, .ref (ph a1)), (2, .int a2), (3, .int a3), (6, .int x6), (7, .int x7)]) [0, 1, 2, 3, 5, 6] rfl (wX8_crossing_L48 _ _ _ hG hR ka1 _ _ (hq6) (ih) _ _ _ _ hf)
set_option maxHeartbeats 4000000 in
set_option maxRecDepth 100000 in
theorem wX8_crossing_L6 {G : rm_G} {ph : Nat → Nat} {rho : Int64 × rm_M} (a1 : Nat) (a2 : Int32) (a3 : Int32) (hG : rm_k G 96 ph cX8_crossing RX8 wsX8_crossing 8 0 0) (hR : rm_rJ G 96 ph rho) (ka1 : rm_kq 96 a1 (9, (rm_kd a1).2))   : ∀ (n : Nat) (x4 : Int64) (x6 : Int32) (M : rm_M), fX8_crossing_L6 a1 a2 a3 n x4 x6 M = some rho → rm_L G 96 ph 8 6 [(0, .ref (ph 79)), (1, .ref (ph a1)), (2, .int a2), (3, .int a3), (4, .long x4), (6, .int x6)] [] M := by
  intro n
  induction n with
  | zero => intro x4 x6 M hf; rw [fX8_crossing_L6] at hf; cases hf
  | succ n ih =>
    intro x4 x6 M hf
    rw [fX8_crossing_L6] at hf
    refine rr_iload hG dX8_crossing_6 5 rfl ?_
    refine rr_aload_n hG dX8_crossing_8 0 rfl rfl ?_
    refine rr_get hG 8 2 dX8_crossing_9 ⟨rfl, by decide⟩ (by decide) rfl tX8_crossing_X8 (by decide) kX8_crossing_76 rfl rfl ?_
    refine rr_icmp_ge hG (tgt := 89) dX8_crossing_12 (by decide) hf (fun c9 hf => ?_) (fun c9 hf => ?_)
    · refine rr_lload hG dX8_crossing_89 4 rfl ?_
      exact rr_lret hG hR dX8_crossing_91 hf
    · refine rr_iconst hG (v := 0) dX8_crossing_15 (by decide) ?_
      refine rr_istore hG (lv2 := [(7, .int (0 : Int32)), (0, .ref (ph 79)), (1, .ref (ph a1)), (2, .int a2), (3, .int a3), (4, .long x4), (6, .int x6)]) dX8_crossing_16 (by decide) rfl ?_
      exact rr_sub (lv2 := [(0, .ref (ph 79)), (1, .ref (ph a1)), (2, .int a2), (3, .int a3), (4, .long x4), (6, .int x6), (7, .int (0 : Int32))]) [1, 2, 3, 4, 5, 6, 0] rfl (wX8_crossing_L18 _ _ _ hG hR ka1 _ (ih) _ _ _ _ _ hf)
set_option maxHeartbeats 4000000 in
set_option maxRecDepth 100000 in
theorem mX8_crossing (ph : Nat → Nat) (a1 : Nat) (a2 : Int32) (a3 : Int32) (M : rm_M) (rho : Int64 × rm_M) (ka1 : rm_kq 96 a1 (9, (rm_kd a1).2)) (hf : fX8_crossing a1 a2 a3 M = some rho) : rm_CJ yX8_crossing wsX8_crossing 0 0 [.ref (ph 79), .ref (ph a1), .int a2, .int a3] 96 ph M rho := by
  refine rm_metJ (cc := cX8_crossing) (maxL := 8) (by decide +kernel) rfl rfl (Nat.le_of_ble_eq_true rfl) rfl (fun G hG hR => ?_)
  unfold fX8_crossing at hf
  refine rr_lconst hG (v := 0) dX8_crossing_0 (by decide) ?_
  refine rr_lstore hG (lv2 := [(4, .long (0 : Int64)), (0, .ref (ph 79)), (1, .ref (ph a1)), (2, .int a2), (3, .int a3)]) dX8_crossing_1 (by decide) rfl ?_
  refine rr_iconst hG (v := 0) dX8_crossing_3 (by decide) ?_
  refine rr_istore hG (lv2 := [(6, .int (0 : Int32)), (4, .long (0 : Int64)), (0, .ref (ph 79)), (1, .ref (ph a1)), (2, .int a2), (3, .int a3)]) dX8_crossing_4 (by decide) rfl ?_
  exact rr_sub (lv2 := [(0, .ref (ph 79)), (1, .ref (ph a1)), (2, .int a2), (3, .int a3), (4, .long (0 : Int64)), (6, .int (0 : Int32))]) [2, 3, 4, 5, 1, 0] rfl (wX8_crossing_L6 _ _ _ hG hR ka1 _ _ _ _ hf)
/-! X8.expense -/
theorem tX8_expense_X8 : ∀ w ∈ u_ws RX8 TX8 26, w ∈ wsX8_expense := by decide +kernel
theorem kX8_expense_76 : Cond.fieldLink RX8 76 "RingPagesModel" "cells" "I" ∈ wsX8_expense := by decide +kernel
theorem kX8_expense_40 : Cond.fieldLink RX8 40 "RingPagesModel" "trees" "[J" ∈ wsX8_expense := by decide +kernel
theorem kX8_expense_16 : Cond.fieldLink RX8 16 "RingPagesModel" "price" "[I" ∈ wsX8_expense := by decide +kernel
theorem kX8_expense_197 : Cond.constantLong RX8 197 (100) ∈ wsX8_expense := by decide +kernel
set_option maxHeartbeats 4000000 in
set_option maxRecDepth 100000 in
theorem wX8_expense_L95 {G : rm_G} {ph : Nat → Nat} {rho : Int64 × rm_M} (a1 : Nat) (a2 : Int32) (hG : rm_k G 96 ph cX8_expense RX8 wsX8_expense 7 2 44) (hR : rm_rJ G 96 ph rho) (ka1 : rm_kq 96 a1 (9, (rm_kd a1).2)) (q23 : Int64 → Int32 → rm_M → Option (Int64 × rm_M)) (q35 : Int64 → Int32 → Int32 → rm_M → Option (Int64 × rm_M)) (hq23 : ∀ (x3 : Int64) (x5 : Int32) (M : rm_M), q23 x3 x5 M = some rho → rm_L G 96 ph 7 23 [(0, .ref (ph 79)), (1, .ref (ph a1)), (2, .int a2), (3, .long x3), (5, .int x5)] [] M) (hq35 : ∀ (x3 : Int64) (x5 : Int32) (x6 : Int32) (M : rm_M), q35 x3 x5 x6 M = some rho → rm_L G 96 ph 7 35 [(0, .ref (ph 79)), (1, .ref (ph a1)), (2, .int a2), (3, .long x3), (5, .int x5), (6, .int x6)] [] M) : ∀ (x5 : Int32) (x6 : Int32) (s0 : Int64) (s1 : Int64) (M : rm_M), fX8_expense_L95 a1 a2 q23 q35 x5 x6 s0 s1 M = some rho → rm_L G 96 ph 7 95 [(0, .ref (ph 79)), (1, .ref (ph a1)), (2, .int a2), (5, .int x5), (6, .int x6)] [.long s1, .long s0] M := by
  intro x5 x6 s0 s1 M hf
  unfold fX8_expense_L95 at hf
  refine rr_ladd hG dX8_expense_95 ?_
  refine rr_bindJ hf (fun v1 ev1 hf => ?_)
  refine rr_lstore_n hG (lv2 := [(3, .long v1), (0, .ref (ph 79)), (1, .ref (ph a1)), (2, .int a2), (5, .int x5), (6, .int x6)]) dX8_expense_96 rfl (by decide) rfl ?_
  refine rr_iinc hG (v := x6 + (1 : Int32)) (lv2 := [(6, .int (x6 + (1 : Int32))), (3, .long v1), (0, .ref (ph 79)), (1, .ref (ph a1)), (2, .int a2), (5, .int x5)]) (k := 5) dX8_expense_97 rfl rfl (by decide) rfl ?_
  refine rr_goto hG (tgt := 35) dX8_expense_100 (by decide) ?_
  exact rr_sub (lv2 := [(0, .ref (ph 79)), (1, .ref (ph a1)), (2, .int a2), (3, .long v1), (5, .int x5), (6, .int (x6 + (1 : Int32)))]) [2, 3, 4, 1, 5, 0] rfl (hq35 _ _ _ _ hf)
set_option maxHeartbeats 4000000 in
set_option maxRecDepth 100000 in
theorem wX8_expense_L35 {G : rm_G} {ph : Nat → Nat} {rho : Int64 × rm_M} (a1 : Nat) (a2 : Int32) (hG : rm_k G 96 ph cX8_expense RX8 wsX8_expense 7 2 44) (hR : rm_rJ G 96 ph rho) (ka1 : rm_kq 96 a1 (9, (rm_kd a1).2)) (q23 : Int64 → Int32 → rm_M → Option (Int64 × rm_M)) (hq23 : ∀ (x3 : Int64) (x5 : Int32) (M : rm_M), q23 x3 x5 M = some rho → rm_L G 96 ph 7 23 [(0, .ref (ph 79)), (1, .ref (ph a1)), (2, .int a2), (3, .long x3), (5, .int x5)] [] M) : ∀ (n : Nat) (x3 : Int64) (x5 : Int32) (x6 : Int32) (M : rm_M), fX8_expense_L35 a1 a2 q23 n x3 x5 x6 M = some rho → rm_L G 96 ph 7 35 [(0, .ref (ph 79)), (1, .ref (ph a1)), (2, .int a2), (3, .long x3), (5, .int x5), (6, .int x6)] [] M := by
  intro n
  induction n with
  | zero => intro x3 x5 x6 M hf; rw [fX8_expense_L35] at hf; cases hf
  | succ n ih =>
    intro x3 x5 x6 M hf
    rw [fX8_expense_L35] at hf
    refine rr_iload hG dX8_expense_35 5 rfl ?_
    refine rr_aload_n hG dX8_expense_37 0 rfl rfl ?_
    refine rr_get hG 8 2 dX8_expense_38 ⟨rfl, by decide⟩ (by decide) rfl tX8_expense_X8 (by decide) kX8_expense_76 rfl rfl ?_
    refine rr_icmp_ge hG (tgt := 103) dX8_expense_41 (by decide) hf (fun c2 hf => ?_) (fun c2 hf => ?_)
    · refine rr_iinc hG (v := x5 + (1 : Int32)) (lv2 := [(5, .int (x5 + (1 : Int32))), (0, .ref (ph 79)), (1, .ref (ph a1)), (2, .int a2), (3, .long x3), (6, .int x6)]) (k := 4) dX8_expense_103 rfl rfl (by decide) rfl ?_
      refine rr_goto hG (tgt := 23) dX8_expense_106 (by decide) ?_
      exact rr_sub (lv2 := [(0, .ref (ph 79)), (1, .ref (ph a1)), (2, .int a2), (3, .long x3), (5, .int (x5 + (1 : Int32)))]) [1, 2, 3, 4, 0] rfl (hq23 _ _ _ hf)
    · refine rr_lload_n hG dX8_expense_44 3 rfl rfl ?_
      refine rr_aload_n hG dX8_expense_45 1 rfl rfl ?_
      refine rr_iload_n hG dX8_expense_46 2 rfl rfl ?_
      refine rr_iload hG dX8_expense_47 4 rfl ?_
      refine rr_iadd hG dX8_expense_49 ?_
      refine rr_iald hG dX8_expense_50 ka1 hf (fun b3 hf => ?_)
      refine rr_aload_n hG dX8_expense_51 1 rfl rfl ?_
      refine rr_iload_n hG dX8_expense_52 2 rfl rfl ?_
      refine rr_iload hG dX8_expense_53 5 rfl ?_
      refine rr_iadd hG dX8_expense_55 ?_
      refine rr_iald hG dX8_expense_56 ka1 hf (fun b4 hf => ?_)
      refine rr_icmp_ne hG (tgt := 94) dX8_expense_57 (by decide) hf (fun c5 hf => ?_) (fun c5 hf => ?_)
      · refine rr_lconst hG (v := 0) dX8_expense_94 (by decide) ?_
        exact rr_sub (lv2 := [(0, .ref (ph 79)), (1, .ref (ph a1)), (2, .int a2), (5, .int x5), (6, .int x6)]) [0, 1, 2, 4, 5] rfl (wX8_expense_L95 _ _ hG hR ka1 _ _ (hq23) (ih) _ _ _ _ _ hf)
      · refine rr_aload_n hG dX8_expense_60 0 rfl rfl ?_
        refine rr_get hG 8 18 (v := .ref (ph 90)) dX8_expense_61 ⟨rfl, by decide⟩ (by decide) rfl tX8_expense_X8 (by decide) kX8_expense_40 rfl rfl ?_
        refine rr_iload hG dX8_expense_64 4 rfl ?_
        refine rr_lald hG dX8_expense_66 ⟨rfl, by decide⟩ hf (fun b6 hf => ?_)
        refine rr_aload_n hG dX8_expense_67 0 rfl rfl ?_
        refine rr_iload hG dX8_expense_68 4 rfl ?_
        refine rr_cVI hG (st := [.long (M.2.1 90 (x5).toNatClampNeg), .long x3]) (n := 1) (ci := 8) (rf := 1) (rl := 23) [.int x5] dX8_expense_70 hf ⟨rfl, by decide⟩ (by decide) rfl gX8_expense_X8_sum rfl (by decide +kernel) rfl ⟨by decide, by decide⟩ rfl (Nat.le_of_ble_eq_true rfl) (fun r9 M9 h9 => mX8_sum ph _ _ _ h9) (fun r8 M9 h7 hf => ?_)
        refine rr_i2l hG dX8_expense_73 ?_
        refine rr_lmul hG dX8_expense_74 ?_
        refine rr_aload_n hG dX8_expense_75 0 rfl rfl ?_
        refine rr_get hG 8 5 (v := .ref (ph 82)) dX8_expense_76 ⟨rfl, by decide⟩ (by decide) rfl tX8_expense_X8 (by decide) kX8_expense_16 rfl rfl ?_
        refine rr_iconst hG (v := 1) dX8_expense_79 (by decide) ?_
        refine rr_iald hG dX8_expense_80 ⟨rfl, by decide⟩ hf (fun b10 hf => ?_)
        refine rr_i2l hG dX8_expense_81 ?_
        refine rr_lmul hG dX8_expense_82 ?_
        refine rr_aload_n hG dX8_expense_83 0 rfl rfl ?_
        refine rr_get hG 8 5 (v := .ref (ph 82)) dX8_expense_84 ⟨rfl, by decide⟩ (by decide) rfl tX8_expense_X8 (by decide) kX8_expense_16 rfl rfl ?_
        refine rr_iconst hG (v := 3) dX8_expense_87 (by decide) ?_
        refine rr_iald hG dX8_expense_88 ⟨rfl, by decide⟩ hf (fun b11 hf => ?_)
        refine rr_i2l hG dX8_expense_89 ?_
        refine rr_lmul hG dX8_expense_90 ?_
        refine rr_goto hG (tgt := 95) dX8_expense_91 (by decide) ?_
        exact rr_sub (lv2 := [(0, .ref (ph 79)), (1, .ref (ph a1)), (2, .int a2), (5, .int x5), (6, .int x6)]) [0, 1, 2, 4, 5] rfl (wX8_expense_L95 _ _ hG hR ka1 _ _ (hq23) (ih) _ _ _ _ _ hf)
set_option maxHeartbeats 4000000 in
set_option maxRecDepth 100000 in
theorem wX8_expense_L23 {G : rm_G} {ph : Nat → Nat} {rho : Int64 × rm_M} (a1 : Nat) (a2 : Int32) (hG : rm_k G 96 ph cX8_expense RX8 wsX8_expense 7 2 44) (hR : rm_rJ G 96 ph rho) (ka1 : rm_kq 96 a1 (9, (rm_kd a1).2))   : ∀ (n : Nat) (x3 : Int64) (x5 : Int32) (M : rm_M), fX8_expense_L23 a1 a2 n x3 x5 M = some rho → rm_L G 96 ph 7 23 [(0, .ref (ph 79)), (1, .ref (ph a1)), (2, .int a2), (3, .long x3), (5, .int x5)] [] M := by
  intro n
  induction n with
  | zero => intro x3 x5 M hf; rw [fX8_expense_L23] at hf; cases hf
  | succ n ih =>
    intro x3 x5 M hf
    rw [fX8_expense_L23] at hf
    refine rr_iload hG dX8_expense_23 4 rfl ?_
    refine rr_aload_n hG dX8_expense_25 0 rfl rfl ?_
    refine rr_get hG 8 2 dX8_expense_26 ⟨rfl, by decide⟩ (by decide) rfl tX8_expense_X8 (by decide) kX8_expense_76 rfl rfl ?_
    refine rr_icmp_ge hG (tgt := 109) dX8_expense_29 (by decide) hf (fun c12 hf => ?_) (fun c12 hf => ?_)
    · refine rr_lload_n hG dX8_expense_109 3 rfl rfl ?_
      exact rr_lret hG hR dX8_expense_110 hf
    · refine rr_iconst hG (v := 0) dX8_expense_32 (by decide) ?_
      refine rr_istore hG (lv2 := [(6, .int (0 : Int32)), (0, .ref (ph 79)), (1, .ref (ph a1)), (2, .int a2), (3, .long x3), (5, .int x5)]) dX8_expense_33 (by decide) rfl ?_
      exact rr_sub (lv2 := [(0, .ref (ph 79)), (1, .ref (ph a1)), (2, .int a2), (3, .long x3), (5, .int x5), (6, .int (0 : Int32))]) [1, 2, 3, 4, 5, 0] rfl (wX8_expense_L35 _ _ hG hR ka1 _ (ih) _ _ _ _ _ hf)
set_option maxHeartbeats 4000000 in
set_option maxRecDepth 100000 in
theorem mX8_expense (ph : Nat → Nat) (a1 : Nat) (a2 : Int32) (M : rm_M) (rho : Int64 × rm_M) (ka1 : rm_kq 96 a1 (9, (rm_kd a1).2)) (hf : fX8_expense a1 a2 M = some rho) : rm_CJ yX8_expense wsX8_expense 2 44 [.ref (ph 79), .ref (ph a1), .int a2] 96 ph M rho := by
  refine rm_metJ (cc := cX8_expense) (maxL := 7) (by decide +kernel) rfl rfl (Nat.le_of_ble_eq_true rfl) rfl (fun G hG hR => ?_)
  unfold fX8_expense at hf
  refine rr_ldc2 hG (v := (100)) dX8_expense_0 kX8_expense_197 ?_
  refine rr_aload_n hG dX8_expense_3 0 rfl rfl ?_
  refine rr_get hG 8 5 (v := .ref (ph 82)) dX8_expense_4 ⟨rfl, by decide⟩ (by decide) rfl tX8_expense_X8 (by decide) kX8_expense_16 rfl rfl ?_
  refine rr_iconst hG (v := 2) dX8_expense_7 (by decide) ?_
  refine rr_iald hG dX8_expense_8 ⟨rfl, by decide⟩ hf (fun b13 hf => ?_)
  refine rr_i2l hG dX8_expense_9 ?_
  refine rr_lmul hG dX8_expense_10 ?_
  refine rr_aload_n hG dX8_expense_11 0 rfl rfl ?_
  refine rr_aload_n hG dX8_expense_12 1 rfl rfl ?_
  refine rr_iload_n hG dX8_expense_13 2 rfl rfl ?_
  refine rr_iconst hG (v := 0) dX8_expense_14 (by decide) ?_
  refine rr_cVJ hG (st := [.long ((100 : Int64) * ((M.1 82 ((2 : Int32)).toNatClampNeg).toInt64))]) (n := 3) (ci := 8) (rf := 0) (rl := 0) [.ref (ph a1), .int a2, .int (0 : Int32)] dX8_expense_15 hf ⟨rfl, by decide⟩ (by decide) rfl gX8_expense_X8_crossing rfl (by decide +kernel) rfl ⟨by decide, by decide⟩ rfl (Nat.le_of_ble_eq_true rfl) (fun r9 M9 h9 => mX8_crossing ph _ _ _ _ _ (rm_kself ka1) h9) (fun r15 M16 h14 hf => ?_)
  refine rr_lmul hG dX8_expense_18 ?_
  refine rr_bindJ hf (fun v17 ev17 hf => ?_)
  refine rr_lstore_n hG (lv2 := [(3, .long v17), (0, .ref (ph 79)), (1, .ref (ph a1)), (2, .int a2)]) dX8_expense_19 rfl (by decide) rfl ?_
  refine rr_iconst hG (v := 0) dX8_expense_20 (by decide) ?_
  refine rr_istore hG (lv2 := [(5, .int (0 : Int32)), (3, .long v17), (0, .ref (ph 79)), (1, .ref (ph a1)), (2, .int a2)]) dX8_expense_21 (by decide) rfl ?_
  exact rr_sub (lv2 := [(0, .ref (ph 79)), (1, .ref (ph a1)), (2, .int a2), (3, .long v17), (5, .int (0 : Int32))]) [2, 3, 4, 1, 0] rfl (wX8_expense_L23 _ _ hG hR ka1 _ _ _ _ hf)
/-! X8.mean -/
theorem tX8_mean_X8 : ∀ w ∈ u_ws RX8 TX8 26, w ∈ wsX8_mean := by decide +kernel
theorem kX8_mean_184 : Cond.constantLong RX8 184 (-1) ∈ wsX8_mean := by decide +kernel
theorem kX8_mean_19 : Cond.fieldLink RX8 19 "RingPagesModel" "now" "[I" ∈ wsX8_mean := by decide +kernel
theorem kX8_mean_207 : Cond.constantLong RX8 207 (-4) ∈ wsX8_mean := by decide +kernel
theorem kX8_mean_197 : Cond.constantLong RX8 197 (100) ∈ wsX8_mean := by decide +kernel
set_option maxHeartbeats 4000000 in
set_option maxRecDepth 100000 in
theorem wX8_mean_L53 {G : rm_G} {ph : Nat → Nat} {rho : Int64 × rm_M} (a1 : Int32) (a2 : Int32) (hG : rm_k G 96 ph cX8_mean RX8 wsX8_mean 5 3 70) (hR : rm_rJ G 96 ph rho)    : ∀ (x3 : Int64) (s2 : Int32) (s3 : Int32) (M : rm_M), fX8_mean_L53 a1 a2 x3 s2 s3 M = some rho → rm_L G 96 ph 5 53 [(2, .int a2), (3, .long x3)] [.int s3, .int s2, .ref (ph 83), .ref (ph 79)] M := by
  intro x3 s2 s3 M hf
  unfold fX8_mean_L53 at hf
  refine rr_cVJ hG (st := []) (n := 3) (ci := 8) (rf := 0) (rl := 0) [.ref (ph 83), .int s2, .int s3] dX8_mean_53 hf ⟨rfl, by decide⟩ (by decide) rfl gX8_mean_X8_crossing rfl (by decide +kernel) rfl ⟨by decide, by decide⟩ rfl (Nat.le_of_ble_eq_true rfl) (fun r9 M9 h9 => mX8_crossing ph _ _ _ _ _ (rm_kself ⟨rfl, by decide⟩) h9) (fun r2 M3 h1 hf => ?_)
  refine rr_lload_n hG dX8_mean_56 1 rfl rfl ?_
  refine rr_iload_n hG dX8_mean_57 0 rfl rfl ?_
  refine rr_cSJ hG (st := []) (n := 3) (rf := 1) (rl := 29) [.long r2, .long x3, .int a2] dX8_mean_58 hf gX8_mean_X8_term rfl (by decide +kernel) rfl ⟨by decide, by decide⟩ rfl (Nat.le_of_ble_eq_true rfl) (fun r9 M9 h9 => mX8_term ph _ _ _ _ _ h9) (fun r5 M6 h4 hf => ?_)
  exact rr_lret hG hR dX8_mean_61 hf
set_option maxHeartbeats 4000000 in
set_option maxRecDepth 100000 in
theorem mX8_mean (ph : Nat → Nat) (a1 : Int32) (a2 : Int32) (M : rm_M) (rho : Int64 × rm_M)  (hf : fX8_mean a1 a2 M = some rho) : rm_CJ yX8_mean wsX8_mean 3 70 [.ref (ph 79), .int a1, .int a2] 96 ph M rho := by
  refine rm_metJ (cc := cX8_mean) (maxL := 5) (by decide +kernel) rfl rfl (Nat.le_of_ble_eq_true rfl) rfl (fun G hG hR => ?_)
  unfold fX8_mean at hf
  refine rr_iload_n hG dX8_mean_0 1 rfl rfl ?_
  refine rr_iconst hG (v := 0) dX8_mean_1 (by decide) ?_
  refine rr_iconst hG (v := 3) dX8_mean_2 (by decide) ?_
  refine rr_cSI hG (st := []) (n := 3) (rf := 0) (rl := 0) [.int a1, .int (0 : Int32), .int (3 : Int32)] dX8_mean_3 hf gX8_mean_X8_isIn rfl (by decide +kernel) rfl ⟨by decide, by decide⟩ rfl (Nat.le_of_ble_eq_true rfl) (fun r9 M9 h9 => mX8_isIn ph _ _ _ _ _ h9) (fun r8 M9 h7 hf => ?_)
  refine rr_if_eq hG (tgt := 18) dX8_mean_6 (by decide) hf (fun c10 hf => ?_) (fun c10 hf => ?_)
  · refine rr_ldc2 hG (v := (-1)) dX8_mean_18 kX8_mean_184 ?_
    exact rr_lret hG hR dX8_mean_21 hf
  · refine rr_iload_n hG dX8_mean_9 2 rfl rfl ?_
    refine rr_iconst hG (v := 0) dX8_mean_10 (by decide) ?_
    refine rr_iconst hG (v := 1) dX8_mean_11 (by decide) ?_
    refine rr_cSI hG (st := []) (n := 3) (rf := 0) (rl := 0) [.int a2, .int (0 : Int32), .int (1 : Int32)] dX8_mean_12 hf gX8_mean_X8_isIn rfl (by decide +kernel) rfl ⟨by decide, by decide⟩ rfl (Nat.le_of_ble_eq_true rfl) (fun r9 M9 h9 => mX8_isIn ph _ _ _ _ _ h9) (fun r12 M13 h11 hf => ?_)
    refine rr_if_ne hG (tgt := 22) dX8_mean_15 (by decide) hf (fun c14 hf => ?_) (fun c14 hf => ?_)
    · refine rr_aload_n hG dX8_mean_22 0 rfl rfl ?_
      refine rr_cVV hG (st := []) (n := 0) (ci := 8) (rf := 1) (rl := 26) [] dX8_mean_23 hf ⟨rfl, by decide⟩ (by decide) rfl gX8_mean_X8_grows rfl (by decide +kernel) rfl ⟨by decide, by decide⟩ rfl (Nat.le_of_ble_eq_true rfl) (fun M9 h9 => mX8_grows ph _ _ h9) (fun M16 h15 hf => ?_)
      refine rr_aload_n hG dX8_mean_26 0 rfl rfl ?_
      refine rr_cVJ hG (st := []) (n := 0) (ci := 8) (rf := 2) (rl := 44) [] dX8_mean_27 hf ⟨rfl, by decide⟩ (by decide) rfl gX8_mean_X8_below rfl (by decide +kernel) rfl ⟨by decide, by decide⟩ rfl (Nat.le_of_ble_eq_true rfl) (fun r9 M9 h9 => mX8_below ph _ _ h9) (fun r18 M19 h17 hf => ?_)
      refine rr_lstore_n hG (lv2 := [(3, .long r18), (0, .ref (ph 79)), (1, .int a1), (2, .int a2)]) dX8_mean_30 rfl (by decide) rfl ?_
      refine rr_iload_n hG dX8_mean_31 2 rfl rfl ?_
      refine rr_iconst hG (v := 2) dX8_mean_32 (by decide) ?_
      refine rr_icmp_ge hG (tgt := 62) dX8_mean_33 (by decide) hf (fun c20 hf => ?_) (fun c20 hf => ?_)
      · refine rr_iload_n hG dX8_mean_62 2 rfl rfl ?_
        refine rr_iconst hG (v := 3) dX8_mean_63 (by decide) ?_
        refine rr_icmp_ne hG (tgt := 87) dX8_mean_64 (by decide) hf (fun c21 hf => ?_) (fun c21 hf => ?_)
        · refine rr_aload_n hG dX8_mean_87 1 rfl rfl ?_
          refine rr_get hG 8 6 (v := .ref (ph 83)) dX8_mean_88 ⟨rfl, by decide⟩ (by decide) rfl tX8_mean_X8 (by decide) kX8_mean_19 rfl rfl ?_
          refine rr_bipush hG (v := 12) dX8_mean_91 (by decide) ?_
          refine rr_iald hG dX8_mean_93 ⟨rfl, by decide⟩ hf (fun b22 hf => ?_)
          refine rr_bindI hf (fun v23 ev23 hf => ?_)
          by_cases c24 : v23 = 0
          · rw [if_pos c24] at hf
            refine rr_tableIn hG (tgt := 120) (0) dX8_mean_94 (by rw [c24]; decide) (by decide) (by decide) rfl (by decide) ?_
            refine rr_aload_n hG dX8_mean_120 1 rfl rfl ?_
            refine rr_aload_n hG dX8_mean_121 1 rfl rfl ?_
            refine rr_get hG 8 6 (v := .ref (ph 83)) dX8_mean_122 ⟨rfl, by decide⟩ (by decide) rfl tX8_mean_X8 (by decide) kX8_mean_19 rfl rfl ?_
            refine rr_bipush hG (v := 6) dX8_mean_125 (by decide) ?_
            refine rr_iconst hG (v := 0) dX8_mean_127 (by decide) ?_
            refine rr_cVJ hG (st := []) (n := 3) (ci := 8) (rf := 0) (rl := 0) [.ref (ph 83), .int (6 : Int32), .int (0 : Int32)] dX8_mean_128 hf ⟨rfl, by decide⟩ (by decide) rfl gX8_mean_X8_crossing rfl (by decide +kernel) rfl ⟨by decide, by decide⟩ rfl (Nat.le_of_ble_eq_true rfl) (fun r9 M9 h9 => mX8_crossing ph _ _ _ _ _ (rm_kself ⟨rfl, by decide⟩) h9) (fun r26 M27 h25 hf => ?_)
            refine rr_lload_n hG dX8_mean_131 0 rfl rfl ?_
            refine rr_iload_n hG dX8_mean_132 3 rfl rfl ?_
            refine rr_cSJ hG (st := []) (n := 3) (rf := 1) (rl := 29) [.long r26, .long r18, .int a2] dX8_mean_133 hf gX8_mean_X8_term rfl (by decide +kernel) rfl ⟨by decide, by decide⟩ rfl (Nat.le_of_ble_eq_true rfl) (fun r9 M9 h9 => mX8_term ph _ _ _ _ _ h9) (fun r29 M30 h28 hf => ?_)
            exact rr_lret hG hR dX8_mean_136 hf
          · rw [if_neg c24] at hf
            by_cases c31 : v23 = 1
            · rw [if_pos c31] at hf
              refine rr_tableIn hG (tgt := 137) (1) dX8_mean_94 (by rw [c31]; decide) (by decide) (by decide) rfl (by decide) ?_
              refine rr_aload_n hG dX8_mean_137 1 rfl rfl ?_
              refine rr_aload_n hG dX8_mean_138 1 rfl rfl ?_
              refine rr_get hG 8 6 (v := .ref (ph 83)) dX8_mean_139 ⟨rfl, by decide⟩ (by decide) rfl tX8_mean_X8 (by decide) kX8_mean_19 rfl rfl ?_
              refine rr_bipush hG (v := 6) dX8_mean_142 (by decide) ?_
              refine rr_iconst hG (v := 1) dX8_mean_144 (by decide) ?_
              refine rr_cVJ hG (st := []) (n := 3) (ci := 8) (rf := 0) (rl := 0) [.ref (ph 83), .int (6 : Int32), .int (1 : Int32)] dX8_mean_145 hf ⟨rfl, by decide⟩ (by decide) rfl gX8_mean_X8_crossing rfl (by decide +kernel) rfl ⟨by decide, by decide⟩ rfl (Nat.le_of_ble_eq_true rfl) (fun r9 M9 h9 => mX8_crossing ph _ _ _ _ _ (rm_kself ⟨rfl, by decide⟩) h9) (fun r33 M34 h32 hf => ?_)
              refine rr_lload_n hG dX8_mean_148 0 rfl rfl ?_
              refine rr_aload_n hG dX8_mean_149 1 rfl rfl ?_
              refine rr_get hG 8 6 (v := .ref (ph 83)) dX8_mean_150 ⟨rfl, by decide⟩ (by decide) rfl tX8_mean_X8 (by decide) kX8_mean_19 rfl rfl ?_
              refine rr_bipush hG (v := 13) dX8_mean_153 (by decide) ?_
              refine rr_iald hG dX8_mean_155 ⟨rfl, by decide⟩ hf (fun b35 hf => ?_)
              refine rr_i2l hG dX8_mean_156 ?_
              refine rr_lmul hG dX8_mean_157 ?_
              refine rr_iload_n hG dX8_mean_158 3 rfl rfl ?_
              refine rr_cSJ hG (st := []) (n := 3) (rf := 1) (rl := 29) [.long r33, .long (r18 * ((M34.1 83 ((13 : Int32)).toNatClampNeg).toInt64)), .int a2] dX8_mean_159 hf gX8_mean_X8_term rfl (by decide +kernel) rfl ⟨by decide, by decide⟩ rfl (Nat.le_of_ble_eq_true rfl) (fun r9 M9 h9 => mX8_term ph _ _ _ _ _ h9) (fun r37 M38 h36 hf => ?_)
              exact rr_lret hG hR dX8_mean_162 hf
            · rw [if_neg c31] at hf
              by_cases c39 : v23 = 2
              · rw [if_pos c39] at hf
                refine rr_tableIn hG (tgt := 163) (2) dX8_mean_94 (by rw [c39]; decide) (by decide) (by decide) rfl (by decide) ?_
                refine rr_lconst hG (v := 1) dX8_mean_163 (by decide) ?_
                refine rr_aload_n hG dX8_mean_164 1 rfl rfl ?_
                refine rr_get hG 8 6 (v := .ref (ph 83)) dX8_mean_165 ⟨rfl, by decide⟩ (by decide) rfl tX8_mean_X8 (by decide) kX8_mean_19 rfl rfl ?_
                refine rr_bipush hG (v := 13) dX8_mean_168 (by decide) ?_
                refine rr_iald hG dX8_mean_170 ⟨rfl, by decide⟩ hf (fun b40 hf => ?_)
                refine rr_i2l hG dX8_mean_171 ?_
                refine rr_iload_n hG dX8_mean_172 3 rfl rfl ?_
                refine rr_cSJ hG (st := []) (n := 3) (rf := 1) (rl := 29) [.long (1 : Int64), .long ((M19.1 83 ((13 : Int32)).toNatClampNeg).toInt64), .int a2] dX8_mean_173 hf gX8_mean_X8_term rfl (by decide +kernel) rfl ⟨by decide, by decide⟩ rfl (Nat.le_of_ble_eq_true rfl) (fun r9 M9 h9 => mX8_term ph _ _ _ _ _ h9) (fun r42 M43 h41 hf => ?_)
                exact rr_lret hG hR dX8_mean_176 hf
              · rw [if_neg c39] at hf
                have kk : rm_L G 96 ph 5 177 [(3, .long r18), (0, .ref (ph 79)), (1, .int a1), (2, .int a2)] [] M19 := by
                  refine rr_ldc2 hG (v := (-4)) dX8_mean_177 kX8_mean_207 ?_
                  exact rr_lret hG hR dX8_mean_180 hf
                have hz : v23.toInt < 0 ∨ 2 < v23.toInt := by have n0 := lv_neT c24 (a := 0) (by decide); have n1 := lv_neT c31 (a := 1) (by decide); have n2 := lv_neT c39 (a := 2) (by decide); omega
                rcases hz with hz | hz
                · exact rr_tableOut hG (tgt := 177) dX8_mean_94 (Or.inl hz) (by decide) kk
                · exact rr_tableOut hG (tgt := 177) dX8_mean_94 (Or.inr hz) (by decide) kk
        · refine rr_aload_n hG dX8_mean_67 1 rfl rfl ?_
          refine rr_aload_n hG dX8_mean_68 1 rfl rfl ?_
          refine rr_get hG 8 6 (v := .ref (ph 83)) dX8_mean_69 ⟨rfl, by decide⟩ (by decide) rfl tX8_mean_X8 (by decide) kX8_mean_19 rfl rfl ?_
          refine rr_bipush hG (v := 6) dX8_mean_72 (by decide) ?_
          refine rr_cVJ hG (st := []) (n := 2) (ci := 8) (rf := 2) (rl := 44) [.ref (ph 83), .int (6 : Int32)] dX8_mean_74 hf ⟨rfl, by decide⟩ (by decide) rfl gX8_mean_X8_expense rfl (by decide +kernel) rfl ⟨by decide, by decide⟩ rfl (Nat.le_of_ble_eq_true rfl) (fun r9 M9 h9 => mX8_expense ph _ _ _ _ (rm_kself ⟨rfl, by decide⟩) h9) (fun r45 M46 h44 hf => ?_)
          refine rr_ldc2 hG (v := (100)) dX8_mean_77 kX8_mean_197 ?_
          refine rr_lload_n hG dX8_mean_80 0 rfl rfl ?_
          refine rr_lmul hG dX8_mean_81 ?_
          refine rr_iload_n hG dX8_mean_82 3 rfl rfl ?_
          refine rr_cSJ hG (st := []) (n := 3) (rf := 1) (rl := 29) [.long r45, .long ((100 : Int64) * r18), .int a2] dX8_mean_83 hf gX8_mean_X8_term rfl (by decide +kernel) rfl ⟨by decide, by decide⟩ rfl (Nat.le_of_ble_eq_true rfl) (fun r9 M9 h9 => mX8_term ph _ _ _ _ _ h9) (fun r48 M49 h47 hf => ?_)
          exact rr_lret hG hR dX8_mean_86 hf
      · refine rr_aload_n hG dX8_mean_36 1 rfl rfl ?_
        refine rr_aload_n hG dX8_mean_37 1 rfl rfl ?_
        refine rr_get hG 8 6 (v := .ref (ph 83)) dX8_mean_38 ⟨rfl, by decide⟩ (by decide) rfl tX8_mean_X8 (by decide) kX8_mean_19 rfl rfl ?_
        refine rr_bipush hG (v := 6) dX8_mean_41 (by decide) ?_
        refine rr_iload_n hG dX8_mean_43 2 rfl rfl ?_
        refine rr_iconst hG (v := 1) dX8_mean_44 (by decide) ?_
        refine rr_icmp_ne hG (tgt := 52) dX8_mean_45 (by decide) hf (fun c50 hf => ?_) (fun c50 hf => ?_)
        · refine rr_iconst hG (v := 0) dX8_mean_52 (by decide) ?_
          exact rr_sub (lv2 := [(2, .int a2), (3, .long r18)]) [3, 0] rfl (wX8_mean_L53 _ _ hG hR _ _ _ _ hf)
        · refine rr_iconst hG (v := 1) dX8_mean_48 (by decide) ?_
          refine rr_goto hG (tgt := 53) dX8_mean_49 (by decide) ?_
          exact rr_sub (lv2 := [(2, .int a2), (3, .long r18)]) [3, 0] rfl (wX8_mean_L53 _ _ hG hR _ _ _ _ hf)
    · refine rr_ldc2 hG (v := (-1)) dX8_mean_18 kX8_mean_184 ?_
      exact rr_lret hG hR dX8_mean_21 hf
/-! X8.goesOn -/
theorem tX8_goesOn_X8 : ∀ w ∈ u_ws RX8 TX8 26, w ∈ wsX8_goesOn := by decide +kernel
theorem kX8_goesOn_76 : Cond.fieldLink RX8 76 "RingPagesModel" "cells" "I" ∈ wsX8_goesOn := by decide +kernel
theorem kX8_goesOn_47 : Cond.fieldLink RX8 47 "RingPagesModel" "tried" "[I" ∈ wsX8_goesOn := by decide +kernel
set_option maxHeartbeats 4000000 in
set_option maxRecDepth 100000 in
theorem wX8_goesOn_L40 {G : rm_G} {ph : Nat → Nat} {rho : Int32 × rm_M}  (hG : rm_k G 96 ph cX8_goesOn RX8 wsX8_goesOn 4 0 0) (hR : rm_rI G 96 ph .boolean rho)  (q7 : Int32 → rm_M → Option (Int32 × rm_M)) (q15 : Int32 → Int32 → Int32 → rm_M → Option (Int32 × rm_M)) (hq7 : ∀ (x1 : Int32) (M : rm_M), q7 x1 M = some rho → rm_L G 96 ph 4 7 [(0, .ref (ph 79)), (1, .int x1)] [] M) (hq15 : ∀ (x1 : Int32) (x2 : Int32) (x3 : Int32) (M : rm_M), q15 x1 x2 x3 M = some rho → rm_L G 96 ph 4 15 [(0, .ref (ph 79)), (1, .int x1), (2, .int x2), (3, .int x3)] [] M) : ∀ (x1 : Int32) (x3 : Int32) (s0 : Int32) (M : rm_M), fX8_goesOn_L40 q7 q15 x1 x3 s0 M = some rho → rm_L G 96 ph 4 40 [(0, .ref (ph 79)), (1, .int x1), (3, .int x3)] [.int s0] M := by
  intro x1 x3 s0 M hf
  unfold fX8_goesOn_L40 at hf
  refine rr_istore_n hG (lv2 := [(2, .int s0), (0, .ref (ph 79)), (1, .int x1), (3, .int x3)]) dX8_goesOn_40 rfl (by decide) rfl ?_
  refine rr_iinc hG (v := x3 + (1 : Int32)) (lv2 := [(3, .int (x3 + (1 : Int32))), (2, .int s0), (0, .ref (ph 79)), (1, .int x1)]) (k := 3) dX8_goesOn_41 rfl rfl (by decide) rfl ?_
  refine rr_goto hG (tgt := 15) dX8_goesOn_44 (by decide) ?_
  exact rr_sub (lv2 := [(0, .ref (ph 79)), (1, .int x1), (2, .int s0), (3, .int (x3 + (1 : Int32)))]) [2, 3, 1, 0] rfl (hq15 _ _ _ _ hf)
set_option maxHeartbeats 4000000 in
set_option maxRecDepth 100000 in
theorem wX8_goesOn_L71 {G : rm_G} {ph : Nat → Nat} {rho : Int32 × rm_M}  (hG : rm_k G 96 ph cX8_goesOn RX8 wsX8_goesOn 4 0 0) (hR : rm_rI G 96 ph .boolean rho)    : ∀ (n : Nat) (x3 : Int32) (M : rm_M), fX8_goesOn_L71 n x3 M = some rho → rm_L G 96 ph 4 71 [(0, .ref (ph 79)), (3, .int x3)] [] M := by
  intro n
  induction n with
  | zero => intro x3 M hf; rw [fX8_goesOn_L71] at hf; cases hf
  | succ n ih =>
    intro x3 M hf
    rw [fX8_goesOn_L71] at hf
    refine rr_iload_n hG dX8_goesOn_71 1 rfl rfl ?_
    refine rr_aload_n hG dX8_goesOn_72 0 rfl rfl ?_
    refine rr_get hG 8 2 dX8_goesOn_73 ⟨rfl, by decide⟩ (by decide) rfl tX8_goesOn_X8 (by decide) kX8_goesOn_76 rfl rfl ?_
    refine rr_icmp_ge hG (tgt := 92) dX8_goesOn_76 (by decide) hf (fun c1 hf => ?_) (fun c1 hf => ?_)
    · refine rr_iconst hG (v := 1) dX8_goesOn_92 (by decide) ?_
      exact rr_zret hG hR dX8_goesOn_93 hf
    · refine rr_aload_n hG dX8_goesOn_79 0 rfl rfl ?_
      refine rr_get hG 8 20 (v := .ref (ph 92)) dX8_goesOn_80 ⟨rfl, by decide⟩ (by decide) rfl tX8_goesOn_X8 (by decide) kX8_goesOn_47 rfl rfl ?_
      refine rr_iload_n hG dX8_goesOn_83 1 rfl rfl ?_
      refine rr_iconst hG (v := 0) dX8_goesOn_84 (by decide) ?_
      refine rr_iast hG dX8_goesOn_85 ⟨rfl, by decide⟩ hf (fun b2 hf => ?_)
      refine rr_bindM hf (fun M3 eM3 hf => ?_)
      refine rr_iinc hG (v := x3 + (1 : Int32)) (lv2 := [(3, .int (x3 + (1 : Int32))), (0, .ref (ph 79))]) (k := 1) dX8_goesOn_86 rfl rfl (by decide) rfl ?_
      refine rr_goto hG (tgt := 71) dX8_goesOn_89 (by decide) ?_
      exact rr_sub (lv2 := [(0, .ref (ph 79)), (3, .int (x3 + (1 : Int32)))]) [1, 0] rfl (ih _ _ hf)
set_option maxHeartbeats 4000000 in
set_option maxRecDepth 100000 in
theorem wX8_goesOn_L15 {G : rm_G} {ph : Nat → Nat} {rho : Int32 × rm_M}  (hG : rm_k G 96 ph cX8_goesOn RX8 wsX8_goesOn 4 0 0) (hR : rm_rI G 96 ph .boolean rho)  (q7 : Int32 → rm_M → Option (Int32 × rm_M)) (hq7 : ∀ (x1 : Int32) (M : rm_M), q7 x1 M = some rho → rm_L G 96 ph 4 7 [(0, .ref (ph 79)), (1, .int x1)] [] M) : ∀ (n : Nat) (x1 : Int32) (x2 : Int32) (x3 : Int32) (M : rm_M), fX8_goesOn_L15 q7 n x1 x2 x3 M = some rho → rm_L G 96 ph 4 15 [(0, .ref (ph 79)), (1, .int x1), (2, .int x2), (3, .int x3)] [] M := by
  intro n
  induction n with
  | zero => intro x1 x2 x3 M hf; rw [fX8_goesOn_L15] at hf; cases hf
  | succ n ih =>
    intro x1 x2 x3 M hf
    rw [fX8_goesOn_L15] at hf
    refine rr_iload_n hG dX8_goesOn_15 3 rfl rfl ?_
    refine rr_iload_n hG dX8_goesOn_16 1 rfl rfl ?_
    refine rr_icmp_ge hG (tgt := 47) dX8_goesOn_17 (by decide) hf (fun c4 hf => ?_) (fun c4 hf => ?_)
    · refine rr_aload_n hG dX8_goesOn_47 0 rfl rfl ?_
      refine rr_get hG 8 20 (v := .ref (ph 92)) dX8_goesOn_48 ⟨rfl, by decide⟩ (by decide) rfl tX8_goesOn_X8 (by decide) kX8_goesOn_47 rfl rfl ?_
      refine rr_iload_n hG dX8_goesOn_51 1 rfl rfl ?_
      refine rr_iald hG dX8_goesOn_52 ⟨rfl, by decide⟩ hf (fun b5 hf => ?_)
      refine rr_iload_n hG dX8_goesOn_53 2 rfl rfl ?_
      refine rr_icmp_gt hG (tgt := 94) dX8_goesOn_54 (by decide) hf (fun c6 hf => ?_) (fun c6 hf => ?_)
      · refine rr_iinc hG (v := x1 + (-1 : Int32)) (lv2 := [(1, .int (x1 + (-1 : Int32))), (0, .ref (ph 79)), (2, .int x2), (3, .int x3)]) (k := 1) dX8_goesOn_94 rfl rfl (by decide) rfl ?_
        refine rr_goto hG (tgt := 7) dX8_goesOn_97 (by decide) ?_
        exact rr_sub (lv2 := [(0, .ref (ph 79)), (1, .int (x1 + (-1 : Int32)))]) [1, 0] rfl (hq7 _ _ hf)
      · refine rr_aload_n hG dX8_goesOn_57 0 rfl rfl ?_
        refine rr_get hG 8 20 (v := .ref (ph 92)) dX8_goesOn_58 ⟨rfl, by decide⟩ (by decide) rfl tX8_goesOn_X8 (by decide) kX8_goesOn_47 rfl rfl ?_
        refine rr_iload_n hG dX8_goesOn_61 1 rfl rfl ?_
        refine rr_dup2 hG dX8_goesOn_62 rfl rfl ?_
        refine rr_iald hG dX8_goesOn_63 ⟨rfl, by decide⟩ hf (fun b7 hf => ?_)
        refine rr_iconst hG (v := 1) dX8_goesOn_64 (by decide) ?_
        refine rr_iadd hG dX8_goesOn_65 ?_
        refine rr_iast hG dX8_goesOn_66 ⟨rfl, by decide⟩ hf (fun b8 hf => ?_)
        refine rr_bindM hf (fun M9 eM9 hf => ?_)
        refine rr_iload_n hG dX8_goesOn_67 1 rfl rfl ?_
        refine rr_iconst hG (v := 1) dX8_goesOn_68 (by decide) ?_
        refine rr_iadd hG dX8_goesOn_69 ?_
        refine rr_bindI hf (fun v10 ev10 hf => ?_)
        refine rr_istore_n hG (lv2 := [(3, .int v10), (0, .ref (ph 79)), (1, .int x1), (2, .int x2)]) dX8_goesOn_70 rfl (by decide) rfl ?_
        exact rr_sub (lv2 := [(0, .ref (ph 79)), (3, .int v10)]) [1, 0] rfl (wX8_goesOn_L71 hG hR _ _ _ hf)
    · refine rr_aload_n hG dX8_goesOn_20 0 rfl rfl ?_
      refine rr_get hG 8 20 (v := .ref (ph 92)) dX8_goesOn_21 ⟨rfl, by decide⟩ (by decide) rfl tX8_goesOn_X8 (by decide) kX8_goesOn_47 rfl rfl ?_
      refine rr_iload_n hG dX8_goesOn_24 3 rfl rfl ?_
      refine rr_iald hG dX8_goesOn_25 ⟨rfl, by decide⟩ hf (fun b11 hf => ?_)
      refine rr_iload_n hG dX8_goesOn_26 2 rfl rfl ?_
      refine rr_icmp_le hG (tgt := 39) dX8_goesOn_27 (by decide) hf (fun c12 hf => ?_) (fun c12 hf => ?_)
      · refine rr_iload_n hG dX8_goesOn_39 2 rfl rfl ?_
        exact rr_sub (lv2 := [(0, .ref (ph 79)), (1, .int x1), (3, .int x3)]) [0, 1, 3] rfl (wX8_goesOn_L40 hG hR _ _ (hq7) (ih) _ _ _ _ hf)
      · refine rr_aload_n hG dX8_goesOn_30 0 rfl rfl ?_
        refine rr_get hG 8 20 (v := .ref (ph 92)) dX8_goesOn_31 ⟨rfl, by decide⟩ (by decide) rfl tX8_goesOn_X8 (by decide) kX8_goesOn_47 rfl rfl ?_
        refine rr_iload_n hG dX8_goesOn_34 3 rfl rfl ?_
        refine rr_iald hG dX8_goesOn_35 ⟨rfl, by decide⟩ hf (fun b13 hf => ?_)
        refine rr_goto hG (tgt := 40) dX8_goesOn_36 (by decide) ?_
        exact rr_sub (lv2 := [(0, .ref (ph 79)), (1, .int x1), (3, .int x3)]) [0, 1, 3] rfl (wX8_goesOn_L40 hG hR _ _ (hq7) (ih) _ _ _ _ hf)
set_option maxHeartbeats 4000000 in
set_option maxRecDepth 100000 in
theorem wX8_goesOn_L7 {G : rm_G} {ph : Nat → Nat} {rho : Int32 × rm_M}  (hG : rm_k G 96 ph cX8_goesOn RX8 wsX8_goesOn 4 0 0) (hR : rm_rI G 96 ph .boolean rho)    : ∀ (n : Nat) (x1 : Int32) (M : rm_M), fX8_goesOn_L7 n x1 M = some rho → rm_L G 96 ph 4 7 [(0, .ref (ph 79)), (1, .int x1)] [] M := by
  intro n
  induction n with
  | zero => intro x1 M hf; rw [fX8_goesOn_L7] at hf; cases hf
  | succ n ih =>
    intro x1 M hf
    rw [fX8_goesOn_L7] at hf
    refine rr_iload_n hG dX8_goesOn_7 1 rfl rfl ?_
    refine rr_if_le hG (tgt := 100) dX8_goesOn_8 (by decide) hf (fun c14 hf => ?_) (fun c14 hf => ?_)
    · refine rr_iconst hG (v := 0) dX8_goesOn_100 (by decide) ?_
      exact rr_zret hG hR dX8_goesOn_101 hf
    · refine rr_iconst hG (v := 0) dX8_goesOn_11 (by decide) ?_
      refine rr_istore_n hG (lv2 := [(2, .int (0 : Int32)), (0, .ref (ph 79)), (1, .int x1)]) dX8_goesOn_12 rfl (by decide) rfl ?_
      refine rr_iconst hG (v := 0) dX8_goesOn_13 (by decide) ?_
      refine rr_istore_n hG (lv2 := [(3, .int (0 : Int32)), (2, .int (0 : Int32)), (0, .ref (ph 79)), (1, .int x1)]) dX8_goesOn_14 rfl (by decide) rfl ?_
      exact rr_sub (lv2 := [(0, .ref (ph 79)), (1, .int x1), (2, .int (0 : Int32)), (3, .int (0 : Int32))]) [2, 3, 1, 0] rfl (wX8_goesOn_L15 hG hR _ (ih) _ _ _ _ _ hf)
set_option maxHeartbeats 4000000 in
set_option maxRecDepth 100000 in
theorem mX8_goesOn (ph : Nat → Nat)  (M : rm_M) (rho : Int32 × rm_M)  (hf : fX8_goesOn M = some rho) : rm_CI yX8_goesOn wsX8_goesOn 0 0 [.ref (ph 79)] 96 ph M rho := by
  refine rm_metI (cc := cX8_goesOn) (maxL := 4) (by decide +kernel) rfl rfl (Nat.le_of_ble_eq_true rfl) rfl (fun G hG hR => ?_)
  unfold fX8_goesOn at hf
  refine rr_aload_n hG dX8_goesOn_0 0 rfl rfl ?_
  refine rr_get hG 8 2 dX8_goesOn_1 ⟨rfl, by decide⟩ (by decide) rfl tX8_goesOn_X8 (by decide) kX8_goesOn_76 rfl rfl ?_
  refine rr_iconst hG (v := 1) dX8_goesOn_4 (by decide) ?_
  refine rr_isub hG dX8_goesOn_5 ?_
  refine rr_bindI hf (fun v15 ev15 hf => ?_)
  refine rr_istore_n hG (lv2 := [(1, .int v15), (0, .ref (ph 79))]) dX8_goesOn_6 rfl (by decide) rfl ?_
  exact rr_sub (lv2 := [(0, .ref (ph 79)), (1, .int v15)]) [1, 0] rfl (wX8_goesOn_L7 hG hR _ _ _ hf)
/-! X8.finds -/
theorem tX8_finds_X8 : ∀ w ∈ u_ws RX8 TX8 26, w ∈ wsX8_finds := by decide +kernel
theorem kX8_finds_50 : Cond.fieldLink RX8 50 "RingPagesModel" "best" "[I" ∈ wsX8_finds := by decide +kernel
theorem kX8_finds_47 : Cond.fieldLink RX8 47 "RingPagesModel" "tried" "[I" ∈ wsX8_finds := by decide +kernel
set_option maxHeartbeats 4000000 in
set_option maxRecDepth 100000 in
theorem wX8_finds_L97 {G : rm_G} {ph : Nat → Nat} {rho : Int64 × rm_M}  (hG : rm_k G 96 ph cX8_finds RX8 wsX8_finds 6 3 70) (hR : rm_rJ G 96 ph rho)  (q42 : Int64 → rm_M → Option (Int64 × rm_M)) (hq42 : ∀ (x1 : Int64) (M : rm_M), q42 x1 M = some rho → rm_L G 96 ph 6 42 [(0, .ref (ph 79)), (1, .long x1)] [] M) : ∀ (x1 : Int64) (M : rm_M), fX8_finds_L97 q42 x1 M = some rho → rm_L G 96 ph 6 97 [(0, .ref (ph 79)), (1, .long x1)] [] M := by
  intro x1 M hf
  unfold fX8_finds_L97 at hf
  refine rr_goto hG (tgt := 42) dX8_finds_97 (by decide) ?_
  exact rr_sub (lv2 := [(0, .ref (ph 79)), (1, .long x1)]) [0, 1] rfl (hq42 _ _ hf)
set_option maxHeartbeats 4000000 in
set_option maxRecDepth 100000 in
theorem wX8_finds_L70 {G : rm_G} {ph : Nat → Nat} {rho : Int64 × rm_M}  (hG : rm_k G 96 ph cX8_finds RX8 wsX8_finds 6 3 70) (hR : rm_rJ G 96 ph rho)  (q42 : Int64 → rm_M → Option (Int64 × rm_M)) (hq42 : ∀ (x1 : Int64) (M : rm_M), q42 x1 M = some rho → rm_L G 96 ph 6 42 [(0, .ref (ph 79)), (1, .long x1)] [] M) : ∀ (n : Nat) (x1 : Int64) (x5 : Int32) (M : rm_M), fX8_finds_L70 q42 n x1 x5 M = some rho → rm_L G 96 ph 6 70 [(0, .ref (ph 79)), (1, .long x1), (5, .int x5)] [] M := by
  intro n
  induction n with
  | zero => intro x1 x5 M hf; rw [fX8_finds_L70] at hf; cases hf
  | succ n ih =>
    intro x1 x5 M hf
    rw [fX8_finds_L70] at hf
    refine rr_iload hG dX8_finds_70 2 rfl ?_
    refine rr_bipush hG (v := 6) dX8_finds_72 (by decide) ?_
    refine rr_icmp_ge hG (tgt := 97) dX8_finds_74 (by decide) hf (fun c1 hf => ?_) (fun c1 hf => ?_)
    · exact rr_sub (lv2 := [(0, .ref (ph 79)), (1, .long x1)]) [0, 1] rfl (wX8_finds_L97 hG hR _ (hq42) _ _ hf)
    · refine rr_aload_n hG dX8_finds_77 0 rfl rfl ?_
      refine rr_get hG 8 21 (v := .ref (ph 93)) dX8_finds_78 ⟨rfl, by decide⟩ (by decide) rfl tX8_finds_X8 (by decide) kX8_finds_50 rfl rfl ?_
      refine rr_iload hG dX8_finds_81 2 rfl ?_
      refine rr_aload_n hG dX8_finds_83 0 rfl rfl ?_
      refine rr_get hG 8 20 (v := .ref (ph 92)) dX8_finds_84 ⟨rfl, by decide⟩ (by decide) rfl tX8_finds_X8 (by decide) kX8_finds_47 rfl rfl ?_
      refine rr_iload hG dX8_finds_87 2 rfl ?_
      refine rr_iald hG dX8_finds_89 ⟨rfl, by decide⟩ hf (fun b2 hf => ?_)
      refine rr_iast hG dX8_finds_90 ⟨rfl, by decide⟩ hf (fun b3 hf => ?_)
      refine rr_bindM hf (fun M4 eM4 hf => ?_)
      refine rr_iinc hG (v := x5 + (1 : Int32)) (lv2 := [(5, .int (x5 + (1 : Int32))), (0, .ref (ph 79)), (1, .long x1)]) (k := 2) dX8_finds_91 rfl rfl (by decide) rfl ?_
      refine rr_goto hG (tgt := 70) dX8_finds_94 (by decide) ?_
      exact rr_sub (lv2 := [(0, .ref (ph 79)), (1, .long x1), (5, .int (x5 + (1 : Int32)))]) [1, 2, 0] rfl (ih _ _ _ hf)
set_option maxHeartbeats 4000000 in
set_option maxRecDepth 100000 in
theorem wX8_finds_L42 {G : rm_G} {ph : Nat → Nat} {rho : Int64 × rm_M}  (hG : rm_k G 96 ph cX8_finds RX8 wsX8_finds 6 3 70) (hR : rm_rJ G 96 ph rho)    : ∀ (n : Nat) (x1 : Int64) (M : rm_M), fX8_finds_L42 n x1 M = some rho → rm_L G 96 ph 6 42 [(0, .ref (ph 79)), (1, .long x1)] [] M := by
  intro n
  induction n with
  | zero => intro x1 M hf; rw [fX8_finds_L42] at hf; cases hf
  | succ n ih =>
    intro x1 M hf
    rw [fX8_finds_L42] at hf
    refine rr_aload_n hG dX8_finds_42 0 rfl rfl ?_
    refine rr_cVI hG (st := []) (n := 0) (ci := 8) (rf := 0) (rl := 0) [] dX8_finds_43 hf ⟨rfl, by decide⟩ (by decide) rfl gX8_finds_X8_goesOn rfl (by decide +kernel) rfl ⟨by decide, by decide⟩ rfl (Nat.le_of_ble_eq_true rfl) (fun r9 M9 h9 => mX8_goesOn ph _ _ h9) (fun r6 M7 h5 hf => ?_)
    refine rr_if_eq hG (tgt := 100) dX8_finds_46 (by decide) hf (fun c8 hf => ?_) (fun c8 hf => ?_)
    · refine rr_lload_n hG dX8_finds_100 1 rfl rfl ?_
      exact rr_lret hG hR dX8_finds_101 hf
    · refine rr_aload_n hG dX8_finds_49 0 rfl rfl ?_
      refine rr_aload_n hG dX8_finds_50 0 rfl rfl ?_
      refine rr_get hG 8 20 (v := .ref (ph 92)) dX8_finds_51 ⟨rfl, by decide⟩ (by decide) rfl tX8_finds_X8 (by decide) kX8_finds_47 rfl rfl ?_
      refine rr_iconst hG (v := 0) dX8_finds_54 (by decide) ?_
      refine rr_cVJ hG (st := []) (n := 2) (ci := 8) (rf := 2) (rl := 44) [.ref (ph 92), .int (0 : Int32)] dX8_finds_55 hf ⟨rfl, by decide⟩ (by decide) rfl gX8_finds_X8_expense rfl (by decide +kernel) rfl ⟨by decide, by decide⟩ rfl (Nat.le_of_ble_eq_true rfl) (fun r9 M9 h9 => mX8_expense ph _ _ _ _ (rm_kself ⟨rfl, by decide⟩) h9) (fun r10 M11 h9 hf => ?_)
      refine rr_lstore_n hG (lv2 := [(3, .long r10), (0, .ref (ph 79)), (1, .long x1)]) dX8_finds_58 rfl (by decide) rfl ?_
      refine rr_lload_n hG dX8_finds_59 0 rfl rfl ?_
      refine rr_lload_n hG dX8_finds_60 2 rfl rfl ?_
      refine rr_lcmp hG dX8_finds_61 ?_
      refine rr_if_ge hG (tgt := 97) dX8_finds_62 (by decide) hf (fun c12 hf => ?_) (fun c12 hf => ?_)
      · exact rr_sub (lv2 := [(0, .ref (ph 79)), (1, .long x1)]) [1, 2] rfl (wX8_finds_L97 hG hR _ (ih) _ _ hf)
      · refine rr_lload_n hG dX8_finds_65 0 rfl rfl ?_
        refine rr_lstore_n hG (lv2 := [(1, .long r10), (3, .long r10), (0, .ref (ph 79))]) dX8_finds_66 rfl (by decide) rfl ?_
        refine rr_iconst hG (v := 0) dX8_finds_67 (by decide) ?_
        refine rr_istore hG (lv2 := [(5, .int (0 : Int32)), (1, .long r10), (3, .long r10), (0, .ref (ph 79))]) dX8_finds_68 (by decide) rfl ?_
        exact rr_sub (lv2 := [(0, .ref (ph 79)), (1, .long r10), (5, .int (0 : Int32))]) [3, 1, 0] rfl (wX8_finds_L70 hG hR _ (ih) _ _ _ _ hf)
set_option maxHeartbeats 4000000 in
set_option maxRecDepth 100000 in
theorem wX8_finds_L6 {G : rm_G} {ph : Nat → Nat} {rho : Int64 × rm_M}  (hG : rm_k G 96 ph cX8_finds RX8 wsX8_finds 6 3 70) (hR : rm_rJ G 96 ph rho)    : ∀ (n : Nat) (x1 : Int32) (M : rm_M), fX8_finds_L6 n x1 M = some rho → rm_L G 96 ph 6 6 [(0, .ref (ph 79)), (1, .int x1)] [] M := by
  intro n
  induction n with
  | zero => intro x1 M hf; rw [fX8_finds_L6] at hf; cases hf
  | succ n ih =>
    intro x1 M hf
    rw [fX8_finds_L6] at hf
    refine rr_iload_n hG dX8_finds_6 1 rfl rfl ?_
    refine rr_bipush hG (v := 6) dX8_finds_7 (by decide) ?_
    refine rr_icmp_ge hG (tgt := 32) dX8_finds_9 (by decide) hf (fun c13 hf => ?_) (fun c13 hf => ?_)
    · refine rr_aload_n hG dX8_finds_32 0 rfl rfl ?_
      refine rr_aload_n hG dX8_finds_33 0 rfl rfl ?_
      refine rr_get hG 8 20 (v := .ref (ph 92)) dX8_finds_34 ⟨rfl, by decide⟩ (by decide) rfl tX8_finds_X8 (by decide) kX8_finds_47 rfl rfl ?_
      refine rr_iconst hG (v := 0) dX8_finds_37 (by decide) ?_
      refine rr_cVJ hG (st := []) (n := 2) (ci := 8) (rf := 2) (rl := 44) [.ref (ph 92), .int (0 : Int32)] dX8_finds_38 hf ⟨rfl, by decide⟩ (by decide) rfl gX8_finds_X8_expense rfl (by decide +kernel) rfl ⟨by decide, by decide⟩ rfl (Nat.le_of_ble_eq_true rfl) (fun r9 M9 h9 => mX8_expense ph _ _ _ _ (rm_kself ⟨rfl, by decide⟩) h9) (fun r15 M16 h14 hf => ?_)
      refine rr_lstore_n hG (lv2 := [(1, .long r15), (0, .ref (ph 79))]) dX8_finds_41 rfl (by decide) rfl ?_
      exact rr_sub (lv2 := [(0, .ref (ph 79)), (1, .long r15)]) [1, 0] rfl (wX8_finds_L42 hG hR _ _ _ hf)
    · refine rr_aload_n hG dX8_finds_12 0 rfl rfl ?_
      refine rr_get hG 8 20 (v := .ref (ph 92)) dX8_finds_13 ⟨rfl, by decide⟩ (by decide) rfl tX8_finds_X8 (by decide) kX8_finds_47 rfl rfl ?_
      refine rr_iload_n hG dX8_finds_16 1 rfl rfl ?_
      refine rr_iconst hG (v := 0) dX8_finds_17 (by decide) ?_
      refine rr_iast hG dX8_finds_18 ⟨rfl, by decide⟩ hf (fun b17 hf => ?_)
      refine rr_bindM hf (fun M18 eM18 hf => ?_)
      refine rr_aload_n hG dX8_finds_19 0 rfl rfl ?_
      refine rr_get hG 8 21 (v := .ref (ph 93)) dX8_finds_20 ⟨rfl, by decide⟩ (by decide) rfl tX8_finds_X8 (by decide) kX8_finds_50 rfl rfl ?_
      refine rr_iload_n hG dX8_finds_23 1 rfl rfl ?_
      refine rr_iconst hG (v := 0) dX8_finds_24 (by decide) ?_
      refine rr_iast hG dX8_finds_25 ⟨rfl, by decide⟩ hf (fun b19 hf => ?_)
      refine rr_bindM hf (fun M20 eM20 hf => ?_)
      refine rr_iinc hG (v := x1 + (1 : Int32)) (lv2 := [(1, .int (x1 + (1 : Int32))), (0, .ref (ph 79))]) (k := 1) dX8_finds_26 rfl rfl (by decide) rfl ?_
      refine rr_goto hG (tgt := 6) dX8_finds_29 (by decide) ?_
      exact rr_sub (lv2 := [(0, .ref (ph 79)), (1, .int (x1 + (1 : Int32)))]) [1, 0] rfl (ih _ _ hf)
set_option maxHeartbeats 4000000 in
set_option maxRecDepth 100000 in
theorem mX8_finds (ph : Nat → Nat)  (M : rm_M) (rho : Int64 × rm_M)  (hf : fX8_finds M = some rho) : rm_CJ yX8_finds wsX8_finds 3 70 [.ref (ph 79)] 96 ph M rho := by
  refine rm_metJ (cc := cX8_finds) (maxL := 6) (by decide +kernel) rfl rfl (Nat.le_of_ble_eq_true rfl) rfl (fun G hG hR => ?_)
  unfold fX8_finds at hf
  refine rr_aload_n hG dX8_finds_0 0 rfl rfl ?_
  refine rr_cVV hG (st := []) (n := 0) (ci := 8) (rf := 1) (rl := 26) [] dX8_finds_1 hf ⟨rfl, by decide⟩ (by decide) rfl gX8_finds_X8_grows rfl (by decide +kernel) rfl ⟨by decide, by decide⟩ rfl (Nat.le_of_ble_eq_true rfl) (fun M9 h9 => mX8_grows ph _ _ h9) (fun M22 h21 hf => ?_)
  refine rr_iconst hG (v := 0) dX8_finds_4 (by decide) ?_
  refine rr_istore_n hG (lv2 := [(1, .int (0 : Int32)), (0, .ref (ph 79))]) dX8_finds_5 rfl (by decide) rfl ?_
  exact rr_sub (lv2 := [(0, .ref (ph 79)), (1, .int (0 : Int32))]) [1, 0] rfl (wX8_finds_L6 hG hR _ _ _ hf)
/-! X8.best -/
theorem tX8_best_X8 : ∀ w ∈ u_ws RX8 TX8 26, w ∈ wsX8_best := by decide +kernel
theorem kX8_best_50 : Cond.fieldLink RX8 50 "RingPagesModel" "best" "[I" ∈ wsX8_best := by decide +kernel
set_option maxHeartbeats 4000000 in
set_option maxRecDepth 100000 in
theorem mX8_best (ph : Nat → Nat) (a1 : Int32) (M : rm_M) (rho : Int32 × rm_M)  (hf : fX8_best a1 M = some rho) : rm_CI yX8_best wsX8_best 4 95 [.ref (ph 79), .int a1] 96 ph M rho := by
  refine rm_metI (cc := cX8_best) (maxL := 2) (by decide +kernel) rfl rfl (Nat.le_of_ble_eq_true rfl) rfl (fun G hG hR => ?_)
  unfold fX8_best at hf
  refine rr_aload_n hG dX8_best_0 0 rfl rfl ?_
  refine rr_iload_n hG dX8_best_1 1 rfl rfl ?_
  refine rr_cVI hG (st := []) (n := 1) (ci := 8) (rf := 1) (rl := 22) [.int a1] dX8_best_2 hf ⟨rfl, by decide⟩ (by decide) rfl gX8_best_X8_isCell rfl (by decide +kernel) rfl ⟨by decide, by decide⟩ rfl (Nat.le_of_ble_eq_true rfl) (fun r9 M9 h9 => mX8_isCell ph _ _ _ h9) (fun r2 M3 h1 hf => ?_)
  refine rr_if_ne hG (tgt := 10) dX8_best_5 (by decide) hf (fun c4 hf => ?_) (fun c4 hf => ?_)
  · refine rr_aload_n hG dX8_best_10 0 rfl rfl ?_
    refine rr_cVJ hG (st := []) (n := 0) (ci := 8) (rf := 3) (rl := 70) [] dX8_best_11 hf ⟨rfl, by decide⟩ (by decide) rfl gX8_best_X8_finds rfl (by decide +kernel) rfl ⟨by decide, by decide⟩ rfl (Nat.le_of_ble_eq_true rfl) (fun r9 M9 h9 => mX8_finds ph _ _ h9) (fun r6 M7 h5 hf => ?_)
    refine rr_pop2 hG dX8_best_14 rfl ?_
    refine rr_aload_n hG dX8_best_15 0 rfl rfl ?_
    refine rr_get hG 8 21 (v := .ref (ph 93)) dX8_best_16 ⟨rfl, by decide⟩ (by decide) rfl tX8_best_X8 (by decide) kX8_best_50 rfl rfl ?_
    refine rr_iload_n hG dX8_best_19 1 rfl rfl ?_
    refine rr_iald hG dX8_best_20 ⟨rfl, by decide⟩ hf (fun b8 hf => ?_)
    exact rr_iret hG hR dX8_best_21 hf
  · refine rr_iconst hG (v := (-1)) dX8_best_8 (by decide) ?_
    exact rr_iret hG hR dX8_best_9 hf
/-! X8.least -/
theorem kX8_least_197 : Cond.constantLong RX8 197 (100) ∈ wsX8_least := by decide +kernel
theorem kX8_least_184 : Cond.constantLong RX8 184 (-1) ∈ wsX8_least := by decide +kernel
set_option maxHeartbeats 4000000 in
set_option maxRecDepth 100000 in
theorem mX8_least (ph : Nat → Nat) (a1 : Int32) (M : rm_M) (rho : Int64 × rm_M)  (hf : fX8_least a1 M = some rho) : rm_CJ yX8_least wsX8_least 4 95 [.ref (ph 79), .int a1] 96 ph M rho := by
  refine rm_metJ (cc := cX8_least) (maxL := 2) (by decide +kernel) rfl rfl (Nat.le_of_ble_eq_true rfl) rfl (fun G hG hR => ?_)
  unfold fX8_least at hf
  refine rr_iload_n hG dX8_least_0 1 rfl rfl ?_
  refine rr_iconst hG (v := 0) dX8_least_1 (by decide) ?_
  refine rr_iconst hG (v := 1) dX8_least_2 (by decide) ?_
  refine rr_cSI hG (st := []) (n := 3) (rf := 0) (rl := 0) [.int a1, .int (0 : Int32), .int (1 : Int32)] dX8_least_3 hf gX8_least_X8_isIn rfl (by decide +kernel) rfl ⟨by decide, by decide⟩ rfl (Nat.le_of_ble_eq_true rfl) (fun r9 M9 h9 => mX8_isIn ph _ _ _ _ _ h9) (fun r2 M3 h1 hf => ?_)
  refine rr_if_ne hG (tgt := 13) dX8_least_6 (by decide) hf (fun c4 hf => ?_) (fun c4 hf => ?_)
  · refine rr_aload_n hG dX8_least_13 0 rfl rfl ?_
    refine rr_cVJ hG (st := []) (n := 0) (ci := 8) (rf := 3) (rl := 70) [] dX8_least_14 hf ⟨rfl, by decide⟩ (by decide) rfl gX8_least_X8_finds rfl (by decide +kernel) rfl ⟨by decide, by decide⟩ rfl (Nat.le_of_ble_eq_true rfl) (fun r9 M9 h9 => mX8_finds ph _ _ h9) (fun r6 M7 h5 hf => ?_)
    refine rr_ldc2 hG (v := (100)) dX8_least_17 kX8_least_197 ?_
    refine rr_aload_n hG dX8_least_20 0 rfl rfl ?_
    refine rr_cVJ hG (st := [.long (100 : Int64), .long r6]) (n := 0) (ci := 8) (rf := 2) (rl := 44) [] dX8_least_21 hf ⟨rfl, by decide⟩ (by decide) rfl gX8_least_X8_below rfl (by decide +kernel) rfl ⟨by decide, by decide⟩ rfl (Nat.le_of_ble_eq_true rfl) (fun r9 M9 h9 => mX8_below ph _ _ h9) (fun r9 M10 h8 hf => ?_)
    refine rr_lmul hG dX8_least_24 ?_
    refine rr_iload_n hG dX8_least_25 1 rfl rfl ?_
    refine rr_cSJ hG (st := []) (n := 3) (rf := 1) (rl := 29) [.long r6, .long ((100 : Int64) * r9), .int a1] dX8_least_26 hf gX8_least_X8_term rfl (by decide +kernel) rfl ⟨by decide, by decide⟩ rfl (Nat.le_of_ble_eq_true rfl) (fun r9 M9 h9 => mX8_term ph _ _ _ _ _ h9) (fun r12 M13 h11 hf => ?_)
    exact rr_lret hG hR dX8_least_29 hf
  · refine rr_ldc2 hG (v := (-1)) dX8_least_9 kX8_least_184 ?_
    exact rr_lret hG hR dX8_least_12 hf
