/-! X8.reads -/
theorem tX8_reads_X8 : ∀ w ∈ u_ws RX8 TX8 26, w ∈ wsX8_reads := by decide +kernel
theorem kX8_reads_85 : Cond.fieldLink RX8 85 "RingPagesModel" "length" "I" ∈ wsX8_reads := by decide +kernel
theorem kX8_reads_7 : Cond.fieldLink RX8 7 "RingPagesModel" "text" "[I" ∈ wsX8_reads := by decide +kernel
theorem kX8_reads_91 : Cond.fieldLink RX8 91 "RingPagesModel" "ends" "I" ∈ wsX8_reads := by decide +kernel
set_option maxHeartbeats 4000000 in
set_option maxRecDepth 100000 in
theorem wX8_reads_L6 {G : rm_G} {ph : Nat → Nat} {rho : Int32 × rm_M}  (hG : rm_k G 96 ph cX8_reads RX8 wsX8_reads 2 5 114) (hR : rm_rI G 96 ph .int rho)    : ∀ (n : Nat) (x1 : Int32) (M : rm_M), fX8_reads_L6 n x1 M = some rho → rm_L G 96 ph 2 6 [(0, .ref (ph 79)), (1, .int x1)] [] M := by
  intro n
  induction n with
  | zero => intro x1 M hf; rw [fX8_reads_L6] at hf; cases hf
  | succ n ih =>
    intro x1 M hf
    rw [fX8_reads_L6] at hf
    refine rr_iload_n hG dX8_reads_6 1 rfl rfl ?_
    refine rr_aload_n hG dX8_reads_7 0 rfl rfl ?_
    refine rr_get hG 8 0 dX8_reads_8 ⟨rfl, by decide⟩ (by decide) rfl tX8_reads_X8 (by decide) kX8_reads_85 rfl rfl ?_
    refine rr_icmp_ge hG (tgt := 55) dX8_reads_11 (by decide) hf (fun c1 hf => ?_) (fun c1 hf => ?_)
    · refine rr_bipush hG (v := (-4)) dX8_reads_55 (by decide) ?_
      exact rr_iret hG hR dX8_reads_57 hf
    · refine rr_aload_n hG dX8_reads_14 0 rfl rfl ?_
      refine rr_aload_n hG dX8_reads_15 0 rfl rfl ?_
      refine rr_get hG 8 1 (v := .ref (ph 80)) dX8_reads_16 ⟨rfl, by decide⟩ (by decide) rfl tX8_reads_X8 (by decide) kX8_reads_7 rfl rfl ?_
      refine rr_iload_n hG dX8_reads_19 1 rfl rfl ?_
      refine rr_iald hG dX8_reads_20 ⟨rfl, by decide⟩ hf (fun b2 hf => ?_)
      refine rr_iload_n hG dX8_reads_21 1 rfl rfl ?_
      refine rr_iconst hG (v := 1) dX8_reads_22 (by decide) ?_
      refine rr_iadd hG dX8_reads_23 ?_
      refine rr_cVI hG (st := []) (n := 2) (ci := 8) (rf := 4) (rl := 91) [.int (M.1 80 (x1).toNatClampNeg), .int (x1 + (1 : Int32))] dX8_reads_24 hf ⟨rfl, by decide⟩ (by decide) rfl gX8_reads_X8_readsItem rfl (by decide +kernel) rfl ⟨by decide, by decide⟩ rfl (Nat.le_of_ble_eq_true rfl) (fun r9 M9 h9 => mX8_readsItem ph _ _ _ _ h9) (fun r4 M5 h3 hf => ?_)
      refine rr_if_eq hG (tgt := 43) dX8_reads_27 (by decide) hf (fun c6 hf => ?_) (fun c6 hf => ?_)
      · refine rr_iload_n hG dX8_reads_43 1 rfl rfl ?_
        exact rr_iret hG hR dX8_reads_44 hf
      · refine rr_aload_n hG dX8_reads_30 0 rfl rfl ?_
        refine rr_aload_n hG dX8_reads_31 0 rfl rfl ?_
        refine rr_get hG 8 15 dX8_reads_32 ⟨rfl, by decide⟩ (by decide) rfl tX8_reads_X8 (by decide) kX8_reads_91 rfl rfl ?_
        refine rr_cVI hG (st := []) (n := 1) (ci := 8) (rf := 0) (rl := 0) [.int (M5.1 79 15)] dX8_reads_35 hf ⟨rfl, by decide⟩ (by decide) rfl gX8_reads_X8_letterAt rfl (by decide +kernel) rfl ⟨by decide, by decide⟩ rfl (Nat.le_of_ble_eq_true rfl) (fun r9 M9 h9 => mX8_letterAt ph _ _ _ h9) (fun r8 M9 h7 hf => ?_)
        refine rr_bipush hG (v := 59) dX8_reads_38 (by decide) ?_
        refine rr_icmp_eq hG (tgt := 45) dX8_reads_40 (by decide) hf (fun c10 hf => ?_) (fun c10 hf => ?_)
        · refine rr_aload_n hG dX8_reads_45 0 rfl rfl ?_
          refine rr_get hG 8 15 dX8_reads_46 ⟨rfl, by decide⟩ (by decide) rfl tX8_reads_X8 (by decide) kX8_reads_91 rfl rfl ?_
          refine rr_iconst hG (v := 1) dX8_reads_49 (by decide) ?_
          refine rr_iadd hG dX8_reads_50 ?_
          refine rr_bindI hf (fun v11 ev11 hf => ?_)
          refine rr_istore_n hG (lv2 := [(1, .int v11), (0, .ref (ph 79))]) dX8_reads_51 rfl (by decide) rfl ?_
          refine rr_goto hG (tgt := 6) dX8_reads_52 (by decide) ?_
          exact rr_sub (lv2 := [(0, .ref (ph 79)), (1, .int v11)]) [1, 0] rfl (ih _ _ hf)
        · refine rr_iload_n hG dX8_reads_43 1 rfl rfl ?_
          exact rr_iret hG hR dX8_reads_44 hf
set_option maxHeartbeats 4000000 in
set_option maxRecDepth 100000 in
theorem mX8_reads (ph : Nat → Nat)  (M : rm_M) (rho : Int32 × rm_M)  (hf : fX8_reads M = some rho) : rm_CI yX8_reads wsX8_reads 5 114 [.ref (ph 79)] 96 ph M rho := by
  refine rm_metI (cc := cX8_reads) (maxL := 2) (by decide +kernel) rfl rfl (Nat.le_of_ble_eq_true rfl) rfl (fun G hG hR => ?_)
  unfold fX8_reads at hf
  refine rr_aload_n hG dX8_reads_0 0 rfl rfl ?_
  refine rr_cVV hG (st := []) (n := 0) (ci := 8) (rf := 0) (rl := 0) [] dX8_reads_1 hf ⟨rfl, by decide⟩ (by decide) rfl gX8_reads_X8_clears rfl (by decide +kernel) rfl ⟨by decide, by decide⟩ rfl (Nat.le_of_ble_eq_true rfl) (fun M9 h9 => mX8_clears ph _ _ h9) (fun M13 h12 hf => ?_)
  refine rr_iconst hG (v := 0) dX8_reads_4 (by decide) ?_
  refine rr_istore_n hG (lv2 := [(1, .int (0 : Int32)), (0, .ref (ph 79))]) dX8_reads_5 rfl (by decide) rfl ?_
  exact rr_sub (lv2 := [(0, .ref (ph 79)), (1, .int (0 : Int32))]) [1, 0] rfl (wX8_reads_L6 hG hR _ _ _ hf)
/-! X8.hang -/
theorem tX8_hang_X8 : ∀ w ∈ u_ws RX8 TX8 26, w ∈ wsX8_hang := by decide +kernel
theorem kX8_hang_25 : Cond.fieldLink RX8 25 "RingPagesModel" "readWeight" "[I" ∈ wsX8_hang := by decide +kernel
theorem kX8_hang_62 : Cond.fieldLink RX8 62 "RingPagesModel" "readCells" "I" ∈ wsX8_hang := by decide +kernel
set_option maxHeartbeats 4000000 in
set_option maxRecDepth 100000 in
theorem wX8_hang_L52 {G : rm_G} {ph : Nat → Nat} {rho : Int32 × rm_M}  (hG : rm_k G 96 ph cX8_hang RX8 wsX8_hang 4 0 0) (hR : rm_rI G 96 ph .boolean rho)  (q4 : Int32 → Int32 → rm_M → Option (Int32 × rm_M)) (q14 : Int32 → Int32 → Int32 → rm_M → Option (Int32 × rm_M)) (hq4 : ∀ (x1 : Int32) (x2 : Int32) (M : rm_M), q4 x1 x2 M = some rho → rm_L G 96 ph 4 4 [(0, .ref (ph 79)), (1, .int x1), (2, .int x2)] [] M) (hq14 : ∀ (x1 : Int32) (x2 : Int32) (x3 : Int32) (M : rm_M), q14 x1 x2 x3 M = some rho → rm_L G 96 ph 4 14 [(0, .ref (ph 79)), (1, .int x1), (2, .int x2), (3, .int x3)] [] M) : ∀ (x2 : Int32) (x3 : Int32) (s0 : Int32) (s1 : Int32) (M : rm_M), fX8_hang_L52 q4 q14 x2 x3 s0 s1 M = some rho → rm_L G 96 ph 4 52 [(0, .ref (ph 79)), (2, .int x2), (3, .int x3)] [.int s1, .int s0] M := by
  intro x2 x3 s0 s1 M hf
  unfold fX8_hang_L52 at hf
  refine rr_ior hG dX8_hang_52 ?_
  refine rr_bindI hf (fun v1 ev1 hf => ?_)
  refine rr_istore_n hG (lv2 := [(1, .int v1), (0, .ref (ph 79)), (2, .int x2), (3, .int x3)]) dX8_hang_53 rfl (by decide) rfl ?_
  refine rr_iinc hG (v := x3 + (1 : Int32)) (lv2 := [(3, .int (x3 + (1 : Int32))), (1, .int v1), (0, .ref (ph 79)), (2, .int x2)]) (k := 3) dX8_hang_54 rfl rfl (by decide) rfl ?_
  refine rr_goto hG (tgt := 14) dX8_hang_57 (by decide) ?_
  exact rr_sub (lv2 := [(0, .ref (ph 79)), (1, .int v1), (2, .int x2), (3, .int (x3 + (1 : Int32)))]) [2, 1, 3, 0] rfl (hq14 _ _ _ _ hf)
set_option maxHeartbeats 4000000 in
set_option maxRecDepth 100000 in
theorem wX8_hang_L51 {G : rm_G} {ph : Nat → Nat} {rho : Int32 × rm_M}  (hG : rm_k G 96 ph cX8_hang RX8 wsX8_hang 4 0 0) (hR : rm_rI G 96 ph .boolean rho)  (q4 : Int32 → Int32 → rm_M → Option (Int32 × rm_M)) (q14 : Int32 → Int32 → Int32 → rm_M → Option (Int32 × rm_M)) (hq4 : ∀ (x1 : Int32) (x2 : Int32) (M : rm_M), q4 x1 x2 M = some rho → rm_L G 96 ph 4 4 [(0, .ref (ph 79)), (1, .int x1), (2, .int x2)] [] M) (hq14 : ∀ (x1 : Int32) (x2 : Int32) (x3 : Int32) (M : rm_M), q14 x1 x2 x3 M = some rho → rm_L G 96 ph 4 14 [(0, .ref (ph 79)), (1, .int x1), (2, .int x2), (3, .int x3)] [] M) : ∀ (x2 : Int32) (x3 : Int32) (s0 : Int32) (M : rm_M), fX8_hang_L51 q4 q14 x2 x3 s0 M = some rho → rm_L G 96 ph 4 51 [(0, .ref (ph 79)), (2, .int x2), (3, .int x3)] [.int s0] M := by
  intro x2 x3 s0 M hf
  unfold fX8_hang_L51 at hf
  refine rr_iconst hG (v := 0) dX8_hang_51 (by decide) ?_
  exact rr_sub (lv2 := [(0, .ref (ph 79)), (2, .int x2), (3, .int x3)]) [0, 1, 2] rfl (wX8_hang_L52 hG hR _ _ (hq4) (hq14) _ _ _ _ _ hf)
set_option maxHeartbeats 4000000 in
set_option maxRecDepth 100000 in
theorem wX8_hang_L14 {G : rm_G} {ph : Nat → Nat} {rho : Int32 × rm_M}  (hG : rm_k G 96 ph cX8_hang RX8 wsX8_hang 4 0 0) (hR : rm_rI G 96 ph .boolean rho)  (q4 : Int32 → Int32 → rm_M → Option (Int32 × rm_M)) (hq4 : ∀ (x1 : Int32) (x2 : Int32) (M : rm_M), q4 x1 x2 M = some rho → rm_L G 96 ph 4 4 [(0, .ref (ph 79)), (1, .int x1), (2, .int x2)] [] M) : ∀ (n : Nat) (x1 : Int32) (x2 : Int32) (x3 : Int32) (M : rm_M), fX8_hang_L14 q4 n x1 x2 x3 M = some rho → rm_L G 96 ph 4 14 [(0, .ref (ph 79)), (1, .int x1), (2, .int x2), (3, .int x3)] [] M := by
  intro n
  induction n with
  | zero => intro x1 x2 x3 M hf; rw [fX8_hang_L14] at hf; cases hf
  | succ n ih =>
    intro x1 x2 x3 M hf
    rw [fX8_hang_L14] at hf
    refine rr_iload_n hG dX8_hang_14 3 rfl rfl ?_
    refine rr_bipush hG (v := 36) dX8_hang_15 (by decide) ?_
    refine rr_icmp_ge hG (tgt := 60) dX8_hang_17 (by decide) hf (fun c2 hf => ?_) (fun c2 hf => ?_)
    · refine rr_iinc hG (v := x2 + (1 : Int32)) (lv2 := [(2, .int (x2 + (1 : Int32))), (0, .ref (ph 79)), (1, .int x1), (3, .int x3)]) (k := 2) dX8_hang_60 rfl rfl (by decide) rfl ?_
      refine rr_goto hG (tgt := 4) dX8_hang_63 (by decide) ?_
      exact rr_sub (lv2 := [(0, .ref (ph 79)), (1, .int x1), (2, .int (x2 + (1 : Int32)))]) [1, 2, 0] rfl (hq4 _ _ _ hf)
    · refine rr_iload_n hG dX8_hang_20 1 rfl rfl ?_
      refine rr_aload_n hG dX8_hang_21 0 rfl rfl ?_
      refine rr_get hG 8 11 (v := .ref (ph 85)) dX8_hang_22 ⟨rfl, by decide⟩ (by decide) rfl tX8_hang_X8 (by decide) kX8_hang_25 rfl rfl ?_
      refine rr_iload_n hG dX8_hang_25 3 rfl rfl ?_
      refine rr_iald hG dX8_hang_26 ⟨rfl, by decide⟩ hf (fun b3 hf => ?_)
      refine rr_if_le hG (tgt := 51) dX8_hang_27 (by decide) hf (fun c4 hf => ?_) (fun c4 hf => ?_)
      · exact rr_sub (lv2 := [(0, .ref (ph 79)), (2, .int x2), (3, .int x3)]) [0, 2, 3] rfl (wX8_hang_L51 hG hR _ _ (hq4) (ih) _ _ _ _ hf)
      · refine rr_iload_n hG dX8_hang_30 1 rfl rfl ?_
        refine rr_iload_n hG dX8_hang_31 3 rfl rfl ?_
        refine rr_bipush hG (v := 6) dX8_hang_32 (by decide) ?_
        refine rr_idiv hG dX8_hang_34 hf (fun hf => ?_)
        refine rr_ishr hG dX8_hang_35 ?_
        refine rr_iconst hG (v := 1) dX8_hang_36 (by decide) ?_
        refine rr_iand hG dX8_hang_37 ?_
        refine rr_iconst hG (v := 1) dX8_hang_38 (by decide) ?_
        refine rr_icmp_ne hG (tgt := 51) dX8_hang_39 (by decide) hf (fun c5 hf => ?_) (fun c5 hf => ?_)
        · exact rr_sub (lv2 := [(0, .ref (ph 79)), (2, .int x2), (3, .int x3)]) [0, 2, 3] rfl (wX8_hang_L51 hG hR _ _ (hq4) (ih) _ _ _ _ hf)
        · refine rr_iconst hG (v := 1) dX8_hang_42 (by decide) ?_
          refine rr_iload_n hG dX8_hang_43 3 rfl rfl ?_
          refine rr_bipush hG (v := 6) dX8_hang_44 (by decide) ?_
          refine rr_irem hG dX8_hang_46 hf (fun hf => ?_)
          refine rr_ishl hG dX8_hang_47 ?_
          refine rr_goto hG (tgt := 52) dX8_hang_48 (by decide) ?_
          exact rr_sub (lv2 := [(0, .ref (ph 79)), (2, .int x2), (3, .int x3)]) [0, 2, 3] rfl (wX8_hang_L52 hG hR _ _ (hq4) (ih) _ _ _ _ _ hf)
set_option maxHeartbeats 4000000 in
set_option maxRecDepth 100000 in
theorem wX8_hang_L4 {G : rm_G} {ph : Nat → Nat} {rho : Int32 × rm_M}  (hG : rm_k G 96 ph cX8_hang RX8 wsX8_hang 4 0 0) (hR : rm_rI G 96 ph .boolean rho)    : ∀ (n : Nat) (x1 : Int32) (x2 : Int32) (M : rm_M), fX8_hang_L4 n x1 x2 M = some rho → rm_L G 96 ph 4 4 [(0, .ref (ph 79)), (1, .int x1), (2, .int x2)] [] M := by
  intro n
  induction n with
  | zero => intro x1 x2 M hf; rw [fX8_hang_L4] at hf; cases hf
  | succ n ih =>
    intro x1 x2 M hf
    rw [fX8_hang_L4] at hf
    refine rr_iload_n hG dX8_hang_4 2 rfl rfl ?_
    refine rr_aload_n hG dX8_hang_5 0 rfl rfl ?_
    refine rr_get hG 8 9 dX8_hang_6 ⟨rfl, by decide⟩ (by decide) rfl tX8_hang_X8 (by decide) kX8_hang_62 rfl rfl ?_
    refine rr_icmp_ge hG (tgt := 66) dX8_hang_9 (by decide) hf (fun c6 hf => ?_) (fun c6 hf => ?_)
    · refine rr_aload_n hG dX8_hang_66 0 rfl rfl ?_
      refine rr_get hG 8 9 dX8_hang_67 ⟨rfl, by decide⟩ (by decide) rfl tX8_hang_X8 (by decide) kX8_hang_62 rfl rfl ?_
      refine rr_if_le hG (tgt := 89) dX8_hang_70 (by decide) hf (fun c7 hf => ?_) (fun c7 hf => ?_)
      · refine rr_iconst hG (v := 0) dX8_hang_89 (by decide) ?_
        exact rr_zret hG hR dX8_hang_90 hf
      · refine rr_iload_n hG dX8_hang_73 1 rfl rfl ?_
        refine rr_iconst hG (v := 1) dX8_hang_74 (by decide) ?_
        refine rr_aload_n hG dX8_hang_75 0 rfl rfl ?_
        refine rr_get hG 8 9 dX8_hang_76 ⟨rfl, by decide⟩ (by decide) rfl tX8_hang_X8 (by decide) kX8_hang_62 rfl rfl ?_
        refine rr_ishl hG dX8_hang_79 ?_
        refine rr_iconst hG (v := 1) dX8_hang_80 (by decide) ?_
        refine rr_isub hG dX8_hang_81 ?_
        refine rr_icmp_ne hG (tgt := 89) dX8_hang_82 (by decide) hf (fun c8 hf => ?_) (fun c8 hf => ?_)
        · refine rr_iconst hG (v := 0) dX8_hang_89 (by decide) ?_
          exact rr_zret hG hR dX8_hang_90 hf
        · refine rr_iconst hG (v := 1) dX8_hang_85 (by decide) ?_
          refine rr_goto hG (tgt := 90) dX8_hang_86 (by decide) ?_
          exact rr_zret hG hR dX8_hang_90 hf
    · refine rr_iconst hG (v := 0) dX8_hang_12 (by decide) ?_
      refine rr_istore_n hG (lv2 := [(3, .int (0 : Int32)), (0, .ref (ph 79)), (1, .int x1), (2, .int x2)]) dX8_hang_13 rfl (by decide) rfl ?_
      exact rr_sub (lv2 := [(0, .ref (ph 79)), (1, .int x1), (2, .int x2), (3, .int (0 : Int32))]) [1, 2, 3, 0] rfl (wX8_hang_L14 hG hR _ (ih) _ _ _ _ _ hf)
set_option maxHeartbeats 4000000 in
set_option maxRecDepth 100000 in
theorem mX8_hang (ph : Nat → Nat)  (M : rm_M) (rho : Int32 × rm_M)  (hf : fX8_hang M = some rho) : rm_CI yX8_hang wsX8_hang 0 0 [.ref (ph 79)] 96 ph M rho := by
  refine rm_metI (cc := cX8_hang) (maxL := 4) (by decide +kernel) rfl rfl (Nat.le_of_ble_eq_true rfl) rfl (fun G hG hR => ?_)
  unfold fX8_hang at hf
  refine rr_iconst hG (v := 1) dX8_hang_0 (by decide) ?_
  refine rr_istore_n hG (lv2 := [(1, .int (1 : Int32)), (0, .ref (ph 79))]) dX8_hang_1 rfl (by decide) rfl ?_
  refine rr_iconst hG (v := 0) dX8_hang_2 (by decide) ?_
  refine rr_istore_n hG (lv2 := [(2, .int (0 : Int32)), (1, .int (1 : Int32)), (0, .ref (ph 79))]) dX8_hang_3 rfl (by decide) rfl ?_
  exact rr_sub (lv2 := [(0, .ref (ph 79)), (1, .int (1 : Int32)), (2, .int (0 : Int32))]) [2, 1, 0] rfl (wX8_hang_L4 hG hR _ _ _ _ hf)
/-! X8.write -/
theorem tX8_write_X8 : ∀ w ∈ u_ws RX8 TX8 26, w ∈ wsX8_write := by decide +kernel
theorem kX8_write_85 : Cond.fieldLink RX8 85 "RingPagesModel" "length" "I" ∈ wsX8_write := by decide +kernel
theorem kX8_write_7 : Cond.fieldLink RX8 7 "RingPagesModel" "text" "[I" ∈ wsX8_write := by decide +kernel
set_option maxHeartbeats 4000000 in
set_option maxRecDepth 100000 in
theorem mX8_write (ph : Nat → Nat) (a1 : Int32) (M : rm_M) (rho : Int32 × rm_M)  (hf : fX8_write a1 M = some rho) : rm_CI yX8_write wsX8_write 0 0 [.ref (ph 79), .int a1] 96 ph M rho := by
  refine rm_metI (cc := cX8_write) (maxL := 2) (by decide +kernel) rfl rfl (Nat.le_of_ble_eq_true rfl) rfl (fun G hG hR => ?_)
  unfold fX8_write at hf
  refine rr_iload_n hG dX8_write_0 1 rfl rfl ?_
  refine rr_bipush hG (v := 32) dX8_write_1 (by decide) ?_
  refine rr_icmp_lt hG (tgt := 12) dX8_write_3 (by decide) hf (fun c1 hf => ?_) (fun c1 hf => ?_)
  · refine rr_iconst hG (v := (-1)) dX8_write_12 (by decide) ?_
    exact rr_iret hG hR dX8_write_13 hf
  · refine rr_iload_n hG dX8_write_6 1 rfl rfl ?_
    refine rr_bipush hG (v := 126) dX8_write_7 (by decide) ?_
    refine rr_icmp_le hG (tgt := 14) dX8_write_9 (by decide) hf (fun c2 hf => ?_) (fun c2 hf => ?_)
    · refine rr_aload_n hG dX8_write_14 0 rfl rfl ?_
      refine rr_get hG 8 0 dX8_write_15 ⟨rfl, by decide⟩ (by decide) rfl tX8_write_X8 (by decide) kX8_write_85 rfl rfl ?_
      refine rr_sipush hG (v := 200) dX8_write_18 (by decide) ?_
      refine rr_icmp_ne hG (tgt := 27) dX8_write_21 (by decide) hf (fun c3 hf => ?_) (fun c3 hf => ?_)
      · refine rr_aload_n hG dX8_write_27 0 rfl rfl ?_
        refine rr_get hG 8 1 (v := .ref (ph 80)) dX8_write_28 ⟨rfl, by decide⟩ (by decide) rfl tX8_write_X8 (by decide) kX8_write_7 rfl rfl ?_
        refine rr_aload_n hG dX8_write_31 0 rfl rfl ?_
        refine rr_get hG 8 0 dX8_write_32 ⟨rfl, by decide⟩ (by decide) rfl tX8_write_X8 (by decide) kX8_write_85 rfl rfl ?_
        refine rr_iload_n hG dX8_write_35 1 rfl rfl ?_
        refine rr_iast hG dX8_write_36 ⟨rfl, by decide⟩ hf (fun b4 hf => ?_)
        refine rr_bindM hf (fun M5 eM5 hf => ?_)
        refine rr_aload_n hG dX8_write_37 0 rfl rfl ?_
        refine rr_dup hG dX8_write_38 rfl ?_
        refine rr_get hG 8 0 dX8_write_39 ⟨rfl, by decide⟩ (by decide) rfl tX8_write_X8 (by decide) kX8_write_85 rfl rfl ?_
        refine rr_iconst hG (v := 1) dX8_write_42 (by decide) ?_
        refine rr_iadd hG dX8_write_43 ?_
        refine rr_putI hG 8 0 dX8_write_44 ⟨rfl, by decide⟩ (by decide) rfl tX8_write_X8 tyX8_ok nmX8 (by decide) kX8_write_85 rfl rfl rfl rfl rfl (Nat.le_of_ble_eq_true rfl) rfl ?_
        refine rr_bindM hf (fun M6 eM6 hf => ?_)
        refine rr_aload_n hG dX8_write_47 0 rfl rfl ?_
        refine rr_get hG 8 0 dX8_write_48 ⟨rfl, by decide⟩ (by decide) rfl tX8_write_X8 (by decide) kX8_write_85 rfl rfl ?_
        exact rr_iret hG hR dX8_write_51 hf
      · refine rr_bipush hG (v := (-3)) dX8_write_24 (by decide) ?_
        exact rr_iret hG hR dX8_write_26 hf
    · refine rr_iconst hG (v := (-1)) dX8_write_12 (by decide) ?_
      exact rr_iret hG hR dX8_write_13 hf
/-! X8.wipe -/
theorem tX8_wipe_X8 : ∀ w ∈ u_ws RX8 TX8 26, w ∈ wsX8_wipe := by decide +kernel
theorem kX8_wipe_85 : Cond.fieldLink RX8 85 "RingPagesModel" "length" "I" ∈ wsX8_wipe := by decide +kernel
set_option maxHeartbeats 4000000 in
set_option maxRecDepth 100000 in
theorem mX8_wipe (ph : Nat → Nat)  (M : rm_M) (rho : Int32 × rm_M)  (hf : fX8_wipe M = some rho) : rm_CI yX8_wipe wsX8_wipe 0 0 [.ref (ph 79)] 96 ph M rho := by
  refine rm_metI (cc := cX8_wipe) (maxL := 2) (by decide +kernel) rfl rfl (Nat.le_of_ble_eq_true rfl) rfl (fun G hG hR => ?_)
  unfold fX8_wipe at hf
  refine rr_aload_n hG dX8_wipe_0 0 rfl rfl ?_
  refine rr_get hG 8 0 dX8_wipe_1 ⟨rfl, by decide⟩ (by decide) rfl tX8_wipe_X8 (by decide) kX8_wipe_85 rfl rfl ?_
  refine rr_bindI hf (fun v1 ev1 hf => ?_)
  refine rr_istore_n hG (lv2 := [(1, .int v1), (0, .ref (ph 79))]) dX8_wipe_4 rfl (by decide) rfl ?_
  refine rr_aload_n hG dX8_wipe_5 1 rfl rfl ?_
  refine rr_iconst hG (v := 0) dX8_wipe_6 (by decide) ?_
  refine rr_putI hG 8 0 dX8_wipe_7 ⟨rfl, by decide⟩ (by decide) rfl tX8_wipe_X8 tyX8_ok nmX8 (by decide) kX8_wipe_85 rfl rfl rfl rfl rfl (Nat.le_of_ble_eq_true rfl) rfl ?_
  refine rr_bindM hf (fun M2 eM2 hf => ?_)
  refine rr_iload_n hG dX8_wipe_10 0 rfl rfl ?_
  exact rr_iret hG hR dX8_wipe_11 hf
/-! X8.fault -/
set_option maxHeartbeats 4000000 in
set_option maxRecDepth 100000 in
theorem mX8_fault (ph : Nat → Nat)  (M : rm_M) (rho : Int32 × rm_M)  (hf : fX8_fault M = some rho) : rm_CI yX8_fault wsX8_fault 6 135 [.ref (ph 79)] 96 ph M rho := by
  refine rm_metI (cc := cX8_fault) (maxL := 1) (by decide +kernel) rfl rfl (Nat.le_of_ble_eq_true rfl) rfl (fun G hG hR => ?_)
  unfold fX8_fault at hf
  refine rr_aload_n hG dX8_fault_0 0 rfl rfl ?_
  refine rr_cVI hG (st := []) (n := 0) (ci := 8) (rf := 5) (rl := 114) [] dX8_fault_1 hf ⟨rfl, by decide⟩ (by decide) rfl gX8_fault_X8_reads rfl (by decide +kernel) rfl ⟨by decide, by decide⟩ rfl (Nat.le_of_ble_eq_true rfl) (fun r9 M9 h9 => mX8_reads ph _ _ h9) (fun r2 M3 h1 hf => ?_)
  exact rr_iret hG hR dX8_fault_4 hf
/-! X8.lay -/
theorem tX8_lay_X8 : ∀ w ∈ u_ws RX8 TX8 26, w ∈ wsX8_lay := by decide +kernel
theorem kX8_lay_76 : Cond.fieldLink RX8 76 "RingPagesModel" "cells" "I" ∈ wsX8_lay := by decide +kernel
set_option maxHeartbeats 4000000 in
set_option maxRecDepth 100000 in
theorem mX8_lay (ph : Nat → Nat)  (M : rm_M) (rho : Int32 × rm_M)  (hf : fX8_lay M = some rho) : rm_CI yX8_lay wsX8_lay 6 135 [.ref (ph 79)] 96 ph M rho := by
  refine rm_metI (cc := cX8_lay) (maxL := 1) (by decide +kernel) rfl rfl (Nat.le_of_ble_eq_true rfl) rfl (fun G hG hR => ?_)
  unfold fX8_lay at hf
  refine rr_aload_n hG dX8_lay_0 0 rfl rfl ?_
  refine rr_cVI hG (st := []) (n := 0) (ci := 8) (rf := 5) (rl := 114) [] dX8_lay_1 hf ⟨rfl, by decide⟩ (by decide) rfl gX8_lay_X8_reads rfl (by decide +kernel) rfl ⟨by decide, by decide⟩ rfl (Nat.le_of_ble_eq_true rfl) (fun r9 M9 h9 => mX8_reads ph _ _ h9) (fun r2 M3 h1 hf => ?_)
  refine rr_bipush hG (v := (-4)) dX8_lay_4 (by decide) ?_
  refine rr_icmp_ne hG (tgt := 16) dX8_lay_6 (by decide) hf (fun c4 hf => ?_) (fun c4 hf => ?_)
  · refine rr_bipush hG (v := (-2)) dX8_lay_16 (by decide) ?_
    exact rr_iret hG hR dX8_lay_18 hf
  · refine rr_aload_n hG dX8_lay_9 0 rfl rfl ?_
    refine rr_cVI hG (st := []) (n := 0) (ci := 8) (rf := 0) (rl := 0) [] dX8_lay_10 hf ⟨rfl, by decide⟩ (by decide) rfl gX8_lay_X8_hang rfl (by decide +kernel) rfl ⟨by decide, by decide⟩ rfl (Nat.le_of_ble_eq_true rfl) (fun r9 M9 h9 => mX8_hang ph _ _ h9) (fun r6 M7 h5 hf => ?_)
    refine rr_if_ne hG (tgt := 19) dX8_lay_13 (by decide) hf (fun c8 hf => ?_) (fun c8 hf => ?_)
    · refine rr_aload_n hG dX8_lay_19 0 rfl rfl ?_
      refine rr_cVV hG (st := []) (n := 0) (ci := 8) (rf := 0) (rl := 0) [] dX8_lay_20 hf ⟨rfl, by decide⟩ (by decide) rfl gX8_lay_X8_takes rfl (by decide +kernel) rfl ⟨by decide, by decide⟩ rfl (Nat.le_of_ble_eq_true rfl) (fun M9 h9 => mX8_takes ph _ _ h9) (fun M10 h9 hf => ?_)
      refine rr_aload_n hG dX8_lay_23 0 rfl rfl ?_
      refine rr_get hG 8 2 dX8_lay_24 ⟨rfl, by decide⟩ (by decide) rfl tX8_lay_X8 (by decide) kX8_lay_76 rfl rfl ?_
      exact rr_iret hG hR dX8_lay_27 hf
    · refine rr_bipush hG (v := (-2)) dX8_lay_16 (by decide) ?_
      exact rr_iret hG hR dX8_lay_18 hf
/-! X8.keeps -/
theorem tX8_keeps_X8 : ∀ w ∈ u_ws RX8 TX8 26, w ∈ wsX8_keeps := by decide +kernel
theorem kX8_keeps_82 : Cond.fieldLink RX8 82 "RingPagesModel" "changes" "I" ∈ wsX8_keeps := by decide +kernel
theorem kX8_keeps_22 : Cond.fieldLink RX8 22 "RingPagesModel" "was" "[I" ∈ wsX8_keeps := by decide +kernel
theorem kX8_keeps_19 : Cond.fieldLink RX8 19 "RingPagesModel" "now" "[I" ∈ wsX8_keeps := by decide +kernel
set_option maxHeartbeats 4000000 in
set_option maxRecDepth 100000 in
theorem wX8_keeps_L50 {G : rm_G} {ph : Nat → Nat} {rho : rm_M}  (hG : rm_k G 96 ph cX8_keeps RX8 wsX8_keeps 2 0 0) (hR : rm_rV G 96 ph rho)    : ∀ (n : Nat) (x1 : Int32) (M : rm_M), fX8_keeps_L50 n x1 M = some rho → rm_L G 96 ph 2 50 [(0, .ref (ph 79)), (1, .int x1)] [] M := by
  intro n
  induction n with
  | zero => intro x1 M hf; rw [fX8_keeps_L50] at hf; cases hf
  | succ n ih =>
    intro x1 M hf
    rw [fX8_keeps_L50] at hf
    refine rr_iload_n hG dX8_keeps_50 1 rfl rfl ?_
    refine rr_bipush hG (v := 20) dX8_keeps_51 (by decide) ?_
    refine rr_icmp_ge hG (tgt := 82) dX8_keeps_53 (by decide) hf (fun c1 hf => ?_) (fun c1 hf => ?_)
    · refine rr_aload_n hG dX8_keeps_82 0 rfl rfl ?_
      refine rr_dup hG dX8_keeps_83 rfl ?_
      refine rr_get hG 8 8 dX8_keeps_84 ⟨rfl, by decide⟩ (by decide) rfl tX8_keeps_X8 (by decide) kX8_keeps_82 rfl rfl ?_
      refine rr_iconst hG (v := 1) dX8_keeps_87 (by decide) ?_
      refine rr_iadd hG dX8_keeps_88 ?_
      refine rr_putI hG 8 8 dX8_keeps_89 ⟨rfl, by decide⟩ (by decide) rfl tX8_keeps_X8 tyX8_ok nmX8 (by decide) kX8_keeps_82 rfl rfl rfl rfl rfl (Nat.le_of_ble_eq_true rfl) rfl ?_
      refine rr_bindM hf (fun M2 eM2 hf => ?_)
      exact rr_vret hG hR dX8_keeps_92 hf
    · refine rr_aload_n hG dX8_keeps_56 0 rfl rfl ?_
      refine rr_get hG 8 7 (v := .ref (ph 84)) dX8_keeps_57 ⟨rfl, by decide⟩ (by decide) rfl tX8_keeps_X8 (by decide) kX8_keeps_22 rfl rfl ?_
      refine rr_bipush hG (v := 20) dX8_keeps_60 (by decide) ?_
      refine rr_aload_n hG dX8_keeps_62 0 rfl rfl ?_
      refine rr_get hG 8 8 dX8_keeps_63 ⟨rfl, by decide⟩ (by decide) rfl tX8_keeps_X8 (by decide) kX8_keeps_82 rfl rfl ?_
      refine rr_imul hG dX8_keeps_66 ?_
      refine rr_iload_n hG dX8_keeps_67 1 rfl rfl ?_
      refine rr_iadd hG dX8_keeps_68 ?_
      refine rr_aload_n hG dX8_keeps_69 0 rfl rfl ?_
      refine rr_get hG 8 6 (v := .ref (ph 83)) dX8_keeps_70 ⟨rfl, by decide⟩ (by decide) rfl tX8_keeps_X8 (by decide) kX8_keeps_19 rfl rfl ?_
      refine rr_iload_n hG dX8_keeps_73 1 rfl rfl ?_
      refine rr_iald hG dX8_keeps_74 ⟨rfl, by decide⟩ hf (fun b3 hf => ?_)
      refine rr_iast hG dX8_keeps_75 ⟨rfl, by decide⟩ hf (fun b4 hf => ?_)
      refine rr_bindM hf (fun M5 eM5 hf => ?_)
      refine rr_iinc hG (v := x1 + (1 : Int32)) (lv2 := [(1, .int (x1 + (1 : Int32))), (0, .ref (ph 79))]) (k := 1) dX8_keeps_76 rfl rfl (by decide) rfl ?_
      refine rr_goto hG (tgt := 50) dX8_keeps_79 (by decide) ?_
      exact rr_sub (lv2 := [(0, .ref (ph 79)), (1, .int (x1 + (1 : Int32)))]) [1, 0] rfl (ih _ _ hf)
set_option maxHeartbeats 4000000 in
set_option maxRecDepth 100000 in
theorem wX8_keeps_L48 {G : rm_G} {ph : Nat → Nat} {rho : rm_M}  (hG : rm_k G 96 ph cX8_keeps RX8 wsX8_keeps 2 0 0) (hR : rm_rV G 96 ph rho)    : ∀  (M : rm_M), fX8_keeps_L48 M = some rho → rm_L G 96 ph 2 48 [(0, .ref (ph 79))] [] M := by
  intro M hf
  unfold fX8_keeps_L48 at hf
  refine rr_iconst hG (v := 0) dX8_keeps_48 (by decide) ?_
  refine rr_istore_n hG (lv2 := [(1, .int (0 : Int32)), (0, .ref (ph 79))]) dX8_keeps_49 rfl (by decide) rfl ?_
  exact rr_sub (lv2 := [(0, .ref (ph 79)), (1, .int (0 : Int32))]) [1, 0] rfl (wX8_keeps_L50 hG hR _ _ _ hf)
set_option maxHeartbeats 4000000 in
set_option maxRecDepth 100000 in
theorem wX8_keeps_L11 {G : rm_G} {ph : Nat → Nat} {rho : rm_M}  (hG : rm_k G 96 ph cX8_keeps RX8 wsX8_keeps 2 0 0) (hR : rm_rV G 96 ph rho)    : ∀ (n : Nat) (x1 : Int32) (M : rm_M), fX8_keeps_L11 n x1 M = some rho → rm_L G 96 ph 2 11 [(0, .ref (ph 79)), (1, .int x1)] [] M := by
  intro n
  induction n with
  | zero => intro x1 M hf; rw [fX8_keeps_L11] at hf; cases hf
  | succ n ih =>
    intro x1 M hf
    rw [fX8_keeps_L11] at hf
    refine rr_iload_n hG dX8_keeps_11 1 rfl rfl ?_
    refine rr_bipush hG (v := 100) dX8_keeps_12 (by decide) ?_
    refine rr_icmp_ge hG (tgt := 38) dX8_keeps_14 (by decide) hf (fun c6 hf => ?_) (fun c6 hf => ?_)
    · refine rr_aload_n hG dX8_keeps_38 0 rfl rfl ?_
      refine rr_dup hG dX8_keeps_39 rfl ?_
      refine rr_get hG 8 8 dX8_keeps_40 ⟨rfl, by decide⟩ (by decide) rfl tX8_keeps_X8 (by decide) kX8_keeps_82 rfl rfl ?_
      refine rr_iconst hG (v := 1) dX8_keeps_43 (by decide) ?_
      refine rr_isub hG dX8_keeps_44 ?_
      refine rr_putI hG 8 8 dX8_keeps_45 ⟨rfl, by decide⟩ (by decide) rfl tX8_keeps_X8 tyX8_ok nmX8 (by decide) kX8_keeps_82 rfl rfl rfl rfl rfl (Nat.le_of_ble_eq_true rfl) rfl ?_
      refine rr_bindM hf (fun M7 eM7 hf => ?_)
      exact rr_sub (lv2 := [(0, .ref (ph 79))]) [0] rfl (wX8_keeps_L48 hG hR _ hf)
    · refine rr_aload_n hG dX8_keeps_17 0 rfl rfl ?_
      refine rr_get hG 8 7 (v := .ref (ph 84)) dX8_keeps_18 ⟨rfl, by decide⟩ (by decide) rfl tX8_keeps_X8 (by decide) kX8_keeps_22 rfl rfl ?_
      refine rr_iload_n hG dX8_keeps_21 1 rfl rfl ?_
      refine rr_aload_n hG dX8_keeps_22 0 rfl rfl ?_
      refine rr_get hG 8 7 (v := .ref (ph 84)) dX8_keeps_23 ⟨rfl, by decide⟩ (by decide) rfl tX8_keeps_X8 (by decide) kX8_keeps_22 rfl rfl ?_
      refine rr_iload_n hG dX8_keeps_26 1 rfl rfl ?_
      refine rr_bipush hG (v := 20) dX8_keeps_27 (by decide) ?_
      refine rr_iadd hG dX8_keeps_29 ?_
      refine rr_iald hG dX8_keeps_30 ⟨rfl, by decide⟩ hf (fun b8 hf => ?_)
      refine rr_iast hG dX8_keeps_31 ⟨rfl, by decide⟩ hf (fun b9 hf => ?_)
      refine rr_bindM hf (fun M10 eM10 hf => ?_)
      refine rr_iinc hG (v := x1 + (1 : Int32)) (lv2 := [(1, .int (x1 + (1 : Int32))), (0, .ref (ph 79))]) (k := 1) dX8_keeps_32 rfl rfl (by decide) rfl ?_
      refine rr_goto hG (tgt := 11) dX8_keeps_35 (by decide) ?_
      exact rr_sub (lv2 := [(0, .ref (ph 79)), (1, .int (x1 + (1 : Int32)))]) [1, 0] rfl (ih _ _ hf)
set_option maxHeartbeats 4000000 in
set_option maxRecDepth 100000 in
theorem mX8_keeps (ph : Nat → Nat)  (M : rm_M) (rho : rm_M)  (hf : fX8_keeps M = some rho) : rm_CV yX8_keeps wsX8_keeps 0 0 [.ref (ph 79)] 96 ph M rho := by
  refine rm_metV (cc := cX8_keeps) (maxL := 2) (by decide +kernel) rfl rfl (Nat.le_of_ble_eq_true rfl) rfl (fun G hG hR => ?_)
  unfold fX8_keeps at hf
  refine rr_aload_n hG dX8_keeps_0 0 rfl rfl ?_
  refine rr_get hG 8 8 dX8_keeps_1 ⟨rfl, by decide⟩ (by decide) rfl tX8_keeps_X8 (by decide) kX8_keeps_82 rfl rfl ?_
  refine rr_bipush hG (v := 6) dX8_keeps_4 (by decide) ?_
  refine rr_icmp_ne hG (tgt := 48) dX8_keeps_6 (by decide) hf (fun c11 hf => ?_) (fun c11 hf => ?_)
  · exact rr_sub (lv2 := [(0, .ref (ph 79))]) [0] rfl (wX8_keeps_L48 hG hR _ hf)
  · refine rr_iconst hG (v := 0) dX8_keeps_9 (by decide) ?_
    refine rr_istore_n hG (lv2 := [(1, .int (0 : Int32)), (0, .ref (ph 79))]) dX8_keeps_10 rfl (by decide) rfl ?_
    exact rr_sub (lv2 := [(0, .ref (ph 79)), (1, .int (0 : Int32))]) [1, 0] rfl (wX8_keeps_L11 hG hR _ _ _ hf)
/-! X8.undo -/
theorem tX8_undo_X8 : ∀ w ∈ u_ws RX8 TX8 26, w ∈ wsX8_undo := by decide +kernel
theorem kX8_undo_82 : Cond.fieldLink RX8 82 "RingPagesModel" "changes" "I" ∈ wsX8_undo := by decide +kernel
theorem kX8_undo_19 : Cond.fieldLink RX8 19 "RingPagesModel" "now" "[I" ∈ wsX8_undo := by decide +kernel
theorem kX8_undo_22 : Cond.fieldLink RX8 22 "RingPagesModel" "was" "[I" ∈ wsX8_undo := by decide +kernel
set_option maxHeartbeats 4000000 in
set_option maxRecDepth 100000 in
theorem wX8_undo_L22 {G : rm_G} {ph : Nat → Nat} {rho : Int32 × rm_M}  (hG : rm_k G 96 ph cX8_undo RX8 wsX8_undo 2 0 0) (hR : rm_rI G 96 ph .int rho)    : ∀ (n : Nat) (x1 : Int32) (M : rm_M), fX8_undo_L22 n x1 M = some rho → rm_L G 96 ph 2 22 [(0, .ref (ph 79)), (1, .int x1)] [] M := by
  intro n
  induction n with
  | zero => intro x1 M hf; rw [fX8_undo_L22] at hf; cases hf
  | succ n ih =>
    intro x1 M hf
    rw [fX8_undo_L22] at hf
    refine rr_iload_n hG dX8_undo_22 1 rfl rfl ?_
    refine rr_bipush hG (v := 20) dX8_undo_23 (by decide) ?_
    refine rr_icmp_ge hG (tgt := 54) dX8_undo_25 (by decide) hf (fun c1 hf => ?_) (fun c1 hf => ?_)
    · refine rr_aload_n hG dX8_undo_54 0 rfl rfl ?_
      refine rr_get hG 8 8 dX8_undo_55 ⟨rfl, by decide⟩ (by decide) rfl tX8_undo_X8 (by decide) kX8_undo_82 rfl rfl ?_
      exact rr_iret hG hR dX8_undo_58 hf
    · refine rr_aload_n hG dX8_undo_28 0 rfl rfl ?_
      refine rr_get hG 8 6 (v := .ref (ph 83)) dX8_undo_29 ⟨rfl, by decide⟩ (by decide) rfl tX8_undo_X8 (by decide) kX8_undo_19 rfl rfl ?_
      refine rr_iload_n hG dX8_undo_32 1 rfl rfl ?_
      refine rr_aload_n hG dX8_undo_33 0 rfl rfl ?_
      refine rr_get hG 8 7 (v := .ref (ph 84)) dX8_undo_34 ⟨rfl, by decide⟩ (by decide) rfl tX8_undo_X8 (by decide) kX8_undo_22 rfl rfl ?_
      refine rr_bipush hG (v := 20) dX8_undo_37 (by decide) ?_
      refine rr_aload_n hG dX8_undo_39 0 rfl rfl ?_
      refine rr_get hG 8 8 dX8_undo_40 ⟨rfl, by decide⟩ (by decide) rfl tX8_undo_X8 (by decide) kX8_undo_82 rfl rfl ?_
      refine rr_imul hG dX8_undo_43 ?_
      refine rr_iload_n hG dX8_undo_44 1 rfl rfl ?_
      refine rr_iadd hG dX8_undo_45 ?_
      refine rr_iald hG dX8_undo_46 ⟨rfl, by decide⟩ hf (fun b2 hf => ?_)
      refine rr_iast hG dX8_undo_47 ⟨rfl, by decide⟩ hf (fun b3 hf => ?_)
      refine rr_bindM hf (fun M4 eM4 hf => ?_)
      refine rr_iinc hG (v := x1 + (1 : Int32)) (lv2 := [(1, .int (x1 + (1 : Int32))), (0, .ref (ph 79))]) (k := 1) dX8_undo_48 rfl rfl (by decide) rfl ?_
      refine rr_goto hG (tgt := 22) dX8_undo_51 (by decide) ?_
      exact rr_sub (lv2 := [(0, .ref (ph 79)), (1, .int (x1 + (1 : Int32)))]) [1, 0] rfl (ih _ _ hf)
set_option maxHeartbeats 4000000 in
set_option maxRecDepth 100000 in
theorem mX8_undo (ph : Nat → Nat)  (M : rm_M) (rho : Int32 × rm_M)  (hf : fX8_undo M = some rho) : rm_CI yX8_undo wsX8_undo 0 0 [.ref (ph 79)] 96 ph M rho := by
  refine rm_metI (cc := cX8_undo) (maxL := 2) (by decide +kernel) rfl rfl (Nat.le_of_ble_eq_true rfl) rfl (fun G hG hR => ?_)
  unfold fX8_undo at hf
  refine rr_aload_n hG dX8_undo_0 0 rfl rfl ?_
  refine rr_get hG 8 8 dX8_undo_1 ⟨rfl, by decide⟩ (by decide) rfl tX8_undo_X8 (by decide) kX8_undo_82 rfl rfl ?_
  refine rr_if_ne hG (tgt := 10) dX8_undo_4 (by decide) hf (fun c5 hf => ?_) (fun c5 hf => ?_)
  · refine rr_aload_n hG dX8_undo_10 0 rfl rfl ?_
    refine rr_dup hG dX8_undo_11 rfl ?_
    refine rr_get hG 8 8 dX8_undo_12 ⟨rfl, by decide⟩ (by decide) rfl tX8_undo_X8 (by decide) kX8_undo_82 rfl rfl ?_
    refine rr_iconst hG (v := 1) dX8_undo_15 (by decide) ?_
    refine rr_isub hG dX8_undo_16 ?_
    refine rr_putI hG 8 8 dX8_undo_17 ⟨rfl, by decide⟩ (by decide) rfl tX8_undo_X8 tyX8_ok nmX8 (by decide) kX8_undo_82 rfl rfl rfl rfl rfl (Nat.le_of_ble_eq_true rfl) rfl ?_
    refine rr_bindM hf (fun M6 eM6 hf => ?_)
    refine rr_iconst hG (v := 0) dX8_undo_20 (by decide) ?_
    refine rr_istore_n hG (lv2 := [(1, .int (0 : Int32)), (0, .ref (ph 79))]) dX8_undo_21 rfl (by decide) rfl ?_
    exact rr_sub (lv2 := [(0, .ref (ph 79)), (1, .int (0 : Int32))]) [1, 0] rfl (wX8_undo_L22 hG hR _ _ _ hf)
  · refine rr_bipush hG (v := (-2)) dX8_undo_7 (by decide) ?_
    exact rr_iret hG hR dX8_undo_9 hf
/-! X8.isCell -/
theorem tX8_isCell_X8 : ∀ w ∈ u_ws RX8 TX8 26, w ∈ wsX8_isCell := by decide +kernel
theorem kX8_isCell_76 : Cond.fieldLink RX8 76 "RingPagesModel" "cells" "I" ∈ wsX8_isCell := by decide +kernel
set_option maxHeartbeats 4000000 in
set_option maxRecDepth 100000 in
theorem mX8_isCell (ph : Nat → Nat) (a1 : Int32) (M : rm_M) (rho : Int32 × rm_M)  (hf : fX8_isCell a1 M = some rho) : rm_CI yX8_isCell wsX8_isCell 1 22 [.ref (ph 79), .int a1] 96 ph M rho := by
  refine rm_metI (cc := cX8_isCell) (maxL := 2) (by decide +kernel) rfl rfl (Nat.le_of_ble_eq_true rfl) rfl (fun G hG hR => ?_)
  unfold fX8_isCell at hf
  refine rr_iload_n hG dX8_isCell_0 1 rfl rfl ?_
  refine rr_iconst hG (v := 0) dX8_isCell_1 (by decide) ?_
  refine rr_aload_n hG dX8_isCell_2 0 rfl rfl ?_
  refine rr_get hG 8 2 dX8_isCell_3 ⟨rfl, by decide⟩ (by decide) rfl tX8_isCell_X8 (by decide) kX8_isCell_76 rfl rfl ?_
  refine rr_iconst hG (v := 1) dX8_isCell_6 (by decide) ?_
  refine rr_isub hG dX8_isCell_7 ?_
  refine rr_cSI hG (st := []) (n := 3) (rf := 0) (rl := 0) [.int a1, .int (0 : Int32), .int ((M.1 79 2) - (1 : Int32))] dX8_isCell_8 hf gX8_isCell_X8_isIn rfl (by decide +kernel) rfl ⟨by decide, by decide⟩ rfl (Nat.le_of_ble_eq_true rfl) (fun r9 M9 h9 => mX8_isIn ph _ _ _ _ _ h9) (fun r2 M3 h1 hf => ?_)
  exact rr_zret hG hR dX8_isCell_11 hf
/-! X8.registers -/
set_option maxHeartbeats 4000000 in
set_option maxRecDepth 100000 in
theorem mX8_registers (ph : Nat → Nat) (a0 : Nat) (M : rm_M) (rho : rm_M) (ka0 : rm_kq 96 a0 (9, (rm_kd a0).2)) (hf : fX8_registers a0 M = some rho) : rm_CV yX8_registers wsX8_registers 0 0 [.ref (ph a0)] 96 ph M rho := by
  refine rm_metV (cc := cX8_registers) (maxL := 1) (by decide +kernel) rfl rfl (Nat.le_of_ble_eq_true rfl) rfl (fun G hG hR => ?_)
  unfold fX8_registers at hf
  refine rr_aload_n hG dX8_registers_0 0 rfl rfl ?_
  refine rr_bipush hG (v := 15) dX8_registers_1 (by decide) ?_
  refine rr_aload_n hG dX8_registers_3 0 rfl rfl ?_
  refine rr_bipush hG (v := 14) dX8_registers_4 (by decide) ?_
  refine rr_iald hG dX8_registers_6 ka0 hf (fun b1 hf => ?_)
  refine rr_iast hG dX8_registers_7 ka0 hf (fun b2 hf => ?_)
  refine rr_bindM hf (fun M3 eM3 hf => ?_)
  refine rr_aload_n hG dX8_registers_8 0 rfl rfl ?_
  refine rr_bipush hG (v := 16) dX8_registers_9 (by decide) ?_
  refine rr_iconst hG (v := 0) dX8_registers_11 (by decide) ?_
  refine rr_iast hG dX8_registers_12 ka0 hf (fun b4 hf => ?_)
  refine rr_bindM hf (fun M5 eM5 hf => ?_)
  refine rr_aload_n hG dX8_registers_13 0 rfl rfl ?_
  refine rr_bipush hG (v := 17) dX8_registers_14 (by decide) ?_
  refine rr_iconst hG (v := 0) dX8_registers_16 (by decide) ?_
  refine rr_iast hG dX8_registers_17 ka0 hf (fun b6 hf => ?_)
  refine rr_bindM hf (fun M7 eM7 hf => ?_)
  exact rr_vret hG hR dX8_registers_18 hf
/-! X8.set -/
theorem tX8_set_X8 : ∀ w ∈ u_ws RX8 TX8 26, w ∈ wsX8_set := by decide +kernel
theorem kX8_set_19 : Cond.fieldLink RX8 19 "RingPagesModel" "now" "[I" ∈ wsX8_set := by decide +kernel
set_option maxHeartbeats 4000000 in
set_option maxRecDepth 100000 in
theorem wX8_set_L29 {G : rm_G} {ph : Nat → Nat} {rho : Int32 × rm_M} (a1 : Int32) (a2 : Int32) (a3 : Int32) (hG : rm_k G 96 ph cX8_set RX8 wsX8_set 5 2 43) (hR : rm_rI G 96 ph .int rho)    : ∀ (s1 : Int32) (s2 : Int32) (M : rm_M), fX8_set_L29 a1 a2 a3 s1 s2 M = some rho → rm_L G 96 ph 5 29 [(0, .ref (ph 79)), (1, .int a1), (2, .int a2), (3, .int a3)] [.int s2, .int s1, .int a3] M := by
  intro s1 s2 M hf
  unfold fX8_set_L29 at hf
  refine rr_cSI hG (st := []) (n := 3) (rf := 0) (rl := 0) [.int a3, .int s1, .int s2] dX8_set_29 hf gX8_set_X8_isIn rfl (by decide +kernel) rfl ⟨by decide, by decide⟩ rfl (Nat.le_of_ble_eq_true rfl) (fun r9 M9 h9 => mX8_isIn ph _ _ _ _ _ h9) (fun r2 M3 h1 hf => ?_)
  refine rr_if_ne hG (tgt := 37) dX8_set_32 (by decide) hf (fun c4 hf => ?_) (fun c4 hf => ?_)
  · refine rr_aload_n hG dX8_set_37 0 rfl rfl ?_
    refine rr_get hG 8 6 (v := .ref (ph 83)) dX8_set_38 ⟨rfl, by decide⟩ (by decide) rfl tX8_set_X8 (by decide) kX8_set_19 rfl rfl ?_
    refine rr_bipush hG (v := 6) dX8_set_41 (by decide) ?_
    refine rr_iload_n hG dX8_set_43 2 rfl rfl ?_
    refine rr_imul hG dX8_set_44 ?_
    refine rr_iload_n hG dX8_set_45 1 rfl rfl ?_
    refine rr_iadd hG dX8_set_46 ?_
    refine rr_iald hG dX8_set_47 ⟨rfl, by decide⟩ hf (fun b5 hf => ?_)
    refine rr_bindI hf (fun v6 ev6 hf => ?_)
    refine rr_istore hG (lv2 := [(4, .int v6), (0, .ref (ph 79)), (1, .int a1), (2, .int a2), (3, .int a3)]) dX8_set_48 (by decide) rfl ?_
    refine rr_iload hG dX8_set_50 0 rfl ?_
    refine rr_iload_n hG dX8_set_52 4 rfl rfl ?_
    refine rr_icmp_ne hG (tgt := 59) dX8_set_53 (by decide) hf (fun c7 hf => ?_) (fun c7 hf => ?_)
    · refine rr_aload_n hG dX8_set_59 1 rfl rfl ?_
      refine rr_cVV hG (st := []) (n := 0) (ci := 8) (rf := 0) (rl := 0) [] dX8_set_60 hf ⟨rfl, by decide⟩ (by decide) rfl gX8_set_X8_keeps rfl (by decide +kernel) rfl ⟨by decide, by decide⟩ rfl (Nat.le_of_ble_eq_true rfl) (fun M9 h9 => mX8_keeps ph _ _ h9) (fun M9 h8 hf => ?_)
      refine rr_aload_n hG dX8_set_63 1 rfl rfl ?_
      refine rr_get hG 8 6 (v := .ref (ph 83)) dX8_set_64 ⟨rfl, by decide⟩ (by decide) rfl tX8_set_X8 (by decide) kX8_set_19 rfl rfl ?_
      refine rr_bipush hG (v := 6) dX8_set_67 (by decide) ?_
      refine rr_iload_n hG dX8_set_69 3 rfl rfl ?_
      refine rr_imul hG dX8_set_70 ?_
      refine rr_iload_n hG dX8_set_71 2 rfl rfl ?_
      refine rr_iadd hG dX8_set_72 ?_
      refine rr_iload_n hG dX8_set_73 4 rfl rfl ?_
      refine rr_iast hG dX8_set_74 ⟨rfl, by decide⟩ hf (fun b10 hf => ?_)
      refine rr_bindM hf (fun M11 eM11 hf => ?_)
      refine rr_aload_n hG dX8_set_75 1 rfl rfl ?_
      refine rr_get hG 8 6 (v := .ref (ph 83)) dX8_set_76 ⟨rfl, by decide⟩ (by decide) rfl tX8_set_X8 (by decide) kX8_set_19 rfl rfl ?_
      refine rr_cSV hG (st := []) (n := 1) (rf := 0) (rl := 0) [.ref (ph 83)] dX8_set_79 hf gX8_set_X8_registers rfl (by decide +kernel) rfl ⟨by decide, by decide⟩ rfl (Nat.le_of_ble_eq_true rfl) (fun M9 h9 => mX8_registers ph _ _ _ (rm_kself ⟨rfl, by decide⟩) h9) (fun M13 h12 hf => ?_)
      refine rr_iload hG dX8_set_82 0 rfl ?_
      exact rr_iret hG hR dX8_set_84 hf
    · refine rr_bipush hG (v := (-2)) dX8_set_56 (by decide) ?_
      exact rr_iret hG hR dX8_set_58 hf
  · refine rr_iconst hG (v := (-1)) dX8_set_35 (by decide) ?_
    exact rr_iret hG hR dX8_set_36 hf
set_option maxHeartbeats 4000000 in
set_option maxRecDepth 100000 in
theorem mX8_set (ph : Nat → Nat) (a1 : Int32) (a2 : Int32) (a3 : Int32) (M : rm_M) (rho : Int32 × rm_M)  (hf : fX8_set a1 a2 a3 M = some rho) : rm_CI yX8_set wsX8_set 2 43 [.ref (ph 79), .int a1, .int a2, .int a3] 96 ph M rho := by
  refine rm_metI (cc := cX8_set) (maxL := 5) (by decide +kernel) rfl rfl (Nat.le_of_ble_eq_true rfl) rfl (fun G hG hR => ?_)
  unfold fX8_set at hf
  refine rr_aload_n hG dX8_set_0 0 rfl rfl ?_
  refine rr_iload_n hG dX8_set_1 1 rfl rfl ?_
  refine rr_cVI hG (st := []) (n := 1) (ci := 8) (rf := 1) (rl := 22) [.int a1] dX8_set_2 hf ⟨rfl, by decide⟩ (by decide) rfl gX8_set_X8_isCell rfl (by decide +kernel) rfl ⟨by decide, by decide⟩ rfl (Nat.le_of_ble_eq_true rfl) (fun r9 M9 h9 => mX8_isCell ph _ _ _ h9) (fun r15 M16 h14 hf => ?_)
  refine rr_if_eq hG (tgt := 35) dX8_set_5 (by decide) hf (fun c17 hf => ?_) (fun c17 hf => ?_)
  · refine rr_iconst hG (v := (-1)) dX8_set_35 (by decide) ?_
    exact rr_iret hG hR dX8_set_36 hf
  · refine rr_iload_n hG dX8_set_8 2 rfl rfl ?_
    refine rr_iconst hG (v := 0) dX8_set_9 (by decide) ?_
    refine rr_iconst hG (v := 1) dX8_set_10 (by decide) ?_
    refine rr_cSI hG (st := []) (n := 3) (rf := 0) (rl := 0) [.int a2, .int (0 : Int32), .int (1 : Int32)] dX8_set_11 hf gX8_set_X8_isIn rfl (by decide +kernel) rfl ⟨by decide, by decide⟩ rfl (Nat.le_of_ble_eq_true rfl) (fun r9 M9 h9 => mX8_isIn ph _ _ _ _ _ h9) (fun r19 M20 h18 hf => ?_)
    refine rr_if_eq hG (tgt := 35) dX8_set_14 (by decide) hf (fun c21 hf => ?_) (fun c21 hf => ?_)
    · refine rr_iconst hG (v := (-1)) dX8_set_35 (by decide) ?_
      exact rr_iret hG hR dX8_set_36 hf
    · refine rr_iload_n hG dX8_set_17 3 rfl rfl ?_
      refine rr_iconst hG (v := 0) dX8_set_18 (by decide) ?_
      refine rr_iload_n hG dX8_set_19 2 rfl rfl ?_
      refine rr_if_ne hG (tgt := 28) dX8_set_20 (by decide) hf (fun c22 hf => ?_) (fun c22 hf => ?_)
      · refine rr_iconst hG (v := 5) dX8_set_28 (by decide) ?_
        exact rr_sub (lv2 := [(0, .ref (ph 79)), (1, .int a1), (2, .int a2), (3, .int a3)]) [0, 1, 2, 3] rfl (wX8_set_L29 _ _ _ hG hR _ _ _ hf)
      · refine rr_bipush hG (v := 9) dX8_set_23 (by decide) ?_
        refine rr_goto hG (tgt := 29) dX8_set_25 (by decide) ?_
        exact rr_sub (lv2 := [(0, .ref (ph 79)), (1, .int a1), (2, .int a2), (3, .int a3)]) [0, 1, 2, 3] rfl (wX8_set_L29 _ _ _ hG hR _ _ _ hf)
/-! X8.law -/
theorem tX8_law_X8 : ∀ w ∈ u_ws RX8 TX8 26, w ∈ wsX8_law := by decide +kernel
theorem kX8_law_19 : Cond.fieldLink RX8 19 "RingPagesModel" "now" "[I" ∈ wsX8_law := by decide +kernel
set_option maxHeartbeats 4000000 in
set_option maxRecDepth 100000 in
theorem mX8_law (ph : Nat → Nat) (a1 : Int32) (a2 : Int32) (M : rm_M) (rho : Int32 × rm_M)  (hf : fX8_law a1 a2 M = some rho) : rm_CI yX8_law wsX8_law 2 43 [.ref (ph 79), .int a1, .int a2] 96 ph M rho := by
  refine rm_metI (cc := cX8_law) (maxL := 4) (by decide +kernel) rfl rfl (Nat.le_of_ble_eq_true rfl) rfl (fun G hG hR => ?_)
  unfold fX8_law at hf
  refine rr_iload_n hG dX8_law_0 1 rfl rfl ?_
  refine rr_iload_n hG dX8_law_1 2 rfl rfl ?_
  refine rr_cSI hG (st := []) (n := 2) (rf := 1) (rl := 22) [.int a1, .int a2] dX8_law_2 hf gX8_law_X8_isLaw rfl (by decide +kernel) rfl ⟨by decide, by decide⟩ rfl (Nat.le_of_ble_eq_true rfl) (fun r9 M9 h9 => mX8_isLaw ph _ _ _ _ h9) (fun r2 M3 h1 hf => ?_)
  refine rr_if_ne hG (tgt := 10) dX8_law_5 (by decide) hf (fun c4 hf => ?_) (fun c4 hf => ?_)
  · refine rr_bipush hG (v := 10) dX8_law_10 (by decide) ?_
    refine rr_aload_n hG dX8_law_12 0 rfl rfl ?_
    refine rr_get hG 8 6 (v := .ref (ph 83)) dX8_law_13 ⟨rfl, by decide⟩ (by decide) rfl tX8_law_X8 (by decide) kX8_law_19 rfl rfl ?_
    refine rr_bipush hG (v := 12) dX8_law_16 (by decide) ?_
    refine rr_iald hG dX8_law_18 ⟨rfl, by decide⟩ hf (fun b5 hf => ?_)
    refine rr_imul hG dX8_law_19 ?_
    refine rr_aload_n hG dX8_law_20 0 rfl rfl ?_
    refine rr_get hG 8 6 (v := .ref (ph 83)) dX8_law_21 ⟨rfl, by decide⟩ (by decide) rfl tX8_law_X8 (by decide) kX8_law_19 rfl rfl ?_
    refine rr_bipush hG (v := 13) dX8_law_24 (by decide) ?_
    refine rr_iald hG dX8_law_26 ⟨rfl, by decide⟩ hf (fun b6 hf => ?_)
    refine rr_iadd hG dX8_law_27 ?_
    refine rr_bindI hf (fun v7 ev7 hf => ?_)
    refine rr_istore_n hG (lv2 := [(3, .int v7), (0, .ref (ph 79)), (1, .int a1), (2, .int a2)]) dX8_law_28 rfl (by decide) rfl ?_
    refine rr_iload_n hG dX8_law_29 0 rfl rfl ?_
    refine rr_bipush hG (v := 10) dX8_law_30 (by decide) ?_
    refine rr_iload_n hG dX8_law_32 2 rfl rfl ?_
    refine rr_imul hG dX8_law_33 ?_
    refine rr_iload_n hG dX8_law_34 3 rfl rfl ?_
    refine rr_iadd hG dX8_law_35 ?_
    refine rr_icmp_ne hG (tgt := 42) dX8_law_36 (by decide) hf (fun c8 hf => ?_) (fun c8 hf => ?_)
    · refine rr_aload_n hG dX8_law_42 1 rfl rfl ?_
      refine rr_cVV hG (st := []) (n := 0) (ci := 8) (rf := 0) (rl := 0) [] dX8_law_43 hf ⟨rfl, by decide⟩ (by decide) rfl gX8_law_X8_keeps rfl (by decide +kernel) rfl ⟨by decide, by decide⟩ rfl (Nat.le_of_ble_eq_true rfl) (fun M9 h9 => mX8_keeps ph _ _ h9) (fun M10 h9 hf => ?_)
      refine rr_aload_n hG dX8_law_46 1 rfl rfl ?_
      refine rr_get hG 8 6 (v := .ref (ph 83)) dX8_law_47 ⟨rfl, by decide⟩ (by decide) rfl tX8_law_X8 (by decide) kX8_law_19 rfl rfl ?_
      refine rr_bipush hG (v := 12) dX8_law_50 (by decide) ?_
      refine rr_iload_n hG dX8_law_52 2 rfl rfl ?_
      refine rr_iast hG dX8_law_53 ⟨rfl, by decide⟩ hf (fun b11 hf => ?_)
      refine rr_bindM hf (fun M12 eM12 hf => ?_)
      refine rr_aload_n hG dX8_law_54 1 rfl rfl ?_
      refine rr_get hG 8 6 (v := .ref (ph 83)) dX8_law_55 ⟨rfl, by decide⟩ (by decide) rfl tX8_law_X8 (by decide) kX8_law_19 rfl rfl ?_
      refine rr_bipush hG (v := 13) dX8_law_58 (by decide) ?_
      refine rr_iload_n hG dX8_law_60 3 rfl rfl ?_
      refine rr_iast hG dX8_law_61 ⟨rfl, by decide⟩ hf (fun b13 hf => ?_)
      refine rr_bindM hf (fun M14 eM14 hf => ?_)
      refine rr_aload_n hG dX8_law_62 1 rfl rfl ?_
      refine rr_get hG 8 6 (v := .ref (ph 83)) dX8_law_63 ⟨rfl, by decide⟩ (by decide) rfl tX8_law_X8 (by decide) kX8_law_19 rfl rfl ?_
      refine rr_cSV hG (st := []) (n := 1) (rf := 0) (rl := 0) [.ref (ph 83)] dX8_law_66 hf gX8_law_X8_registers rfl (by decide +kernel) rfl ⟨by decide, by decide⟩ rfl (Nat.le_of_ble_eq_true rfl) (fun M9 h9 => mX8_registers ph _ _ _ (rm_kself ⟨rfl, by decide⟩) h9) (fun M16 h15 hf => ?_)
      refine rr_iload_n hG dX8_law_69 0 rfl rfl ?_
      exact rr_iret hG hR dX8_law_70 hf
    · refine rr_bipush hG (v := (-2)) dX8_law_39 (by decide) ?_
      exact rr_iret hG hR dX8_law_41 hf
  · refine rr_iconst hG (v := (-1)) dX8_law_8 (by decide) ?_
    exact rr_iret hG hR dX8_law_9 hf
/-! X8.out -/
theorem tX8_out_X8 : ∀ w ∈ u_ws RX8 TX8 26, w ∈ wsX8_out := by decide +kernel
theorem kX8_out_76 : Cond.fieldLink RX8 76 "RingPagesModel" "cells" "I" ∈ wsX8_out := by decide +kernel
theorem kX8_out_13 : Cond.fieldLink RX8 13 "RingPagesModel" "weight" "[I" ∈ wsX8_out := by decide +kernel
set_option maxHeartbeats 4000000 in
set_option maxRecDepth 100000 in
theorem wX8_out_L4 {G : rm_G} {ph : Nat → Nat} {rho : Int32 × rm_M} (a1 : Int32) (hG : rm_k G 96 ph cX8_out RX8 wsX8_out 4 0 0) (hR : rm_rI G 96 ph .int rho)    : ∀ (n : Nat) (x2 : Int32) (x3 : Int32) (M : rm_M), fX8_out_L4 a1 n x2 x3 M = some rho → rm_L G 96 ph 4 4 [(0, .ref (ph 79)), (1, .int a1), (2, .int x2), (3, .int x3)] [] M := by
  intro n
  induction n with
  | zero => intro x2 x3 M hf; rw [fX8_out_L4] at hf; cases hf
  | succ n ih =>
    intro x2 x3 M hf
    rw [fX8_out_L4] at hf
    refine rr_iload_n hG dX8_out_4 3 rfl rfl ?_
    refine rr_aload_n hG dX8_out_5 0 rfl rfl ?_
    refine rr_get hG 8 2 dX8_out_6 ⟨rfl, by decide⟩ (by decide) rfl tX8_out_X8 (by decide) kX8_out_76 rfl rfl ?_
    refine rr_icmp_ge hG (tgt := 32) dX8_out_9 (by decide) hf (fun c1 hf => ?_) (fun c1 hf => ?_)
    · refine rr_iload_n hG dX8_out_32 2 rfl rfl ?_
      exact rr_iret hG hR dX8_out_33 hf
    · refine rr_iload_n hG dX8_out_12 2 rfl rfl ?_
      refine rr_aload_n hG dX8_out_13 0 rfl rfl ?_
      refine rr_get hG 8 4 (v := .ref (ph 81)) dX8_out_14 ⟨rfl, by decide⟩ (by decide) rfl tX8_out_X8 (by decide) kX8_out_13 rfl rfl ?_
      refine rr_bipush hG (v := 6) dX8_out_17 (by decide) ?_
      refine rr_iload_n hG dX8_out_19 1 rfl rfl ?_
      refine rr_imul hG dX8_out_20 ?_
      refine rr_iload_n hG dX8_out_21 3 rfl rfl ?_
      refine rr_iadd hG dX8_out_22 ?_
      refine rr_iald hG dX8_out_23 ⟨rfl, by decide⟩ hf (fun b2 hf => ?_)
      refine rr_iadd hG dX8_out_24 ?_
      refine rr_bindI hf (fun v3 ev3 hf => ?_)
      refine rr_istore_n hG (lv2 := [(2, .int v3), (0, .ref (ph 79)), (1, .int a1), (3, .int x3)]) dX8_out_25 rfl (by decide) rfl ?_
      refine rr_iinc hG (v := x3 + (1 : Int32)) (lv2 := [(3, .int (x3 + (1 : Int32))), (2, .int v3), (0, .ref (ph 79)), (1, .int a1)]) (k := 3) dX8_out_26 rfl rfl (by decide) rfl ?_
      refine rr_goto hG (tgt := 4) dX8_out_29 (by decide) ?_
      exact rr_sub (lv2 := [(0, .ref (ph 79)), (1, .int a1), (2, .int v3), (3, .int (x3 + (1 : Int32)))]) [2, 3, 1, 0] rfl (ih _ _ _ hf)
set_option maxHeartbeats 4000000 in
set_option maxRecDepth 100000 in
theorem mX8_out (ph : Nat → Nat) (a1 : Int32) (M : rm_M) (rho : Int32 × rm_M)  (hf : fX8_out a1 M = some rho) : rm_CI yX8_out wsX8_out 0 0 [.ref (ph 79), .int a1] 96 ph M rho := by
  refine rm_metI (cc := cX8_out) (maxL := 4) (by decide +kernel) rfl rfl (Nat.le_of_ble_eq_true rfl) rfl (fun G hG hR => ?_)
  unfold fX8_out at hf
  refine rr_iconst hG (v := 0) dX8_out_0 (by decide) ?_
  refine rr_istore_n hG (lv2 := [(2, .int (0 : Int32)), (0, .ref (ph 79)), (1, .int a1)]) dX8_out_1 rfl (by decide) rfl ?_
  refine rr_iconst hG (v := 0) dX8_out_2 (by decide) ?_
  refine rr_istore_n hG (lv2 := [(3, .int (0 : Int32)), (2, .int (0 : Int32)), (0, .ref (ph 79)), (1, .int a1)]) dX8_out_3 rfl (by decide) rfl ?_
  exact rr_sub (lv2 := [(0, .ref (ph 79)), (1, .int a1), (2, .int (0 : Int32)), (3, .int (0 : Int32))]) [2, 3, 1, 0] rfl (wX8_out_L4 _ hG hR _ _ _ _ hf)
/-! X8.sum -/
theorem tX8_sum_X8 : ∀ w ∈ u_ws RX8 TX8 26, w ∈ wsX8_sum := by decide +kernel
theorem kX8_sum_19 : Cond.fieldLink RX8 19 "RingPagesModel" "now" "[I" ∈ wsX8_sum := by decide +kernel
set_option maxHeartbeats 4000000 in
set_option maxRecDepth 100000 in
theorem mX8_sum (ph : Nat → Nat) (a1 : Int32) (M : rm_M) (rho : Int32 × rm_M)  (hf : fX8_sum a1 M = some rho) : rm_CI yX8_sum wsX8_sum 1 23 [.ref (ph 79), .int a1] 96 ph M rho := by
  refine rm_metI (cc := cX8_sum) (maxL := 2) (by decide +kernel) rfl rfl (Nat.le_of_ble_eq_true rfl) rfl (fun G hG hR => ?_)
  unfold fX8_sum at hf
  refine rr_aload_n hG dX8_sum_0 0 rfl rfl ?_
  refine rr_iload_n hG dX8_sum_1 1 rfl rfl ?_
  refine rr_cVI hG (st := []) (n := 1) (ci := 8) (rf := 0) (rl := 0) [.int a1] dX8_sum_2 hf ⟨rfl, by decide⟩ (by decide) rfl gX8_sum_X8_out rfl (by decide +kernel) rfl ⟨by decide, by decide⟩ rfl (Nat.le_of_ble_eq_true rfl) (fun r9 M9 h9 => mX8_out ph _ _ _ h9) (fun r2 M3 h1 hf => ?_)
  refine rr_aload_n hG dX8_sum_5 0 rfl rfl ?_
  refine rr_get hG 8 6 (v := .ref (ph 83)) dX8_sum_6 ⟨rfl, by decide⟩ (by decide) rfl tX8_sum_X8 (by decide) kX8_sum_19 rfl rfl ?_
  refine rr_iload_n hG dX8_sum_9 1 rfl rfl ?_
  refine rr_iald hG dX8_sum_10 ⟨rfl, by decide⟩ hf (fun b4 hf => ?_)
  refine rr_iadd hG dX8_sum_11 ?_
  exact rr_iret hG hR dX8_sum_12 hf
/-! X8.joined -/
theorem tX8_joined_X8 : ∀ w ∈ u_ws RX8 TX8 26, w ∈ wsX8_joined := by decide +kernel
theorem kX8_joined_76 : Cond.fieldLink RX8 76 "RingPagesModel" "cells" "I" ∈ wsX8_joined := by decide +kernel
theorem kX8_joined_13 : Cond.fieldLink RX8 13 "RingPagesModel" "weight" "[I" ∈ wsX8_joined := by decide +kernel
set_option maxHeartbeats 4000000 in
set_option maxRecDepth 100000 in
theorem wX8_joined_L34 {G : rm_G} {ph : Nat → Nat} {rho : Int32 × rm_M} (a1 : Int32) (hG : rm_k G 96 ph cX8_joined RX8 wsX8_joined 4 0 0) (hR : rm_rI G 96 ph .int rho)  (q4 : Int32 → Int32 → rm_M → Option (Int32 × rm_M)) (hq4 : ∀ (x2 : Int32) (x3 : Int32) (M : rm_M), q4 x2 x3 M = some rho → rm_L G 96 ph 4 4 [(0, .ref (ph 79)), (1, .int a1), (2, .int x2), (3, .int x3)] [] M) : ∀ (x3 : Int32) (s0 : Int32) (s1 : Int32) (M : rm_M), fX8_joined_L34 a1 q4 x3 s0 s1 M = some rho → rm_L G 96 ph 4 34 [(0, .ref (ph 79)), (1, .int a1), (3, .int x3)] [.int s1, .int s0] M := by
  intro x3 s0 s1 M hf
  unfold fX8_joined_L34 at hf
  refine rr_ior hG dX8_joined_34 ?_
  refine rr_bindI hf (fun v1 ev1 hf => ?_)
  refine rr_istore_n hG (lv2 := [(2, .int v1), (0, .ref (ph 79)), (1, .int a1), (3, .int x3)]) dX8_joined_35 rfl (by decide) rfl ?_
  refine rr_iinc hG (v := x3 + (1 : Int32)) (lv2 := [(3, .int (x3 + (1 : Int32))), (2, .int v1), (0, .ref (ph 79)), (1, .int a1)]) (k := 3) dX8_joined_36 rfl rfl (by decide) rfl ?_
  refine rr_goto hG (tgt := 4) dX8_joined_39 (by decide) ?_
  exact rr_sub (lv2 := [(0, .ref (ph 79)), (1, .int a1), (2, .int v1), (3, .int (x3 + (1 : Int32)))]) [2, 3, 1, 0] rfl (hq4 _ _ _ hf)
set_option maxHeartbeats 4000000 in
set_option maxRecDepth 100000 in
theorem wX8_joined_L4 {G : rm_G} {ph : Nat → Nat} {rho : Int32 × rm_M} (a1 : Int32) (hG : rm_k G 96 ph cX8_joined RX8 wsX8_joined 4 0 0) (hR : rm_rI G 96 ph .int rho)    : ∀ (n : Nat) (x2 : Int32) (x3 : Int32) (M : rm_M), fX8_joined_L4 a1 n x2 x3 M = some rho → rm_L G 96 ph 4 4 [(0, .ref (ph 79)), (1, .int a1), (2, .int x2), (3, .int x3)] [] M := by
  intro n
  induction n with
  | zero => intro x2 x3 M hf; rw [fX8_joined_L4] at hf; cases hf
  | succ n ih =>
    intro x2 x3 M hf
    rw [fX8_joined_L4] at hf
    refine rr_iload_n hG dX8_joined_4 3 rfl rfl ?_
    refine rr_aload_n hG dX8_joined_5 0 rfl rfl ?_
    refine rr_get hG 8 2 dX8_joined_6 ⟨rfl, by decide⟩ (by decide) rfl tX8_joined_X8 (by decide) kX8_joined_76 rfl rfl ?_
    refine rr_icmp_ge hG (tgt := 42) dX8_joined_9 (by decide) hf (fun c2 hf => ?_) (fun c2 hf => ?_)
    · refine rr_iload_n hG dX8_joined_42 2 rfl rfl ?_
      exact rr_iret hG hR dX8_joined_43 hf
    · refine rr_iload_n hG dX8_joined_12 2 rfl rfl ?_
      refine rr_aload_n hG dX8_joined_13 0 rfl rfl ?_
      refine rr_get hG 8 4 (v := .ref (ph 81)) dX8_joined_14 ⟨rfl, by decide⟩ (by decide) rfl tX8_joined_X8 (by decide) kX8_joined_13 rfl rfl ?_
      refine rr_bipush hG (v := 6) dX8_joined_17 (by decide) ?_
      refine rr_iload_n hG dX8_joined_19 1 rfl rfl ?_
      refine rr_imul hG dX8_joined_20 ?_
      refine rr_iload_n hG dX8_joined_21 3 rfl rfl ?_
      refine rr_iadd hG dX8_joined_22 ?_
      refine rr_iald hG dX8_joined_23 ⟨rfl, by decide⟩ hf (fun b3 hf => ?_)
      refine rr_if_le hG (tgt := 33) dX8_joined_24 (by decide) hf (fun c4 hf => ?_) (fun c4 hf => ?_)
      · refine rr_iconst hG (v := 0) dX8_joined_33 (by decide) ?_
        exact rr_sub (lv2 := [(0, .ref (ph 79)), (1, .int a1), (3, .int x3)]) [0, 1, 3] rfl (wX8_joined_L34 _ hG hR _ (ih) _ _ _ _ hf)
      · refine rr_iconst hG (v := 1) dX8_joined_27 (by decide) ?_
        refine rr_iload_n hG dX8_joined_28 3 rfl rfl ?_
        refine rr_ishl hG dX8_joined_29 ?_
        refine rr_goto hG (tgt := 34) dX8_joined_30 (by decide) ?_
        exact rr_sub (lv2 := [(0, .ref (ph 79)), (1, .int a1), (3, .int x3)]) [0, 1, 3] rfl (wX8_joined_L34 _ hG hR _ (ih) _ _ _ _ hf)
set_option maxHeartbeats 4000000 in
set_option maxRecDepth 100000 in
theorem mX8_joined (ph : Nat → Nat) (a1 : Int32) (M : rm_M) (rho : Int32 × rm_M)  (hf : fX8_joined a1 M = some rho) : rm_CI yX8_joined wsX8_joined 0 0 [.ref (ph 79), .int a1] 96 ph M rho := by
  refine rm_metI (cc := cX8_joined) (maxL := 4) (by decide +kernel) rfl rfl (Nat.le_of_ble_eq_true rfl) rfl (fun G hG hR => ?_)
  unfold fX8_joined at hf
  refine rr_iconst hG (v := 0) dX8_joined_0 (by decide) ?_
  refine rr_istore_n hG (lv2 := [(2, .int (0 : Int32)), (0, .ref (ph 79)), (1, .int a1)]) dX8_joined_1 rfl (by decide) rfl ?_
  refine rr_iconst hG (v := 0) dX8_joined_2 (by decide) ?_
  refine rr_istore_n hG (lv2 := [(3, .int (0 : Int32)), (2, .int (0 : Int32)), (0, .ref (ph 79)), (1, .int a1)]) dX8_joined_3 rfl (by decide) rfl ?_
  exact rr_sub (lv2 := [(0, .ref (ph 79)), (1, .int a1), (2, .int (0 : Int32)), (3, .int (0 : Int32))]) [2, 3, 1, 0] rfl (wX8_joined_L4 _ hG hR _ _ _ _ hf)
