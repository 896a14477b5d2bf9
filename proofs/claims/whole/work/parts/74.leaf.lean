/-! ===== the small constructors ===== -/
theorem tX0_init_X0 : ∀ w ∈ u_ws RX0 TX0 6, w ∈ wsX0_init := by decide +kernel
theorem tX1_init_X1 : ∀ w ∈ u_ws RX1 TX1 12, w ∈ wsX1_init := by decide +kernel
theorem tX2_init_X2 : ∀ w ∈ u_ws RX2 TX2 3, w ∈ wsX2_init := by decide +kernel
theorem tX3_init_X3 : ∀ w ∈ u_ws RX3 TX3 4, w ∈ wsX3_init := by decide +kernel
theorem tX4_init_X4 : ∀ w ∈ u_ws RX4 TX4 10, w ∈ wsX4_init := by decide +kernel
theorem tX5_init_X5 : ∀ w ∈ u_ws RX5 TX5 4, w ∈ wsX5_init := by decide +kernel
theorem tX6_init_X6 : ∀ w ∈ u_ws RX6 TX6 1, w ∈ wsX6_init := by decide +kernel
theorem mX5_init : rb_CI yX5_init wsX5_init 1 20 2 204 1 5 [.null, .null, .int 0, .int 0] [1, 2, 3] := by
  refine rb_met (cc := cX5_init) (maxL := 1) (by decide +kernel) rfl rfl rfl (Nat.le_refl _) (fun G h hG hE => ?_)
  refine rb_aload hG 0 dX5_init_0 rfl rfl ?_
  refine rb_oi hG dX5_init_1 (by decide +kernel) (by decide +kernel) (List.mem_of_getElem? (i := 3) rfl) (Nat.le_refl _) (Nat.le_refl _) ?_
  refine rb_fI hG (h := h) (n := 200) (len := 3) 5 0 dX5_init_4 (rb_p3 dX5_init_5 (by decide)) dX5_init_8 dX5_init_10 (by decide) (by decide +kernel) rfl tX5_init_X5 tyX5_ok nmX5 (by decide) (by decide +kernel) rfl rfl (Nat.le_of_ble_eq_true rfl) (by decide) (by decide) (fun a0 => ?_)
  refine rb_fI hG (h := h) (n := 4) (len := 1) 5 1 dX5_init_13 (rb_p1 dX5_init_14 (by decide)) dX5_init_15 dX5_init_17 (by decide) (by decide +kernel) rfl tX5_init_X5 tyX5_ok nmX5 (by decide) (by decide +kernel) rfl rfl (Nat.le_of_ble_eq_true rfl) (by decide) (by decide) (fun a1 => ?_)
  exact rb_ret hG hE (fun x => [h, a0, a1].getD (x - 1) 0) rfl rfl dX5_init_20 rfl rfl
theorem mX0_init : rb_CI yX0_init wsX0_init 1 20 3 18 6 0 [.null, .long 0, .null, .long 0, .int 0, .null] [6, 7, 8, 9] := by
  refine rb_met (cc := cX0_init) (maxL := 1) (by decide +kernel) rfl rfl rfl (Nat.le_refl _) (fun G h hG hE => ?_)
  refine rb_aload hG 0 dX0_init_0 rfl rfl ?_
  refine rb_oi hG dX0_init_1 (by decide +kernel) (by decide +kernel) (List.mem_of_getElem? (i := 3) rfl) (Nat.le_refl _) (Nat.le_refl _) ?_
  refine rb_fJ hG (h := h) (n := 6) (len := 2) 0 0 dX0_init_4 (rb_p2 dX0_init_5 (by decide)) dX0_init_7 dX0_init_9 (by decide) (by decide +kernel) rfl tX0_init_X0 tyX0_ok nmX0 (by decide) (by decide +kernel) rfl rfl (Nat.le_of_ble_eq_true rfl) (by decide) (by decide) (fun a0 => ?_)
  refine rb_fI hG (h := h) (n := 6) (len := 2) 0 2 dX0_init_12 (rb_p2 dX0_init_13 (by decide)) dX0_init_15 dX0_init_17 (by decide) (by decide +kernel) rfl tX0_init_X0 tyX0_ok nmX0 (by decide) (by decide +kernel) rfl rfl (Nat.le_of_ble_eq_true rfl) (by decide) (by decide) (fun a2 => ?_)
  refine rb_fI hG (h := h) (n := 6) (len := 2) 0 5 dX0_init_20 (rb_p2 dX0_init_21 (by decide)) dX0_init_23 dX0_init_25 (by decide) (by decide +kernel) rfl tX0_init_X0 tyX0_ok nmX0 (by decide) (by decide +kernel) rfl rfl (Nat.le_of_ble_eq_true rfl) (by decide) (by decide) (fun a5 => ?_)
  exact rb_ret hG hE (fun x => [h, a0, a2, a5].getD (x - 6) 0) rfl rfl dX0_init_28 rfl rfl
theorem mX6_init : rb_CI yX6_init wsX6_init 1 20 1 9 10 6 [.null] [10, 11] := by
  refine rb_met (cc := cX6_init) (maxL := 1) (by decide +kernel) rfl rfl rfl (Nat.le_refl _) (fun G h hG hE => ?_)
  refine rb_aload hG 0 dX6_init_0 rfl rfl ?_
  refine rb_oi hG dX6_init_1 (by decide +kernel) (by decide +kernel) (List.mem_of_getElem? (i := 3) rfl) (Nat.le_refl _) (Nat.le_refl _) ?_
  refine rb_fI hG (h := h) (n := 9) (len := 2) 6 0 dX6_init_4 (rb_p2 dX6_init_5 (by decide)) dX6_init_7 dX6_init_9 (by decide) (by decide +kernel) rfl tX6_init_X6 tyX6_ok nmX6 (by decide) (by decide +kernel) rfl rfl (Nat.le_of_ble_eq_true rfl) (by decide) (by decide) (fun a0 => ?_)
  exact rb_ret hG hE (fun x => [h, a0].getD (x - 10) 0) rfl rfl dX6_init_12 rfl rfl
theorem mX3_init : rb_CI yX3_init wsX3_init 1 20 1 6 12 3 [.null, .int 0, .int 0, .int 0] [12, 13] := by
  refine rb_met (cc := cX3_init) (maxL := 1) (by decide +kernel) rfl rfl rfl (Nat.le_refl _) (fun G h hG hE => ?_)
  refine rb_aload hG 0 dX3_init_0 rfl rfl ?_
  refine rb_oi hG dX3_init_1 (by decide +kernel) (by decide +kernel) (List.mem_of_getElem? (i := 3) rfl) (Nat.le_refl _) (Nat.le_refl _) ?_
  refine rb_fI hG (h := h) (n := 6) (len := 2) 3 0 dX3_init_4 (rb_p2 dX3_init_5 (by decide)) dX3_init_7 dX3_init_9 (by decide) (by decide +kernel) rfl tX3_init_X3 tyX3_ok nmX3 (by decide) (by decide +kernel) rfl rfl (Nat.le_of_ble_eq_true rfl) (by decide) (by decide) (fun a0 => ?_)
  exact rb_ret hG hE (fun x => [h, a0].getD (x - 12) 0) rfl rfl dX3_init_12 rfl rfl
theorem mX4_init {q0 : Nat} (hq : rm_kd q0 = (4, 0)) : rb_CI yX4_init wsX4_init 1 20 2 12 q0 4 [.null, .null, .int 0, .int 0, .int 0, .int 0, .int 0, .int 0, .int 0, .int 0] [q0, q0 + 1, q0 + 2] := by
  refine rb_met (cc := cX4_init) (maxL := 1) (by decide +kernel) rfl rfl rfl (Nat.le_refl _) (fun G h hG hE => ?_)
  refine rb_aload hG 0 dX4_init_0 rfl rfl ?_
  refine rb_oi hG dX4_init_1 (by decide +kernel) (by decide +kernel) (List.mem_of_getElem? (i := 3) rfl) (Nat.le_refl _) (Nat.le_refl _) ?_
  refine rb_fI hG (h := h) (n := 6) (len := 2) 4 0 dX4_init_4 (rb_p2 dX4_init_5 (by decide)) dX4_init_7 dX4_init_9 (by decide) (by decide +kernel) rfl tX4_init_X4 tyX4_ok nmX4 (by decide) (by decide +kernel) rfl rfl (Nat.le_of_ble_eq_true rfl) (by decide) (by decide) (fun a0 => ?_)
  refine rb_fI hG (h := h) (n := 6) (len := 2) 4 1 dX4_init_12 (rb_p2 dX4_init_13 (by decide)) dX4_init_15 dX4_init_17 (by decide) (by decide +kernel) rfl tX4_init_X4 tyX4_ok nmX4 (by decide) (by decide +kernel) rfl rfl (Nat.le_of_ble_eq_true rfl) (by decide) (by decide) (fun a1 => ?_)
  refine rb_ret hG hE (fun x => [h, a0, a1].getD (x - q0) 0) (by show [h, a0, a1].getD (q0 - q0) 0 = h; rw [Nat.sub_self]; rfl) ?_ dX4_init_20 rfl rfl
  rcases rm_sta hq with rfl | rfl | rfl | rfl | rfl | rfl | rfl | rfl | rfl <;> rfl
theorem rb_out {cy : rm_Y} {ph r : Nat → Nat} {q : Nat} {i : Nat → Int32} {j : Nat → Int64} {rr : Nat → Nat} (hk : rm_kd q = (12, 6)) (h : ∀ k, k < 6 → ph (q + 1 + k) = r k) : rm_e cy ph q i j rr = .inl (cy.2.2.2, 6, .inr (.inr (.inr (.inr (fun k => if k < 6 then some (r k) else none))))) := by
  have h1 : (rm_kd q).1 = 12 := by rw [hk]
  have h2 : (rm_kd q).2 = 6 := by rw [hk]
  rw [rm_e_ii cy ph i j rr h1, h2]
  have hf : (fun k => if k < 6 then some (ph (q + 1 + k)) else none) = (fun k => if k < 6 then some (r k) else none) := by
    funext k
    by_cases c : k < 6
    · rw [if_pos c, if_pos c, h k c]
    · rw [if_neg c, if_neg c]
  rw [hf]
def rb_np (q0 h w1 : Nat) (r1 : Nat → Nat) (w2 : Nat) (r2 : Nat → Nat) (b1 b2 b3 b4 : Nat) : Nat → Nat := fun x => if x = q0 then h else if x = q0 + 1 then w1 else if x < q0 + 8 then r1 (x - (q0 + 2)) else if x = q0 + 8 then w2 else if x < q0 + 15 then r2 (x - (q0 + 9)) else [b1, b2, b3, b4].getD (x - (q0 + 15)) 0
theorem rb_np1 (q0 h w1 : Nat) (r1 : Nat → Nat) (w2 : Nat) (r2 : Nat → Nat) (b1 b2 b3 b4 : Nat) {k : Nat} (hk : k < 6) : rb_np q0 h w1 r1 w2 r2 b1 b2 b3 b4 (q0 + 1 + 1 + k) = r1 k := by
  unfold rb_np
  rw [if_neg (by omega), if_neg (by omega), if_pos (by omega), show q0 + 1 + 1 + k - (q0 + 2) = k by omega]
theorem rb_np2 (q0 h w1 : Nat) (r1 : Nat → Nat) (w2 : Nat) (r2 : Nat → Nat) (b1 b2 b3 b4 : Nat) {k : Nat} (hk : k < 6) : rb_np q0 h w1 r1 w2 r2 b1 b2 b3 b4 (q0 + 8 + 1 + k) = r2 k := by
  unfold rb_np
  rw [if_neg (by omega), if_neg (by omega), if_neg (by omega), if_neg (by omega), if_pos (by omega), show q0 + 8 + 1 + k - (q0 + 9) = k by omega]
theorem mX1_init_14 : rb_CI yX1_init wsX1_init 1 20 18 166 14 1 [.int 0, .int 0, .int 0, .int 0, .int 0, .int 0, .null, .null, .null, .null, .null, .null] [14, 15, 16, 17, 18, 19, 20, 21, 22, 23, 24, 25, 26, 27, 28, 29, 30, 31, 32] := by
  refine rb_met (cc := cX1_init) (maxL := 1) (by decide +kernel) rfl rfl rfl (Nat.le_refl _) (fun G h hG hE => ?_)
  refine rb_aload hG 0 dX1_init_0 rfl rfl ?_
  refine rb_oi hG dX1_init_1 (by decide +kernel) (by decide +kernel) (List.mem_of_getElem? (i := 3) rfl) (Nat.le_refl _) (Nat.le_refl _) ?_
  refine rb_fM hG (h := h) (len := 2) 1 6 dX1_init_4 (rb_p2 dX1_init_5 (by decide)) (rb_p2 dX1_init_7 (by decide)) dX1_init_9 dX1_init_13 (by decide +kernel) (by decide +kernel) rfl tX1_init_X1 tyX1_ok nmX1 (by decide) (by decide +kernel) rfl rfl (Nat.le_of_ble_eq_true rfl) (by decide) (by decide) (fun a6 r6 => ?_)
  refine rb_fM hG (h := h) (len := 2) 1 7 dX1_init_16 (rb_p2 dX1_init_17 (by decide)) (rb_p2 dX1_init_19 (by decide)) dX1_init_21 dX1_init_25 (by decide +kernel) (by decide +kernel) rfl tX1_init_X1 tyX1_ok nmX1 (by decide) (by decide +kernel) rfl rfl (Nat.le_of_ble_eq_true rfl) (by decide) (by decide) (fun a7 r7 => ?_)
  refine rb_fI hG (h := h) (n := 6) (len := 2) 1 8 dX1_init_28 (rb_p2 dX1_init_29 (by decide)) dX1_init_31 dX1_init_33 (by decide) (by decide +kernel) rfl tX1_init_X1 tyX1_ok nmX1 (by decide) (by decide +kernel) rfl rfl (Nat.le_of_ble_eq_true rfl) (by decide) (by decide) (fun a8 => ?_)
  refine rb_fI hG (h := h) (n := 6) (len := 2) 1 9 dX1_init_36 (rb_p2 dX1_init_37 (by decide)) dX1_init_39 dX1_init_41 (by decide) (by decide +kernel) rfl tX1_init_X1 tyX1_ok nmX1 (by decide) (by decide +kernel) rfl rfl (Nat.le_of_ble_eq_true rfl) (by decide) (by decide) (fun a9 => ?_)
  refine rb_fJ hG (h := h) (n := 6) (len := 2) 1 10 dX1_init_44 (rb_p2 dX1_init_45 (by decide)) dX1_init_47 dX1_init_49 (by decide) (by decide +kernel) rfl tX1_init_X1 tyX1_ok nmX1 (by decide) (by decide +kernel) rfl rfl (Nat.le_of_ble_eq_true rfl) (by decide) (by decide) (fun a10 => ?_)
  refine rb_fJ hG (h := h) (n := 64) (len := 2) 1 11 dX1_init_52 (rb_p2 dX1_init_53 (by decide)) dX1_init_55 dX1_init_57 (by decide) (by decide +kernel) rfl tX1_init_X1 tyX1_ok nmX1 (by decide) (by decide +kernel) rfl rfl (Nat.le_of_ble_eq_true rfl) (by decide) (by decide) (fun a11 => ?_)
  refine rb_ret hG hE (rb_np 14 h a6 r6 a7 r7 a8 a9 a10 a11) rfl ?_ dX1_init_60 rfl rfl
  have e1 : rb_x (rb_cy G) (rb_np 14 h a6 r6 a7 r7 a8 a9 a10 a11) 15 = (a6, .inl ((rb_cy G).2.2.2, 6, .inr (.inr (.inr (.inr (fun k => if k < 6 then some (r6 k) else none)))))) := by unfold rb_x; rw [rb_out (r := r6) rfl (fun k hk => rb_np1 14 h a6 r6 a7 r7 a8 a9 a10 a11 hk)]; rfl
  have e2 : rb_x (rb_cy G) (rb_np 14 h a6 r6 a7 r7 a8 a9 a10 a11) 22 = (a7, .inl ((rb_cy G).2.2.2, 6, .inr (.inr (.inr (.inr (fun k => if k < 6 then some (r7 k) else none)))))) := by unfold rb_x; rw [rb_out (r := r7) rfl (fun k hk => rb_np2 14 h a6 r6 a7 r7 a8 a9 a10 a11 hk)]; rfl
  show _ = [rb_x (rb_cy G) (rb_np 14 h a6 r6 a7 r7 a8 a9 a10 a11) 14, rb_x (rb_cy G) (rb_np 14 h a6 r6 a7 r7 a8 a9 a10 a11) 15, rb_x (rb_cy G) (rb_np 14 h a6 r6 a7 r7 a8 a9 a10 a11) 16, rb_x (rb_cy G) (rb_np 14 h a6 r6 a7 r7 a8 a9 a10 a11) 17, rb_x (rb_cy G) (rb_np 14 h a6 r6 a7 r7 a8 a9 a10 a11) 18, rb_x (rb_cy G) (rb_np 14 h a6 r6 a7 r7 a8 a9 a10 a11) 19, rb_x (rb_cy G) (rb_np 14 h a6 r6 a7 r7 a8 a9 a10 a11) 20, rb_x (rb_cy G) (rb_np 14 h a6 r6 a7 r7 a8 a9 a10 a11) 21, rb_x (rb_cy G) (rb_np 14 h a6 r6 a7 r7 a8 a9 a10 a11) 22, rb_x (rb_cy G) (rb_np 14 h a6 r6 a7 r7 a8 a9 a10 a11) 23, rb_x (rb_cy G) (rb_np 14 h a6 r6 a7 r7 a8 a9 a10 a11) 24, rb_x (rb_cy G) (rb_np 14 h a6 r6 a7 r7 a8 a9 a10 a11) 25, rb_x (rb_cy G) (rb_np 14 h a6 r6 a7 r7 a8 a9 a10 a11) 26, rb_x (rb_cy G) (rb_np 14 h a6 r6 a7 r7 a8 a9 a10 a11) 27, rb_x (rb_cy G) (rb_np 14 h a6 r6 a7 r7 a8 a9 a10 a11) 28, rb_x (rb_cy G) (rb_np 14 h a6 r6 a7 r7 a8 a9 a10 a11) 29, rb_x (rb_cy G) (rb_np 14 h a6 r6 a7 r7 a8 a9 a10 a11) 30, rb_x (rb_cy G) (rb_np 14 h a6 r6 a7 r7 a8 a9 a10 a11) 31, rb_x (rb_cy G) (rb_np 14 h a6 r6 a7 r7 a8 a9 a10 a11) 32]
  rw [e1, e2]
  rfl
theorem mX1_init_33 : rb_CI yX1_init wsX1_init 1 20 18 166 33 1 [.int 0, .int 0, .int 0, .int 0, .int 0, .int 0, .null, .null, .null, .null, .null, .null] [33, 34, 35, 36, 37, 38, 39, 40, 41, 42, 43, 44, 45, 46, 47, 48, 49, 50, 51] := by
  refine rb_met (cc := cX1_init) (maxL := 1) (by decide +kernel) rfl rfl rfl (Nat.le_refl _) (fun G h hG hE => ?_)
  refine rb_aload hG 0 dX1_init_0 rfl rfl ?_
  refine rb_oi hG dX1_init_1 (by decide +kernel) (by decide +kernel) (List.mem_of_getElem? (i := 3) rfl) (Nat.le_refl _) (Nat.le_refl _) ?_
  refine rb_fM hG (h := h) (len := 2) 1 6 dX1_init_4 (rb_p2 dX1_init_5 (by decide)) (rb_p2 dX1_init_7 (by decide)) dX1_init_9 dX1_init_13 (by decide +kernel) (by decide +kernel) rfl tX1_init_X1 tyX1_ok nmX1 (by decide) (by decide +kernel) rfl rfl (Nat.le_of_ble_eq_true rfl) (by decide) (by decide) (fun a6 r6 => ?_)
  refine rb_fM hG (h := h) (len := 2) 1 7 dX1_init_16 (rb_p2 dX1_init_17 (by decide)) (rb_p2 dX1_init_19 (by decide)) dX1_init_21 dX1_init_25 (by decide +kernel) (by decide +kernel) rfl tX1_init_X1 tyX1_ok nmX1 (by decide) (by decide +kernel) rfl rfl (Nat.le_of_ble_eq_true rfl) (by decide) (by decide) (fun a7 r7 => ?_)
  refine rb_fI hG (h := h) (n := 6) (len := 2) 1 8 dX1_init_28 (rb_p2 dX1_init_29 (by decide)) dX1_init_31 dX1_init_33 (by decide) (by decide +kernel) rfl tX1_init_X1 tyX1_ok nmX1 (by decide) (by decide +kernel) rfl rfl (Nat.le_of_ble_eq_true rfl) (by decide) (by decide) (fun a8 => ?_)
  refine rb_fI hG (h := h) (n := 6) (len := 2) 1 9 dX1_init_36 (rb_p2 dX1_init_37 (by decide)) dX1_init_39 dX1_init_41 (by decide) (by decide +kernel) rfl tX1_init_X1 tyX1_ok nmX1 (by decide) (by decide +kernel) rfl rfl (Nat.le_of_ble_eq_true rfl) (by decide) (by decide) (fun a9 => ?_)
  refine rb_fJ hG (h := h) (n := 6) (len := 2) 1 10 dX1_init_44 (rb_p2 dX1_init_45 (by decide)) dX1_init_47 dX1_init_49 (by decide) (by decide +kernel) rfl tX1_init_X1 tyX1_ok nmX1 (by decide) (by decide +kernel) rfl rfl (Nat.le_of_ble_eq_true rfl) (by decide) (by decide) (fun a10 => ?_)
  refine rb_fJ hG (h := h) (n := 64) (len := 2) 1 11 dX1_init_52 (rb_p2 dX1_init_53 (by decide)) dX1_init_55 dX1_init_57 (by decide) (by decide +kernel) rfl tX1_init_X1 tyX1_ok nmX1 (by decide) (by decide +kernel) rfl rfl (Nat.le_of_ble_eq_true rfl) (by decide) (by decide) (fun a11 => ?_)
  refine rb_ret hG hE (rb_np 33 h a6 r6 a7 r7 a8 a9 a10 a11) rfl ?_ dX1_init_60 rfl rfl
  have e1 : rb_x (rb_cy G) (rb_np 33 h a6 r6 a7 r7 a8 a9 a10 a11) 34 = (a6, .inl ((rb_cy G).2.2.2, 6, .inr (.inr (.inr (.inr (fun k => if k < 6 then some (r6 k) else none)))))) := by unfold rb_x; rw [rb_out (r := r6) rfl (fun k hk => rb_np1 33 h a6 r6 a7 r7 a8 a9 a10 a11 hk)]; rfl
  have e2 : rb_x (rb_cy G) (rb_np 33 h a6 r6 a7 r7 a8 a9 a10 a11) 41 = (a7, .inl ((rb_cy G).2.2.2, 6, .inr (.inr (.inr (.inr (fun k => if k < 6 then some (r7 k) else none)))))) := by unfold rb_x; rw [rb_out (r := r7) rfl (fun k hk => rb_np2 33 h a6 r6 a7 r7 a8 a9 a10 a11 hk)]; rfl
  show _ = [rb_x (rb_cy G) (rb_np 33 h a6 r6 a7 r7 a8 a9 a10 a11) 33, rb_x (rb_cy G) (rb_np 33 h a6 r6 a7 r7 a8 a9 a10 a11) 34, rb_x (rb_cy G) (rb_np 33 h a6 r6 a7 r7 a8 a9 a10 a11) 35, rb_x (rb_cy G) (rb_np 33 h a6 r6 a7 r7 a8 a9 a10 a11) 36, rb_x (rb_cy G) (rb_np 33 h a6 r6 a7 r7 a8 a9 a10 a11) 37, rb_x (rb_cy G) (rb_np 33 h a6 r6 a7 r7 a8 a9 a10 a11) 38, rb_x (rb_cy G) (rb_np 33 h a6 r6 a7 r7 a8 a9 a10 a11) 39, rb_x (rb_cy G) (rb_np 33 h a6 r6 a7 r7 a8 a9 a10 a11) 40, rb_x (rb_cy G) (rb_np 33 h a6 r6 a7 r7 a8 a9 a10 a11) 41, rb_x (rb_cy G) (rb_np 33 h a6 r6 a7 r7 a8 a9 a10 a11) 42, rb_x (rb_cy G) (rb_np 33 h a6 r6 a7 r7 a8 a9 a10 a11) 43, rb_x (rb_cy G) (rb_np 33 h a6 r6 a7 r7 a8 a9 a10 a11) 44, rb_x (rb_cy G) (rb_np 33 h a6 r6 a7 r7 a8 a9 a10 a11) 45, rb_x (rb_cy G) (rb_np 33 h a6 r6 a7 r7 a8 a9 a10 a11) 46, rb_x (rb_cy G) (rb_np 33 h a6 r6 a7 r7 a8 a9 a10 a11) 47, rb_x (rb_cy G) (rb_np 33 h a6 r6 a7 r7 a8 a9 a10 a11) 48, rb_x (rb_cy G) (rb_np 33 h a6 r6 a7 r7 a8 a9 a10 a11) 49, rb_x (rb_cy G) (rb_np 33 h a6 r6 a7 r7 a8 a9 a10 a11) 50, rb_x (rb_cy G) (rb_np 33 h a6 r6 a7 r7 a8 a9 a10 a11) 51]
  rw [e1, e2]
  rfl
