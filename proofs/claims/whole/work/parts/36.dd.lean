/-! ===== the class' minors: by the last row, over sets of columns as bits ===== -/
def pop (b : Nat) : Nat := rs (fun c => if b.testBit c then 1 else 0) 0 6
def od (b c : Nat) : Bool := decide (pop (b / 2 ^ (c + 1)) % 2 = 1)
def dd (E : Nat → Nat → Int) : Nat → Nat → Int
  | 0, _ => 1
  | k + 1, b => isu (fun c => if b.testBit c = true then (if od b c = true then -(E k c) else E k c) * dd E k (b - 2 ^ c) else 0) 0 6
theorem dd1_1 (E : Nat → Nat → Int) : dd E 1 1 = E 0 0 := by
  have h : dd E 1 1 = E 0 0 * dd E 0 0 + (0 + (0 + (0 + (0 + (0 + (0)))))) := rfl
  rw [h, show dd E 0 0 = 1 from rfl]
  grind
theorem dd1_2 (E : Nat → Nat → Int) : dd E 1 2 = E 0 1 := by
  have h : dd E 1 2 = 0 + (E 0 1 * dd E 0 0 + (0 + (0 + (0 + (0 + (0)))))) := rfl
  rw [h, show dd E 0 0 = 1 from rfl]
  grind
theorem dd1_4 (E : Nat → Nat → Int) : dd E 1 4 = E 0 2 := by
  have h : dd E 1 4 = 0 + (0 + (E 0 2 * dd E 0 0 + (0 + (0 + (0 + (0)))))) := rfl
  rw [h, show dd E 0 0 = 1 from rfl]
  grind
theorem dd1_8 (E : Nat → Nat → Int) : dd E 1 8 = E 0 3 := by
  have h : dd E 1 8 = 0 + (0 + (0 + (E 0 3 * dd E 0 0 + (0 + (0 + (0)))))) := rfl
  rw [h, show dd E 0 0 = 1 from rfl]
  grind
theorem dd1_16 (E : Nat → Nat → Int) : dd E 1 16 = E 0 4 := by
  have h : dd E 1 16 = 0 + (0 + (0 + (0 + (E 0 4 * dd E 0 0 + (0 + (0)))))) := rfl
  rw [h, show dd E 0 0 = 1 from rfl]
  grind
theorem dd1_32 (E : Nat → Nat → Int) : dd E 1 32 = E 0 5 := by
  have h : dd E 1 32 = 0 + (0 + (0 + (0 + (0 + (E 0 5 * dd E 0 0 + (0)))))) := rfl
  rw [h, show dd E 0 0 = 1 from rfl]
  grind
theorem dd2_3 (E : Nat → Nat → Int) : dd E 2 3 = d2 E 0 1 := by
  have h : dd E 2 3 = -(E 1 0) * dd E 1 2 + (E 1 1 * dd E 1 1 + (0 + (0 + (0 + (0 + (0)))))) := rfl
  rw [h, dd1_2, dd1_1]
  unfold d2; grind
theorem dd2_5 (E : Nat → Nat → Int) : dd E 2 5 = d2 E 0 2 := by
  have h : dd E 2 5 = -(E 1 0) * dd E 1 4 + (0 + (E 1 2 * dd E 1 1 + (0 + (0 + (0 + (0)))))) := rfl
  rw [h, dd1_4, dd1_1]
  unfold d2; grind
theorem dd2_9 (E : Nat → Nat → Int) : dd E 2 9 = d2 E 0 3 := by
  have h : dd E 2 9 = -(E 1 0) * dd E 1 8 + (0 + (0 + (E 1 3 * dd E 1 1 + (0 + (0 + (0)))))) := rfl
  rw [h, dd1_8, dd1_1]
  unfold d2; grind
theorem dd2_17 (E : Nat → Nat → Int) : dd E 2 17 = d2 E 0 4 := by
  have h : dd E 2 17 = -(E 1 0) * dd E 1 16 + (0 + (0 + (0 + (E 1 4 * dd E 1 1 + (0 + (0)))))) := rfl
  rw [h, dd1_16, dd1_1]
  unfold d2; grind
theorem dd2_33 (E : Nat → Nat → Int) : dd E 2 33 = d2 E 0 5 := by
  have h : dd E 2 33 = -(E 1 0) * dd E 1 32 + (0 + (0 + (0 + (0 + (E 1 5 * dd E 1 1 + (0)))))) := rfl
  rw [h, dd1_32, dd1_1]
  unfold d2; grind
theorem dd2_6 (E : Nat → Nat → Int) : dd E 2 6 = d2 E 1 2 := by
  have h : dd E 2 6 = 0 + (-(E 1 1) * dd E 1 4 + (E 1 2 * dd E 1 2 + (0 + (0 + (0 + (0)))))) := rfl
  rw [h, dd1_4, dd1_2]
  unfold d2; grind
theorem dd2_10 (E : Nat → Nat → Int) : dd E 2 10 = d2 E 1 3 := by
  have h : dd E 2 10 = 0 + (-(E 1 1) * dd E 1 8 + (0 + (E 1 3 * dd E 1 2 + (0 + (0 + (0)))))) := rfl
  rw [h, dd1_8, dd1_2]
  unfold d2; grind
theorem dd2_18 (E : Nat → Nat → Int) : dd E 2 18 = d2 E 1 4 := by
  have h : dd E 2 18 = 0 + (-(E 1 1) * dd E 1 16 + (0 + (0 + (E 1 4 * dd E 1 2 + (0 + (0)))))) := rfl
  rw [h, dd1_16, dd1_2]
  unfold d2; grind
theorem dd2_34 (E : Nat → Nat → Int) : dd E 2 34 = d2 E 1 5 := by
  have h : dd E 2 34 = 0 + (-(E 1 1) * dd E 1 32 + (0 + (0 + (0 + (E 1 5 * dd E 1 2 + (0)))))) := rfl
  rw [h, dd1_32, dd1_2]
  unfold d2; grind
theorem dd2_12 (E : Nat → Nat → Int) : dd E 2 12 = d2 E 2 3 := by
  have h : dd E 2 12 = 0 + (0 + (-(E 1 2) * dd E 1 8 + (E 1 3 * dd E 1 4 + (0 + (0 + (0)))))) := rfl
  rw [h, dd1_8, dd1_4]
  unfold d2; grind
theorem dd2_20 (E : Nat → Nat → Int) : dd E 2 20 = d2 E 2 4 := by
  have h : dd E 2 20 = 0 + (0 + (-(E 1 2) * dd E 1 16 + (0 + (E 1 4 * dd E 1 4 + (0 + (0)))))) := rfl
  rw [h, dd1_16, dd1_4]
  unfold d2; grind
theorem dd2_36 (E : Nat → Nat → Int) : dd E 2 36 = d2 E 2 5 := by
  have h : dd E 2 36 = 0 + (0 + (-(E 1 2) * dd E 1 32 + (0 + (0 + (E 1 5 * dd E 1 4 + (0)))))) := rfl
  rw [h, dd1_32, dd1_4]
  unfold d2; grind
theorem dd2_24 (E : Nat → Nat → Int) : dd E 2 24 = d2 E 3 4 := by
  have h : dd E 2 24 = 0 + (0 + (0 + (-(E 1 3) * dd E 1 16 + (E 1 4 * dd E 1 8 + (0 + (0)))))) := rfl
  rw [h, dd1_16, dd1_8]
  unfold d2; grind
theorem dd2_40 (E : Nat → Nat → Int) : dd E 2 40 = d2 E 3 5 := by
  have h : dd E 2 40 = 0 + (0 + (0 + (-(E 1 3) * dd E 1 32 + (0 + (E 1 5 * dd E 1 8 + (0)))))) := rfl
  rw [h, dd1_32, dd1_8]
  unfold d2; grind
theorem dd2_48 (E : Nat → Nat → Int) : dd E 2 48 = d2 E 4 5 := by
  have h : dd E 2 48 = 0 + (0 + (0 + (0 + (-(E 1 4) * dd E 1 32 + (E 1 5 * dd E 1 16 + (0)))))) := rfl
  rw [h, dd1_32, dd1_16]
  unfold d2; grind
theorem dd3_7 (E : Nat → Nat → Int) : dd E 3 7 = d3 E 2 0 1 2 := by
  have h : dd E 3 7 = E 2 0 * dd E 2 6 + (-(E 2 1) * dd E 2 5 + (E 2 2 * dd E 2 3 + (0 + (0 + (0 + (0)))))) := rfl
  rw [h, dd2_6, dd2_5, dd2_3]
  unfold d3; grind
theorem dd3_11 (E : Nat → Nat → Int) : dd E 3 11 = d3 E 2 0 1 3 := by
  have h : dd E 3 11 = E 2 0 * dd E 2 10 + (-(E 2 1) * dd E 2 9 + (0 + (E 2 3 * dd E 2 3 + (0 + (0 + (0)))))) := rfl
  rw [h, dd2_10, dd2_9, dd2_3]
  unfold d3; grind
theorem dd3_19 (E : Nat → Nat → Int) : dd E 3 19 = d3 E 2 0 1 4 := by
  have h : dd E 3 19 = E 2 0 * dd E 2 18 + (-(E 2 1) * dd E 2 17 + (0 + (0 + (E 2 4 * dd E 2 3 + (0 + (0)))))) := rfl
  rw [h, dd2_18, dd2_17, dd2_3]
  unfold d3; grind
theorem dd3_35 (E : Nat → Nat → Int) : dd E 3 35 = d3 E 2 0 1 5 := by
  have h : dd E 3 35 = E 2 0 * dd E 2 34 + (-(E 2 1) * dd E 2 33 + (0 + (0 + (0 + (E 2 5 * dd E 2 3 + (0)))))) := rfl
  rw [h, dd2_34, dd2_33, dd2_3]
  unfold d3; grind
theorem dd3_13 (E : Nat → Nat → Int) : dd E 3 13 = d3 E 2 0 2 3 := by
  have h : dd E 3 13 = E 2 0 * dd E 2 12 + (0 + (-(E 2 2) * dd E 2 9 + (E 2 3 * dd E 2 5 + (0 + (0 + (0)))))) := rfl
  rw [h, dd2_12, dd2_9, dd2_5]
  unfold d3; grind
theorem dd3_21 (E : Nat → Nat → Int) : dd E 3 21 = d3 E 2 0 2 4 := by
  have h : dd E 3 21 = E 2 0 * dd E 2 20 + (0 + (-(E 2 2) * dd E 2 17 + (0 + (E 2 4 * dd E 2 5 + (0 + (0)))))) := rfl
  rw [h, dd2_20, dd2_17, dd2_5]
  unfold d3; grind
theorem dd3_37 (E : Nat → Nat → Int) : dd E 3 37 = d3 E 2 0 2 5 := by
  have h : dd E 3 37 = E 2 0 * dd E 2 36 + (0 + (-(E 2 2) * dd E 2 33 + (0 + (0 + (E 2 5 * dd E 2 5 + (0)))))) := rfl
  rw [h, dd2_36, dd2_33, dd2_5]
  unfold d3; grind
theorem dd3_25 (E : Nat → Nat → Int) : dd E 3 25 = d3 E 2 0 3 4 := by
  have h : dd E 3 25 = E 2 0 * dd E 2 24 + (0 + (0 + (-(E 2 3) * dd E 2 17 + (E 2 4 * dd E 2 9 + (0 + (0)))))) := rfl
  rw [h, dd2_24, dd2_17, dd2_9]
  unfold d3; grind
theorem dd3_41 (E : Nat → Nat → Int) : dd E 3 41 = d3 E 2 0 3 5 := by
  have h : dd E 3 41 = E 2 0 * dd E 2 40 + (0 + (0 + (-(E 2 3) * dd E 2 33 + (0 + (E 2 5 * dd E 2 9 + (0)))))) := rfl
  rw [h, dd2_40, dd2_33, dd2_9]
  unfold d3; grind
theorem dd3_49 (E : Nat → Nat → Int) : dd E 3 49 = d3 E 2 0 4 5 := by
  have h : dd E 3 49 = E 2 0 * dd E 2 48 + (0 + (0 + (0 + (-(E 2 4) * dd E 2 33 + (E 2 5 * dd E 2 17 + (0)))))) := rfl
  rw [h, dd2_48, dd2_33, dd2_17]
  unfold d3; grind
theorem dd3_14 (E : Nat → Nat → Int) : dd E 3 14 = d3 E 2 1 2 3 := by
  have h : dd E 3 14 = 0 + (E 2 1 * dd E 2 12 + (-(E 2 2) * dd E 2 10 + (E 2 3 * dd E 2 6 + (0 + (0 + (0)))))) := rfl
  rw [h, dd2_12, dd2_10, dd2_6]
  unfold d3; grind
theorem dd3_22 (E : Nat → Nat → Int) : dd E 3 22 = d3 E 2 1 2 4 := by
  have h : dd E 3 22 = 0 + (E 2 1 * dd E 2 20 + (-(E 2 2) * dd E 2 18 + (0 + (E 2 4 * dd E 2 6 + (0 + (0)))))) := rfl
  rw [h, dd2_20, dd2_18, dd2_6]
  unfold d3; grind
theorem dd3_38 (E : Nat → Nat → Int) : dd E 3 38 = d3 E 2 1 2 5 := by
  have h : dd E 3 38 = 0 + (E 2 1 * dd E 2 36 + (-(E 2 2) * dd E 2 34 + (0 + (0 + (E 2 5 * dd E 2 6 + (0)))))) := rfl
  rw [h, dd2_36, dd2_34, dd2_6]
  unfold d3; grind
theorem dd3_26 (E : Nat → Nat → Int) : dd E 3 26 = d3 E 2 1 3 4 := by
  have h : dd E 3 26 = 0 + (E 2 1 * dd E 2 24 + (0 + (-(E 2 3) * dd E 2 18 + (E 2 4 * dd E 2 10 + (0 + (0)))))) := rfl
  rw [h, dd2_24, dd2_18, dd2_10]
  unfold d3; grind
theorem dd3_42 (E : Nat → Nat → Int) : dd E 3 42 = d3 E 2 1 3 5 := by
  have h : dd E 3 42 = 0 + (E 2 1 * dd E 2 40 + (0 + (-(E 2 3) * dd E 2 34 + (0 + (E 2 5 * dd E 2 10 + (0)))))) := rfl
  rw [h, dd2_40, dd2_34, dd2_10]
  unfold d3; grind
theorem dd3_50 (E : Nat → Nat → Int) : dd E 3 50 = d3 E 2 1 4 5 := by
  have h : dd E 3 50 = 0 + (E 2 1 * dd E 2 48 + (0 + (0 + (-(E 2 4) * dd E 2 34 + (E 2 5 * dd E 2 18 + (0)))))) := rfl
  rw [h, dd2_48, dd2_34, dd2_18]
  unfold d3; grind
theorem dd3_28 (E : Nat → Nat → Int) : dd E 3 28 = d3 E 2 2 3 4 := by
  have h : dd E 3 28 = 0 + (0 + (E 2 2 * dd E 2 24 + (-(E 2 3) * dd E 2 20 + (E 2 4 * dd E 2 12 + (0 + (0)))))) := rfl
  rw [h, dd2_24, dd2_20, dd2_12]
  unfold d3; grind
theorem dd3_44 (E : Nat → Nat → Int) : dd E 3 44 = d3 E 2 2 3 5 := by
  have h : dd E 3 44 = 0 + (0 + (E 2 2 * dd E 2 40 + (-(E 2 3) * dd E 2 36 + (0 + (E 2 5 * dd E 2 12 + (0)))))) := rfl
  rw [h, dd2_40, dd2_36, dd2_12]
  unfold d3; grind
theorem dd3_52 (E : Nat → Nat → Int) : dd E 3 52 = d3 E 2 2 4 5 := by
  have h : dd E 3 52 = 0 + (0 + (E 2 2 * dd E 2 48 + (0 + (-(E 2 4) * dd E 2 36 + (E 2 5 * dd E 2 20 + (0)))))) := rfl
  rw [h, dd2_48, dd2_36, dd2_20]
  unfold d3; grind
theorem dd3_56 (E : Nat → Nat → Int) : dd E 3 56 = d3 E 2 3 4 5 := by
  have h : dd E 3 56 = 0 + (0 + (0 + (E 2 3 * dd E 2 48 + (-(E 2 4) * dd E 2 40 + (E 2 5 * dd E 2 24 + (0)))))) := rfl
  rw [h, dd2_48, dd2_40, dd2_24]
  unfold d3; grind
theorem dd4_15 (E : Nat → Nat → Int) : dd E 4 15 = d4 E 3 0 1 2 3 := by
  have h : dd E 4 15 = -(E 3 0) * dd E 3 14 + (E 3 1 * dd E 3 13 + (-(E 3 2) * dd E 3 11 + (E 3 3 * dd E 3 7 + (0 + (0 + (0)))))) := rfl
  rw [h, dd3_14, dd3_13, dd3_11, dd3_7]
  unfold d4; grind
theorem dd4_23 (E : Nat → Nat → Int) : dd E 4 23 = d4 E 3 0 1 2 4 := by
  have h : dd E 4 23 = -(E 3 0) * dd E 3 22 + (E 3 1 * dd E 3 21 + (-(E 3 2) * dd E 3 19 + (0 + (E 3 4 * dd E 3 7 + (0 + (0)))))) := rfl
  rw [h, dd3_22, dd3_21, dd3_19, dd3_7]
  unfold d4; grind
theorem dd4_39 (E : Nat → Nat → Int) : dd E 4 39 = d4 E 3 0 1 2 5 := by
  have h : dd E 4 39 = -(E 3 0) * dd E 3 38 + (E 3 1 * dd E 3 37 + (-(E 3 2) * dd E 3 35 + (0 + (0 + (E 3 5 * dd E 3 7 + (0)))))) := rfl
  rw [h, dd3_38, dd3_37, dd3_35, dd3_7]
  unfold d4; grind
theorem dd4_27 (E : Nat → Nat → Int) : dd E 4 27 = d4 E 3 0 1 3 4 := by
  have h : dd E 4 27 = -(E 3 0) * dd E 3 26 + (E 3 1 * dd E 3 25 + (0 + (-(E 3 3) * dd E 3 19 + (E 3 4 * dd E 3 11 + (0 + (0)))))) := rfl
  rw [h, dd3_26, dd3_25, dd3_19, dd3_11]
  unfold d4; grind
theorem dd4_43 (E : Nat → Nat → Int) : dd E 4 43 = d4 E 3 0 1 3 5 := by
  have h : dd E 4 43 = -(E 3 0) * dd E 3 42 + (E 3 1 * dd E 3 41 + (0 + (-(E 3 3) * dd E 3 35 + (0 + (E 3 5 * dd E 3 11 + (0)))))) := rfl
  rw [h, dd3_42, dd3_41, dd3_35, dd3_11]
  unfold d4; grind
theorem dd4_51 (E : Nat → Nat → Int) : dd E 4 51 = d4 E 3 0 1 4 5 := by
  have h : dd E 4 51 = -(E 3 0) * dd E 3 50 + (E 3 1 * dd E 3 49 + (0 + (0 + (-(E 3 4) * dd E 3 35 + (E 3 5 * dd E 3 19 + (0)))))) := rfl
  rw [h, dd3_50, dd3_49, dd3_35, dd3_19]
  unfold d4; grind
theorem dd4_29 (E : Nat → Nat → Int) : dd E 4 29 = d4 E 3 0 2 3 4 := by
  have h : dd E 4 29 = -(E 3 0) * dd E 3 28 + (0 + (E 3 2 * dd E 3 25 + (-(E 3 3) * dd E 3 21 + (E 3 4 * dd E 3 13 + (0 + (0)))))) := rfl
  rw [h, dd3_28, dd3_25, dd3_21, dd3_13]
  unfold d4; grind
theorem dd4_45 (E : Nat → Nat → Int) : dd E 4 45 = d4 E 3 0 2 3 5 := by
  have h : dd E 4 45 = -(E 3 0) * dd E 3 44 + (0 + (E 3 2 * dd E 3 41 + (-(E 3 3) * dd E 3 37 + (0 + (E 3 5 * dd E 3 13 + (0)))))) := rfl
  rw [h, dd3_44, dd3_41, dd3_37, dd3_13]
  unfold d4; grind
theorem dd4_53 (E : Nat → Nat → Int) : dd E 4 53 = d4 E 3 0 2 4 5 := by
  have h : dd E 4 53 = -(E 3 0) * dd E 3 52 + (0 + (E 3 2 * dd E 3 49 + (0 + (-(E 3 4) * dd E 3 37 + (E 3 5 * dd E 3 21 + (0)))))) := rfl
  rw [h, dd3_52, dd3_49, dd3_37, dd3_21]
  unfold d4; grind
theorem dd4_57 (E : Nat → Nat → Int) : dd E 4 57 = d4 E 3 0 3 4 5 := by
  have h : dd E 4 57 = -(E 3 0) * dd E 3 56 + (0 + (0 + (E 3 3 * dd E 3 49 + (-(E 3 4) * dd E 3 41 + (E 3 5 * dd E 3 25 + (0)))))) := rfl
  rw [h, dd3_56, dd3_49, dd3_41, dd3_25]
  unfold d4; grind
theorem dd4_30 (E : Nat → Nat → Int) : dd E 4 30 = d4 E 3 1 2 3 4 := by
  have h : dd E 4 30 = 0 + (-(E 3 1) * dd E 3 28 + (E 3 2 * dd E 3 26 + (-(E 3 3) * dd E 3 22 + (E 3 4 * dd E 3 14 + (0 + (0)))))) := rfl
  rw [h, dd3_28, dd3_26, dd3_22, dd3_14]
  unfold d4; grind
theorem dd4_46 (E : Nat → Nat → Int) : dd E 4 46 = d4 E 3 1 2 3 5 := by
  have h : dd E 4 46 = 0 + (-(E 3 1) * dd E 3 44 + (E 3 2 * dd E 3 42 + (-(E 3 3) * dd E 3 38 + (0 + (E 3 5 * dd E 3 14 + (0)))))) := rfl
  rw [h, dd3_44, dd3_42, dd3_38, dd3_14]
  unfold d4; grind
theorem dd4_54 (E : Nat → Nat → Int) : dd E 4 54 = d4 E 3 1 2 4 5 := by
  have h : dd E 4 54 = 0 + (-(E 3 1) * dd E 3 52 + (E 3 2 * dd E 3 50 + (0 + (-(E 3 4) * dd E 3 38 + (E 3 5 * dd E 3 22 + (0)))))) := rfl
  rw [h, dd3_52, dd3_50, dd3_38, dd3_22]
  unfold d4; grind
theorem dd4_58 (E : Nat → Nat → Int) : dd E 4 58 = d4 E 3 1 3 4 5 := by
  have h : dd E 4 58 = 0 + (-(E 3 1) * dd E 3 56 + (0 + (E 3 3 * dd E 3 50 + (-(E 3 4) * dd E 3 42 + (E 3 5 * dd E 3 26 + (0)))))) := rfl
  rw [h, dd3_56, dd3_50, dd3_42, dd3_26]
  unfold d4; grind
theorem dd4_60 (E : Nat → Nat → Int) : dd E 4 60 = d4 E 3 2 3 4 5 := by
  have h : dd E 4 60 = 0 + (0 + (-(E 3 2) * dd E 3 56 + (E 3 3 * dd E 3 52 + (-(E 3 4) * dd E 3 44 + (E 3 5 * dd E 3 28 + (0)))))) := rfl
  rw [h, dd3_56, dd3_52, dd3_44, dd3_28]
  unfold d4; grind
theorem dd5_31 (E : Nat → Nat → Int) : dd E 5 31 = d5 E 4 0 1 2 3 4 := by
  have h : dd E 5 31 = E 4 0 * dd E 4 30 + (-(E 4 1) * dd E 4 29 + (E 4 2 * dd E 4 27 + (-(E 4 3) * dd E 4 23 + (E 4 4 * dd E 4 15 + (0 + (0)))))) := rfl
  rw [h, dd4_30, dd4_29, dd4_27, dd4_23, dd4_15]
  unfold d5; grind
theorem dd5_47 (E : Nat → Nat → Int) : dd E 5 47 = d5 E 4 0 1 2 3 5 := by
  have h : dd E 5 47 = E 4 0 * dd E 4 46 + (-(E 4 1) * dd E 4 45 + (E 4 2 * dd E 4 43 + (-(E 4 3) * dd E 4 39 + (0 + (E 4 5 * dd E 4 15 + (0)))))) := rfl
  rw [h, dd4_46, dd4_45, dd4_43, dd4_39, dd4_15]
  unfold d5; grind
theorem dd5_55 (E : Nat → Nat → Int) : dd E 5 55 = d5 E 4 0 1 2 4 5 := by
  have h : dd E 5 55 = E 4 0 * dd E 4 54 + (-(E 4 1) * dd E 4 53 + (E 4 2 * dd E 4 51 + (0 + (-(E 4 4) * dd E 4 39 + (E 4 5 * dd E 4 23 + (0)))))) := rfl
  rw [h, dd4_54, dd4_53, dd4_51, dd4_39, dd4_23]
  unfold d5; grind
theorem dd5_59 (E : Nat → Nat → Int) : dd E 5 59 = d5 E 4 0 1 3 4 5 := by
  have h : dd E 5 59 = E 4 0 * dd E 4 58 + (-(E 4 1) * dd E 4 57 + (0 + (E 4 3 * dd E 4 51 + (-(E 4 4) * dd E 4 43 + (E 4 5 * dd E 4 27 + (0)))))) := rfl
  rw [h, dd4_58, dd4_57, dd4_51, dd4_43, dd4_27]
  unfold d5; grind
theorem dd5_61 (E : Nat → Nat → Int) : dd E 5 61 = d5 E 4 0 2 3 4 5 := by
  have h : dd E 5 61 = E 4 0 * dd E 4 60 + (0 + (-(E 4 2) * dd E 4 57 + (E 4 3 * dd E 4 53 + (-(E 4 4) * dd E 4 45 + (E 4 5 * dd E 4 29 + (0)))))) := rfl
  rw [h, dd4_60, dd4_57, dd4_53, dd4_45, dd4_29]
  unfold d5; grind
theorem dd5_62 (E : Nat → Nat → Int) : dd E 5 62 = d5 E 4 1 2 3 4 5 := by
  have h : dd E 5 62 = 0 + (E 4 1 * dd E 4 60 + (-(E 4 2) * dd E 4 58 + (E 4 3 * dd E 4 54 + (-(E 4 4) * dd E 4 46 + (E 4 5 * dd E 4 30 + (0)))))) := rfl
  rw [h, dd4_60, dd4_58, dd4_54, dd4_46, dd4_30]
  unfold d5; grind
