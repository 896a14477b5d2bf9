/-! ===== longs as whole numbers ===== -/
def J (z : Int) : Int64 := Int64.ofInt z
theorem J_add (a b : Int) : J a + J b = J (a + b) := (Int64.ofInt_add a b).symm
theorem J_sub (a b : Int) : J a - J b = J (a - b) := (Int64.ofInt_sub a b).symm
theorem J_mul (a b : Int) : J a * J b = J (a * b) := (Int64.ofInt_mul a b).symm
theorem J_neg (a : Int) : -J a = J (-a) := (Int64.ofInt_neg a).symm
theorem J_lit (n : Nat) : (OfNat.ofNat n : Int64) = J n := Int64.toBitVec_inj.1 rfl
theorem lN_J (n : Nat) : lN n = J n := Int64.ofInt_eq_ofNat.symm
theorem nI_J {n : Nat} (h : n < 2 ^ 31) : (nI n).toInt64 = J n := by rw [nI_l h, lN_J]
theorem nI_Jn {n : Nat} (h : n < 2 ^ 31) : (-(nI n)).toInt64 = J (-(n : Int)) := by
  rw [← Int64.ofInt_int32ToInt]
  unfold J
  rw [Int32.toInt_neg, nI_toInt h, Int.bmod_eq_of_le (by omega) (by omega)]
theorem J_toInt {z : Int} (h1 : -2 ^ 63 ≤ z) (h2 : z < 2 ^ 63) : (J z).toInt = z := Int64.toInt_ofInt_of_le h1 h2
theorem J_inj {a b : Int} (ha : -2 ^ 63 ≤ a) (ha2 : a < 2 ^ 63) (hb : -2 ^ 63 ≤ b) (hb2 : b < 2 ^ 63) : J a = J b ↔ a = b := by
  constructor
  · intro h
    rw [← J_toInt ha ha2, ← J_toInt hb hb2, h]
  · intro h; rw [h]
theorem J_ne0 {z : Int} (h1 : -2 ^ 63 ≤ z) (h2 : z < 2 ^ 63) (h : z ≠ 0) : ¬ J z = 0 := by
  intro q
  have h3 : (J z).toInt = (0 : Int64).toInt := by rw [q]
  rw [J_toInt h1 h2] at h3
  exact h h3
theorem J_lt {a b : Int} (ha : -2 ^ 63 ≤ a) (ha2 : a < 2 ^ 63) (hb : -2 ^ 63 ≤ b) (hb2 : b < 2 ^ 63) : J a < J b ↔ a < b := by
  rw [Int64.lt_iff_toInt_lt, J_toInt ha ha2, J_toInt hb hb2]
theorem J_div {y l : Int} (h1 : -2 ^ 62 ≤ y * l) (h2 : y * l < 2 ^ 62) (h3 : -2 ^ 62 ≤ l) (h4 : l < 2 ^ 62) (h5 : -2 ^ 62 ≤ y) (h6 : y < 2 ^ 62) (hl : l ≠ 0) : J (y * l) / J l = J y := by
  apply Int64.toInt_inj.1
  rw [Int64.toInt_div, J_toInt (by omega) (by omega), J_toInt (by omega) (by omega), J_toInt (by omega) (by omega), Int.mul_tdiv_cancel y hl]
  rw [Int.bmod_eq_of_le (by omega) (by omega)]
/-! the model's determinant -/
theorem pn_5 {i j : Nat} (hi : i < 5) (hj : j < 5) : 5 * i + j < 25 := by omega
theorem pX8_det_L31 {n k i : Nat} (hn : n ≤ 5) (hk : k < i) (hi : i < n) (X Y : Nat → Nat → Int) (l : Int) (B : Int) (hB : B ≤ 2 ^ 30) (hB0 : 0 ≤ B)
    (hX : ∀ a b, k ≤ a → a < n → k ≤ b → b < n → -B ≤ X a b ∧ X a b ≤ B) (hY : ∀ a b, k < a → a < n → k < b → b < n → -B ≤ Y a b ∧ Y a b ≤ B) (hl : l ≠ 0) (hlb : -B ≤ l ∧ l ≤ B)
    (hr : ∀ a b, k < a → a < n → k < b → b < n → X a b * X k k - X a k * X k b = Y a b * l) (a5 : Int64 → Int32 → rm_M → Option (Int64 × rm_M)) (a19 : Int64 → Int32 → Int32 → rm_M → Option (Int64 × rm_M)) :
    ∀ d f j M, j + d = n → k < j → d < f → (∀ b, j ≤ b → b < n → M.2.1 91 (5 * i + b) = J (X i b)) → M.2.1 91 (5 * i + k) = J (X i k) → (∀ b, k ≤ b → b < n → M.2.1 91 (5 * k + b) = J (X k b)) →
      ∃ M2, fX8_determinant_L31 (nI n) a5 a19 f (J l) (nI k) (nI i) (nI j) M = a19 (J l) (nI k) (nI (i + 1)) M2 ∧ (∀ b, j ≤ b → b < n → M2.2.1 91 (5 * i + b) = J (Y i b)) ∧ (∀ q, (q < 5 * i + j ∨ 5 * i + n ≤ q) → M2.2.1 91 q = M.2.1 91 q) ∧ FR (fun q => q = 91) M M2 ∧ M2.1 = M.1 := by
  intro d
  induction d with
  | zero =>
    intro f j M hj hkj hf h1 h2 h3
    obtain ⟨f, rfl⟩ : ∃ z, f = z + 1 := ⟨f - 1, by omega⟩
    rw [fX8_determinant_L31]
    simp (disch := omega) only [pn_lit, nI_leI, nI_add]
    rw [if_pos (by omega)]
    exact ⟨M, rfl, fun b hb hb2 => by omega, fun q _ => rfl, FR.rf, rfl⟩
  | succ d ih =>
    intro f j M hj hkj hf h1 h2 h3
    obtain ⟨f, rfl⟩ : ∃ z, f = z + 1 := ⟨f - 1, by omega⟩
    have hl0 : ¬ J l = 0 := J_ne0 (by omega) (by omega) hl
    have hYij := hY i j hk hi hkj (by omega)
    have hprod : -2 ^ 62 ≤ Y i j * l ∧ Y i j * l < 2 ^ 62 := by
      have h4 : (Y i j * l).natAbs ≤ (2 ^ 30) * (2 ^ 30) := by
        rw [Int.natAbs_mul]
        exact Nat.mul_le_mul (by omega) (by omega)
      omega
    rw [fX8_determinant_L31]
    simp (disch := omega) only [pn_lit, nI_leI, pk_mul, nI_add, pn_ib, nI_clamp, h1 j (by omega) (by omega), h2, h3 k (by omega) (by omega), h3 j (by omega) (by omega), J_mul, J_sub, hr i j hk hi hkj (by omega), decide_eq_true_eq, rm_lt1]
    rw [if_neg (by omega), if_pos (by omega), if_pos (by omega), if_pos (by omega), if_pos (by omega), if_neg hl0, if_pos (by omega), J_div hprod.1 hprod.2 (by omega) (by omega) (by omega) (by omega) hl]
    obtain ⟨M2, f2, p1, p2, p3, p4⟩ := ih f (j + 1) (rm_sJ M 91 (5 * i + j) (J (Y i j))) (by omega) (by omega) (by omega)
      (fun b hb hb2 => by rw [pn_sJ_eq, pn_updL_ne _ _ (by omega)]; exact h1 b (by omega) hb2)
      (by rw [pn_sJ_eq, pn_updL_ne _ _ (by omega)]; exact h2)
      (fun b hb hb2 => by rw [pn_sJ_eq, pn_updL_ne _ _ (by omega)]; exact h3 b hb hb2)
    refine ⟨M2, f2, fun b hb hb2 => ?_, fun q hq => ?_, FR.tr (S := fun q => q = 91) (FR.sJ rfl) p3, p4⟩
    · by_cases e : b = j
      · subst e
        rw [p2 _ (by omega), pn_sJ_eq, pn_updL_eq]
      · exact p1 b (by omega) hb2
    · rw [p2 q (by omega), pn_sJ_eq, pn_updL_ne _ _ (by omega)]
theorem pX8_det_L19 {n k : Nat} (hn : n ≤ 5) (hk : k + 1 < n) (X Y : Nat → Nat → Int) (l : Int) (B : Int) (hB : B ≤ 2 ^ 30) (hB0 : 0 ≤ B)
    (hX : ∀ a b, k ≤ a → a < n → k ≤ b → b < n → -B ≤ X a b ∧ X a b ≤ B) (hY : ∀ a b, k < a → a < n → k < b → b < n → -B ≤ Y a b ∧ Y a b ≤ B) (hl : l ≠ 0) (hlb : -B ≤ l ∧ l ≤ B)
    (hr : ∀ a b, k < a → a < n → k < b → b < n → X a b * X k k - X a k * X k b = Y a b * l) (a5 : Int64 → Int32 → rm_M → Option (Int64 × rm_M)) :
    ∀ d f i M, i + d = n → k < i → d < f → (∀ a b, i ≤ a → a < n → k ≤ b → b < n → M.2.1 91 (5 * a + b) = J (X a b)) → (∀ a b, k < a → a < i → k < b → b < n → M.2.1 91 (5 * a + b) = J (Y a b)) → (∀ b, k ≤ b → b < n → M.2.1 91 (5 * k + b) = J (X k b)) →
      ∃ M2, fX8_determinant_L19 (nI n) a5 f (J l) (nI k) (nI i) M = a5 (J (X k k)) (nI (k + 1)) M2 ∧ (∀ a b, k < a → a < n → k < b → b < n → M2.2.1 91 (5 * a + b) = J (Y a b)) ∧ FR (fun q => q = 91) M M2 ∧ M2.1 = M.1 := by
  have hF := pn_F
  intro d
  induction d with
  | zero =>
    intro f i M hi hki hf h1 h2 h3
    obtain ⟨f, rfl⟩ : ∃ z, f = z + 1 := ⟨f - 1, by omega⟩
    rw [fX8_determinant_L19]
    simp (disch := omega) only [pn_lit, nI_leI, pk_mul, nI_add, pn_ib, nI_clamp, h3 k (by omega) (by omega), decide_eq_true_eq, rm_lt1]
    rw [if_pos (by omega), if_pos (by omega)]
    exact ⟨M, rfl, fun a b ha ha2 hb hb2 => h2 a b ha (by omega) hb hb2, FR.rf, rfl⟩
  | succ d ih =>
    intro f i M hi hki hf h1 h2 h3
    obtain ⟨f, rfl⟩ : ∃ z, f = z + 1 := ⟨f - 1, by omega⟩
    rw [fX8_determinant_L19]
    simp (disch := omega) only [pn_lit, nI_leI, nI_add, rm_lt1]
    rw [if_neg (by omega)]
    obtain ⟨M2, f2, p1, p2, p3, p4⟩ := pX8_det_L31 hn hki (by omega : i < n) X Y l B hB hB0 hX hY hl hlb hr a5 (fX8_determinant_L19 (nI n) a5 f) (n - (k + 1)) rm_F (k + 1) M (by omega) (by omega) (by omega)
      (fun b hb hb2 => h1 i b (by omega) (by omega) (by omega) hb2) (h1 i k (by omega) (by omega) (by omega) (by omega)) h3
    rw [f2]
    obtain ⟨M3, f3, r1, r2, r3⟩ := ih f (i + 1) M2 (by omega) (by omega) (by omega)
      (fun a b ha ha2 hb hb2 => by rw [p2 _ (by omega)]; exact h1 a b (by omega) ha2 hb hb2)
      (fun a b ha ha2 hb hb2 => by
        by_cases e : a = i
        · subst e; exact p1 b (by omega) hb2
        · rw [p2 _ (by omega)]; exact h2 a b ha (by omega) hb hb2)
      (fun b hb hb2 => by rw [p2 _ (by omega)]; exact h3 b hb hb2)
    exact ⟨M3, f3, r1, p3.tr r2, by rw [r3, p4]⟩
/-- the phases of elimination -/
theorem pX8_det {n : Nat} (hn : n ≤ 5) (hn1 : 1 ≤ n) (X : Nat → Nat → Nat → Int) (l : Nat → Int) (B : Int) (hB : B ≤ 2 ^ 30) (hB0 : 0 ≤ B)
    (hX : ∀ k a b, k < n → k ≤ a → a < n → k ≤ b → b < n → -B ≤ X k a b ∧ X k a b ≤ B) (hl : ∀ k, k + 1 < n → l k ≠ 0 ∧ -B ≤ l k ∧ l k ≤ B) (hl1 : ∀ k, k + 1 < n → l (k + 1) = X k k k)
    (hr : ∀ k a b, k + 1 < n → k < a → a < n → k < b → b < n → X k a b * X k k k - X k a k * X k k b = X (k + 1) a b * l k) :
    ∀ d f k M, k + d + 1 = n → d < f → (∀ a b, k ≤ a → a < n → k ≤ b → b < n → M.2.1 91 (5 * a + b) = J (X k a b)) →
      ∃ M2, fX8_determinant_L5 (nI n) f (J (l k)) (nI k) M = some (J (X (n - 1) (n - 1) (n - 1)), M2) ∧ FR (fun q => q = 91) M M2 ∧ M2.1 = M.1 := by
  have hF := pn_F
  intro d
  induction d with
  | zero =>
    intro f k M hk hf h1
    obtain ⟨f, rfl⟩ : ∃ z, f = z + 1 := ⟨f - 1, by omega⟩
    obtain rfl : k = n - 1 := by omega
    rw [fX8_determinant_L5]
    simp only [pn_lit, nI_add]
    rw [pk_sub (by omega : 1 ≤ n), pk_mul, nI_add, pk_sub (by omega : 1 ≤ 5 * (n - 1) + n)]
    simp (disch := omega) only [nI_leI, pn_ib, nI_clamp, decide_eq_true_eq]
    rw [if_pos (by omega), if_pos (by omega), show 5 * (n - 1) + n - 1 = 5 * (n - 1) + (n - 1) by omega, h1 _ _ (by omega) (by omega) (by omega) (by omega)]
    exact ⟨M, rfl, FR.rf, rfl⟩
  | succ d ih =>
    intro f k M hk hf h1
    obtain ⟨f, rfl⟩ : ∃ z, f = z + 1 := ⟨f - 1, by omega⟩
    rw [fX8_determinant_L5]
    simp (disch := omega) only [pn_lit, nI_leI, nI_add, rm_lt1]
    rw [if_neg (by omega)]
    obtain ⟨M2, f2, p1, p2, p3⟩ := pX8_det_L19 hn (by omega : k + 1 < n) (X k) (X (k + 1)) (l k) B hB hB0 (fun a b ha ha2 hb hb2 => hX k a b (by omega) ha ha2 hb hb2)
      (fun a b ha ha2 hb hb2 => hX (k + 1) a b (by omega) (by omega) ha2 (by omega) hb2) (hl k (by omega)).1 (hl k (by omega)).2 (fun a b ha ha2 hb hb2 => hr k a b (by omega) ha ha2 hb hb2) (fX8_determinant_L5 (nI n) f)
      (n - (k + 1)) rm_F (k + 1) M (by omega) (by omega) (by omega) (fun a b ha ha2 hb hb2 => h1 a b (by omega) ha2 hb hb2) (fun a b ha ha2 => by omega) (fun b hb hb2 => h1 k b (by omega) (by omega) hb hb2)
    rw [f2, ← hl1 k (by omega)]
    obtain ⟨M3, f3, r2, r3⟩ := ih f (k + 1) M2 (by omega) (by omega) (fun a b ha ha2 hb hb2 => p1 a b (by omega) ha2 (by omega) hb2)
    exact ⟨M3, f3, p2.tr r2, by rw [r3, p3]⟩
