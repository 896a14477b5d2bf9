/-! ===== the pivots are above 0: rows of a net that hangs together ===== -/
def isu (f : Nat → Int) : Nat → Nat → Int
  | _, 0 => 0
  | i, d + 1 => f i + isu f (i + 1) d
theorem isu_lin (f g h : Nat → Int) (a b : Int) : ∀ d i, (∀ j, i ≤ j → j < i + d → h j = f j * a - b * g j) → isu h i d = isu f i d * a - b * isu g i d := by
  intro d
  induction d with
  | zero => intro i _; simp [isu]
  | succ d ih =>
    intro i hh
    rw [isu, isu, isu, ih (i + 1) (fun j h1 h2 => hh j (by omega) (by omega)), hh i (by omega) (by omega)]
    grind
theorem isu_mul (f : Nat → Int) (a : Int) : ∀ d i, isu (fun j => f j * a) i d = isu f i d * a := by
  intro d
  induction d with
  | zero => intro i; simp [isu]
  | succ d ih =>
    intro i
    rw [isu, isu, ih (i + 1)]
    grind
theorem isu_le1 {f : Nat → Int} {k d i : Nat} : (∀ j, k ≤ j → j < k + d → j ≠ i → f j ≤ 0) → k ≤ i → i < k + d → isu f k d ≤ f i := by
  induction d generalizing k with
  | zero => intro _ h1 h2; omega
  | succ d ih =>
    intro h h1 h2
    rw [isu]
    by_cases e : k = i
    · subst e
      have : ∀ d m, k < m → (∀ j, m ≤ j → j < m + d → f j ≤ 0) → isu f m d ≤ 0 := by
        intro d
        induction d with
        | zero => intro m _ _; simp [isu]
        | succ d ih2 =>
          intro m hm hj
          have a1 := hj m (by omega) (by omega)
          have a2 := ih2 (m + 1) (by omega) (fun j j1 j2 => hj j (by omega) (by omega))
          rw [isu]; omega
      have := this d (k + 1) (by omega) (fun j j1 j2 => h j (by omega) (by omega) (by omega))
      omega
    · have a1 := h k (by omega) (by omega) e
      have a2 := ih (k := k + 1) (fun j j1 j2 j3 => h j (by omega) (by omega) j3) (by omega) (by omega)
      omega
theorem isu_le2 {f : Nat → Int} {k d i m : Nat} (h : ∀ j, k ≤ j → j < k + d → j ≠ i → f j ≤ 0) (h1 : k ≤ i) (h2 : i < k + d) (h3 : k ≤ m) (h4 : m < k + d) (h5 : m ≠ i) : isu f k d ≤ f i + f m := by
  have key : isu (fun j => if j = i then f i + f m else if j = m then 0 else f j) k d = isu f k d := by
    have aux : ∀ d k, isu (fun j => if j = i then f i + f m else if j = m then 0 else f j) k d = isu f k d + (if k ≤ i ∧ i < k + d then f m else 0) - (if k ≤ m ∧ m < k + d then f m else 0) := by
      intro d
      induction d with
      | zero => intro k; simp [isu]; omega
      | succ d ih =>
        intro k
        rw [isu, isu, ih (k + 1)]
        by_cases e1 : k = i
        · subst e1
          have c1 : ¬ (k + 1 ≤ k ∧ k < k + 1 + d) := by omega
          have c2 : k ≤ k ∧ k < k + (d + 1) := by omega
          rw [if_pos rfl, if_neg c1, if_pos c2]
          by_cases e2 : k + 1 ≤ m ∧ m < k + 1 + d
          · rw [if_pos e2, if_pos (by omega)]; omega
          · rw [if_neg e2, if_neg (by omega)]; omega
        · rw [if_neg e1]
          by_cases e3 : k = m
          · subst e3
            have c1 : ¬ (k + 1 ≤ k ∧ k < k + 1 + d) := by omega
            have c2 : k ≤ k ∧ k < k + (d + 1) := by omega
            rw [if_pos rfl, if_neg c1, if_pos c2]
            by_cases e2 : k + 1 ≤ i ∧ i < k + 1 + d
            · rw [if_pos e2, if_pos (by omega)]; omega
            · rw [if_neg e2, if_neg (by omega)]; omega
          · rw [if_neg e3]
            by_cases e2 : k + 1 ≤ i ∧ i < k + 1 + d
            · rw [if_pos e2, if_pos (show k ≤ i ∧ i < k + (d + 1) by omega)]
              by_cases e4 : k + 1 ≤ m ∧ m < k + 1 + d
              · rw [if_pos e4, if_pos (by omega)]; omega
              · rw [if_neg e4, if_neg (by omega)]; omega
            · rw [if_neg e2, if_neg (show ¬ (k ≤ i ∧ i < k + (d + 1)) by omega)]
              by_cases e4 : k + 1 ≤ m ∧ m < k + 1 + d
              · rw [if_pos e4, if_pos (by omega)]; omega
              · rw [if_neg e4, if_neg (by omega)]; omega
    rw [aux d k, if_pos ⟨h1, h2⟩, if_pos ⟨h3, h4⟩]
    omega
  rw [← key]
  have := isu_le1 (f := fun j => if j = i then f i + f m else if j = m then 0 else f j) (k := k) (d := d) (i := i) (fun j j1 j2 j3 => by
    simp only [if_neg j3]
    by_cases e : j = m
    · rw [if_pos e]; omega
    · rw [if_neg e]; exact h j j1 j2 j3) h1 h2
  simpa using this
def OkM (n k : Nat) (X : Nat → Nat → Int) (dl : Nat → Nat) : Prop :=
  (∀ i j, k ≤ i → i < n → k ≤ j → j < n → i ≠ j → X i j ≤ 0) ∧ (∀ i, k ≤ i → i < n → 0 ≤ isu (X i) k (n - k)) ∧ (∀ i, k ≤ i → i < n → 0 < isu (X i) k (n - k) ∨ ∃ j, k ≤ j ∧ j < n ∧ j ≠ i ∧ X i j < 0 ∧ dl j < dl i)
theorem OkM.pos {n k : Nat} {X : Nat → Nat → Int} {dl : Nat → Nat} (h : OkM n k X dl) {i : Nat} (h1 : k ≤ i) (h2 : i < n) : 0 < X i i := by
  obtain ⟨a, b, c⟩ := h
  have hb := b i h1 h2
  have hle : isu (X i) k (n - k) ≤ X i i := isu_le1 (fun j j1 j2 j3 => a i j h1 h2 j1 (by omega) (Ne.symm j3)) h1 (by omega)
  rcases c i h1 h2 with hp | ⟨j, j1, j2, j3, j4, -⟩
  · omega
  · have := isu_le2 (f := X i) (k := k) (d := n - k) (i := i) (m := j) (fun j j1 j2 j3 => a i j h1 h2 j1 (by omega) (Ne.symm j3)) h1 (by omega) j1 (by omega) j3
    omega
theorem neg_of_mul {a l : Int} (hl : 0 < l) (h : a * l < 0) : a < 0 := by
  rcases Int.lt_or_le a 0 with q | q
  · exact q
  · have := Int.mul_nonneg q (Int.le_of_lt hl); omega
theorem nonpos_of_mul {a l : Int} (hl : 0 < l) (h : a * l ≤ 0) : a ≤ 0 := by
  rcases Int.lt_or_le 0 a with q | q
  · have := Int.mul_pos q hl; omega
  · exact q
theorem OkM.step {n k : Nat} {X Y : Nat → Nat → Int} {dl : Nat → Nat} {l : Int} (h : OkM n k X dl) (hk : k + 1 < n) (hl : 0 < l)
    (hr : ∀ a b, k < a → a < n → k < b → b < n → X a b * X k k - X a k * X k b = Y a b * l) : OkM n (k + 1) Y dl := by
  have hp := h.pos (Nat.le_refl k) (by omega)
  obtain ⟨a, b, c⟩ := h
  have hsplit : ∀ i, isu (X i) k (n - k) = X i k + isu (X i) (k + 1) (n - (k + 1)) := fun i => by
    rw [show n - k = (n - (k + 1)) + 1 by omega, isu]
  have hrow : ∀ i, k < i → i < n → isu (Y i) (k + 1) (n - (k + 1)) * l = isu (X i) k (n - k) * X k k - X i k * isu (X k) k (n - k) := by
    intro i hi hi2
    have e1 := isu_lin (X i) (X k) (fun j => Y i j * l) (X k k) (X i k) (n - (k + 1)) (k + 1) (fun j j1 j2 => (hr i j hi hi2 (by omega) (by omega)).symm)
    rw [← isu_mul, e1, hsplit i, hsplit k]
    grind
  have nn : ∀ i j, k < i → i < n → k < j → j < n → i ≠ j → 0 ≤ X i k * X k j := fun i j h1 h2 h3 h4 _ => by
    have q1 := a i k (by omega) h2 (Nat.le_refl k) (by omega) (by omega)
    have q2 := a k j (Nat.le_refl k) (by omega) (by omega) h4 (by omega)
    have := Int.mul_nonneg (show 0 ≤ -X i k by omega) (show 0 ≤ -X k j by omega)
    rw [Int.neg_mul_neg] at this
    exact this
  refine ⟨fun i j h1 h2 h3 h4 h5 => ?_, fun i h1 h2 => ?_, fun i h1 h2 => ?_⟩
  · apply nonpos_of_mul hl
    rw [← hr i j (by omega) h2 (by omega) h4]
    have q1 := a i j (by omega) h2 (by omega) h4 h5
    have q2 := nn i j (by omega) h2 (by omega) h4 h5
    have q3 := Int.mul_nonneg (show 0 ≤ -X i j by omega) (Int.le_of_lt hp)
    rw [Int.neg_mul] at q3
    omega
  · have e := hrow i (by omega) h2
    have q1 := Int.mul_nonneg (b i (by omega) h2) (Int.le_of_lt hp)
    have q2 := Int.mul_nonneg (show 0 ≤ -X i k by have := a i k (by omega) h2 (Nat.le_refl k) (by omega) (by omega); omega) (b k (Nat.le_refl k) (by omega))
    rw [Int.neg_mul] at q2
    have q3 : 0 ≤ isu (Y i) (k + 1) (n - (k + 1)) * l := by omega
    have := nonpos_of_mul (a := -isu (Y i) (k + 1) (n - (k + 1))) hl (by rw [Int.neg_mul]; omega)
    omega
  · have e := hrow i (by omega) h2
    have xik := a i k (by omega) h2 (Nat.le_refl k) (by omega) (by omega)
    have si := b i (by omega) h2
    have sk := b k (Nat.le_refl k) (by omega)
    have q2 := Int.mul_nonneg (show 0 ≤ -X i k by omega) sk
    rw [Int.neg_mul] at q2
    have rootpos : 0 < isu (Y i) (k + 1) (n - (k + 1)) * l → 0 < isu (Y i) (k + 1) (n - (k + 1)) := fun q => by
      have := neg_of_mul (a := -isu (Y i) (k + 1) (n - (k + 1))) hl (by rw [Int.neg_mul]; omega)
      omega
    rcases c i (by omega) h2 with hpos | ⟨j, j1, j2, j3, j4, j5⟩
    · left
      apply rootpos
      have := Int.mul_pos hpos hp
      omega
    · by_cases ej : j = k
      · subst ej
        rcases c j (Nat.le_refl j) (by omega) with hpos | ⟨m, m1, m2, m3, m4, m5⟩
        · left
          apply rootpos
          have t1 := Int.mul_pos (show 0 < -X i j by omega) hpos
          rw [Int.neg_mul] at t1
          have t2 := Int.mul_nonneg si (Int.le_of_lt hp)
          omega
        · right
          have hmi : m ≠ i := fun q => by subst q; omega
          refine ⟨m, by omega, m2, hmi, ?_, by omega⟩
          apply neg_of_mul hl
          rw [← hr i m (by omega) h2 (by omega) m2]
          have t1 := Int.mul_pos (show 0 < -X i j by omega) (show 0 < -X j m by omega)
          rw [Int.neg_mul_neg] at t1
          have xim := a i m (by omega) h2 (by omega) m2 (Ne.symm hmi)
          have t2 := Int.mul_nonneg (show 0 ≤ -X i m by omega) (Int.le_of_lt hp)
          rw [Int.neg_mul] at t2
          omega
      · right
        refine ⟨j, by omega, j2, j3, ?_, j5⟩
        apply neg_of_mul hl
        rw [← hr i j (by omega) h2 (by omega) j2]
        have t1 := nn i j (by omega) h2 (by omega) j2 (Ne.symm j3)
        have t2 := Int.mul_pos (show 0 < -X i j by omega) hp
        rw [Int.neg_mul] at t2
        omega
