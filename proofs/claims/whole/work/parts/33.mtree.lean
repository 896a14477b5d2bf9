/-! ===== the model's determinant of such rows ===== -/
def phs (x : Nat → Nat → Int) : Nat → Nat → Nat → Int
  | 0 => x
  | 1 => fun i j => x i j * x 0 0 - x i 0 * x 0 j
  | 2 => fun i j => d3 x i 0 1 j
  | 3 => fun i j => d4 x i 0 1 2 j
  | _ => fun i j => d5 x i 0 1 2 3 j
def lst (x : Nat → Nat → Int) : Nat → Int
  | 0 => 1
  | k + 1 => phs x k k k
theorem bm {a b : Int} {A B : Nat} (ha : a.natAbs ≤ A) (hb : b.natAbs ≤ B) : (a * b).natAbs ≤ A * B := by
  rw [Int.natAbs_mul]
  exact Nat.mul_le_mul ha hb
theorem d2_b {x : Nat → Nat → Int} (hx : ∀ r c, (x r c).natAbs ≤ 20) (a b : Nat) : (d2 x a b).natAbs ≤ 800 := by
  have h1 := bm (hx 1 b) (hx 0 a)
  have h2 := bm (hx 1 a) (hx 0 b)
  unfold d2
  omega
theorem d3_b {x : Nat → Nat → Int} (hx : ∀ r c, (x r c).natAbs ≤ 20) (r a b c : Nat) : (d3 x r a b c).natAbs ≤ 48000 := by
  have h1 := bm (hx r c) (d2_b hx a b)
  have h2 := bm (hx r b) (d2_b hx a c)
  have h3 := bm (hx r a) (d2_b hx b c)
  unfold d3
  omega
theorem d4_b {x : Nat → Nat → Int} (hx : ∀ r c, (x r c).natAbs ≤ 20) (r a b c d : Nat) : (d4 x r a b c d).natAbs ≤ 3840000 := by
  have h1 := bm (hx r d) (d3_b hx 2 a b c)
  have h2 := bm (hx r c) (d3_b hx 2 a b d)
  have h3 := bm (hx r b) (d3_b hx 2 a c d)
  have h4 := bm (hx r a) (d3_b hx 2 b c d)
  unfold d4
  omega
theorem d5_b {x : Nat → Nat → Int} (hx : ∀ r c, (x r c).natAbs ≤ 20) (r a b c d e : Nat) : (d5 x r a b c d e).natAbs ≤ 384000000 := by
  have h1 := bm (hx r e) (d4_b hx 3 a b c d)
  have h2 := bm (hx r d) (d4_b hx 3 a b c e)
  have h3 := bm (hx r c) (d4_b hx 3 a b d e)
  have h4 := bm (hx r b) (d4_b hx 3 a c d e)
  have h5 := bm (hx r a) (d4_b hx 3 b c d e)
  unfold d5
  omega
theorem phs_b {x : Nat → Nat → Int} (hx : ∀ r c, (x r c).natAbs ≤ 20) (k i j : Nat) : -384000000 ≤ phs x k i j ∧ phs x k i j ≤ 384000000 := by
  match k with
  | 0 => have := hx i j; show -384000000 ≤ x i j ∧ x i j ≤ 384000000; omega
  | 1 =>
    have h1 := bm (hx i j) (hx 0 0)
    have h2 := bm (hx i 0) (hx 0 j)
    show -384000000 ≤ x i j * x 0 0 - x i 0 * x 0 j ∧ x i j * x 0 0 - x i 0 * x 0 j ≤ 384000000
    omega
  | 2 => have := d3_b hx i 0 1 j; show -384000000 ≤ d3 x i 0 1 j ∧ d3 x i 0 1 j ≤ 384000000; omega
  | 3 => have := d4_b hx i 0 1 2 j; show -384000000 ≤ d4 x i 0 1 2 j ∧ d4 x i 0 1 2 j ≤ 384000000; omega
  | k + 4 => have := d5_b hx i 0 1 2 3 j; show -384000000 ≤ d5 x i 0 1 2 3 j ∧ d5 x i 0 1 2 3 j ≤ 384000000; omega
theorem phs_r (x : Nat → Nat → Int) {n k a b : Nat} (hn : n ≤ 5) (hk : k + 1 < n) (ha : k < a) (ha2 : a < n) (hb : k < b) (hb2 : b < n) : phs x k a b * phs x k k k - phs x k a k * phs x k k b = phs x (k + 1) a b * lst x k := by
  match k, hk with
  | 0, _ =>
    show x a b * x 0 0 - x a 0 * x 0 b = (x a b * x 0 0 - x a 0 * x 0 b) * 1
    rw [Int.mul_one]
  | 1, _ => exact id2 x a b
  | 2, _ => exact id3 x a b
  | 3, hk =>
    obtain rfl : a = 4 := by omega
    obtain rfl : b = 4 := by omega
    exact id4 x
  | k + 4, hk => omega
theorem phs_ok {x : Nat → Nat → Int} {n : Nat} {dl : Nat → Nat} (hn : n ≤ 5) (h : OkM n 0 x dl) : ∀ k, k < n → OkM n k (phs x k) dl ∧ 0 < lst x k
  | 0, _ => ⟨h, by show (0 : Int) < 1; omega⟩
  | k + 1, hk => by
    obtain ⟨h1, h2⟩ := phs_ok hn h k (by omega)
    exact ⟨h1.step (by omega) h2 (fun a b ha ha2 hb hb2 => phs_r x hn (by omega) ha ha2 hb hb2), h1.pos (Nat.le_refl k) (by omega)⟩
theorem pX8_determinant {x : Nat → Nat → Int} {n : Nat} {dl : Nat → Nat} {M : rm_M} (hn : n ≤ 5) (hn1 : 1 ≤ n) (h : OkM n 0 x dl) (hx : ∀ r c, (x r c).natAbs ≤ 20) (hT : ∀ a b, a < n → b < n → M.2.1 91 (5 * a + b) = J (x a b)) :
    ∃ M2, fX8_determinant (nI n) M = some (J (phs x (n - 1) (n - 1) (n - 1)), M2) ∧ FR (fun q => q = 91) M M2 ∧ M2.1 = M.1 := by
  have hF := pn_F
  unfold fX8_determinant
  simp only [J_lit, pn_lit]
  refine pX8_det hn hn1 (phs x) (lst x) 384000000 (by decide) (by decide) (fun k a b _ _ _ _ _ => phs_b hx k a b) (fun k hk => ?_) (fun k _ => rfl) (fun k a b hk ha ha2 hb hb2 => phs_r x hn hk ha ha2 hb hb2) (n - 1) rm_F 0 M (by omega) (by omega) (fun a b _ ha _ hb => hT a b ha hb)
  have := (phs_ok hn h k (by omega)).2
  refine ⟨by omega, ?_⟩
  match k with
  | 0 => show -384000000 ≤ (1 : Int) ∧ (1 : Int) ≤ 384000000; omega
  | k + 1 => exact phs_b hx k k k
theorem det_pos {x : Nat → Nat → Int} {n : Nat} {dl : Nat → Nat} (hn : n ≤ 5) (hn1 : 1 ≤ n) (h : OkM n 0 x dl) : 0 < phs x (n - 1) (n - 1) (n - 1) := (phs_ok hn h (n - 1) (by omega)).1.pos (Nat.le_refl _) (by omega)
