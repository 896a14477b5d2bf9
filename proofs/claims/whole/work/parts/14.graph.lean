/-! ===== sums, sets as bits, the graph ===== -/
def ro (f : Nat → Nat) : Nat → Nat → Nat
  | _, 0 => 0
  | i, d + 1 => f i ||| ro f (i + 1) d
def ou (cs : Nat) (w : Nat → Nat → Nat) (c : Nat) : Nat := rs (w c) 0 cs
def nr (cs : Nat) (w : Nat → Nat → Nat) (c : Nat) : Nat := ro (fun b => if 0 < w c b then 2 ^ b else 0) 0 cs
theorem ro_bit (f : Nat → Nat) (k : Nat) : ∀ d i, (ro f i d).testBit k = true ↔ ∃ j, i ≤ j ∧ j < i + d ∧ (f j).testBit k = true := by
  intro d
  induction d with
  | zero => intro i; simp only [ro, Nat.zero_testBit]; constructor
            · intro h; cases h
            · rintro ⟨j, h1, h2, _⟩; omega
  | succ d ih =>
    intro i
    simp only [ro, Nat.testBit_or, Bool.or_eq_true, ih (i + 1)]
    constructor
    · rintro (h | ⟨j, h1, h2, h3⟩)
      · exact ⟨i, by omega, by omega, h⟩
      · exact ⟨j, by omega, by omega, h3⟩
    · rintro ⟨j, h1, h2, h3⟩
      by_cases e : j = i
      · subst e; exact Or.inl h3
      · exact Or.inr ⟨j, by omega, by omega, h3⟩
theorem ro_lt (f : Nat → Nat) (m : Nat) : ∀ d i, (∀ j, i ≤ j → j < i + d → f j < 2 ^ m) → ro f i d < 2 ^ m := by
  intro d
  induction d with
  | zero => intro i _; exact Nat.two_pow_pos m
  | succ d ih =>
    intro i h
    exact Nat.or_lt_two_pow (h i (by omega) (by omega)) (ih (i + 1) (fun j h1 h2 => h j (by omega) (by omega)))
theorem ro_congr {f g : Nat → Nat} : ∀ d i, (∀ j, i ≤ j → j < i + d → f j = g j) → ro f i d = ro g i d := by
  intro d
  induction d with
  | zero => intro i _; rfl
  | succ d ih =>
    intro i h
    rw [ro, ro, h i (by omega) (by omega), ih (i + 1) (fun j h1 h2 => h j (by omega) (by omega))]
theorem rs_congr {f g : Nat → Nat} : ∀ d i, (∀ j, i ≤ j → j < i + d → f j = g j) → rs f i d = rs g i d := by
  intro d
  induction d with
  | zero => intro i _; rfl
  | succ d ih =>
    intro i h
    rw [rs, rs, h i (by omega) (by omega), ih (i + 1) (fun j h1 h2 => h j (by omega) (by omega))]
theorem rs_le {f : Nat → Nat} {m : Nat} : ∀ d i, (∀ j, i ≤ j → j < i + d → f j ≤ m) → rs f i d ≤ d * m := by
  intro d
  induction d with
  | zero => intro i _; simp [rs]
  | succ d ih =>
    intro i h
    have h1 := h i (by omega) (by omega)
    have h2 := ih (i + 1) (fun j h1 h2 => h j (by omega) (by omega))
    rw [rs, Nat.succ_mul]
    omega
theorem pow_bit (b k : Nat) : (2 ^ b).testBit k = true ↔ k = b := by
  rw [Nat.testBit_two_pow]
  simp [eq_comm]
theorem if_bit (c : Prop) [Decidable c] (x k : Nat) : (if c then x else 0).testBit k = true ↔ c ∧ x.testBit k = true := by
  by_cases h : c
  · simp [h]
  · simp [h]
theorem nr_bit {cs : Nat} {w : Nat → Nat → Nat} {c b : Nat} : (nr cs w c).testBit b = true ↔ b < cs ∧ 0 < w c b := by
  unfold nr
  rw [ro_bit]
  constructor
  · rintro ⟨j, h1, h2, h3⟩
    rw [if_bit, pow_bit] at h3
    obtain ⟨h3, rfl⟩ := h3
    exact ⟨by omega, h3⟩
  · rintro ⟨h1, h2⟩
    exact ⟨b, by omega, by omega, by rw [if_bit, pow_bit]; exact ⟨h2, rfl⟩⟩
theorem nr_lt {cs : Nat} (w : Nat → Nat → Nat) (c : Nat) : nr cs w c < 2 ^ cs := by
  unfold nr
  refine ro_lt _ _ _ _ (fun j h1 h2 => ?_)
  split
  · exact Nat.pow_lt_pow_right (by decide) (by omega)
  · exact Nat.two_pow_pos cs
/-! the model's weights and what it asks of them -/
def MW (M : rm_M) (cs : Nat) (w : Nat → Nat → Nat) : Prop := M.1 79 2 = nI cs ∧ ∀ a b, a < 6 → b < 6 → M.1 81 (6 * a + b) = nI (w a b)
theorem pX8_out {M : rm_M} {cs c : Nat} {w : Nat → Nat → Nat} (h : MW M cs w) (hcs : cs ≤ 6) (hc : c < 6) : fX8_out (nI c) M = some (nI (ou cs w c), M) := by
  have hF := pn_F
  unfold fX8_out
  have := pX8_out_L4 (w c) M h.1 hcs hc (fun b hb => h.2 c b hc hb) cs rm_F 0 0 (by omega) (by omega)
  simp only [pn_lit]
  rw [this, Nat.zero_add]
  rfl
theorem pX8_sum {M : rm_M} {cs c : Nat} {w : Nat → Nat → Nat} {v : Nat → Nat} (h : MW M cs w) (hv : MV M 83 v) (hcs : cs ≤ 6) (hc : c < 6) : fX8_sum (nI c) M = some (nI (ou cs w c + v c), M) := by
  unfold fX8_sum
  simp (disch := omega) only [pX8_out h hcs hc, pn_bd, pn_ib, nI_clamp, hv c (by omega), nI_add, decide_eq_true_eq]
  rw [if_pos (by omega)]
theorem pX8_joined_L4 {cs c : Nat} {w : Nat → Nat → Nat} {M : rm_M} (h : MW M cs w) (hcs : cs ≤ 6) (hc : c < 6) (hw : ∀ a b, w a b < 2 ^ 31) : ∀ d n i acc, i + d = cs → d < n → fX8_joined_L4 (nI c) n (nI acc) (nI i) M = some (nI (acc ||| ro (fun b => if 0 < w c b then 2 ^ b else 0) i d), M) := by
  intro d
  induction d with
  | zero =>
    intro n i acc hi hn
    obtain ⟨n, rfl⟩ : ∃ k, n = k + 1 := ⟨n - 1, by omega⟩
    rw [fX8_joined_L4]
    simp (disch := omega) only [h.1, nI_leI, ro, Nat.or_zero]
    rw [if_pos (by omega)]
  | succ d ih =>
    intro n i acc hi hn
    obtain ⟨n, rfl⟩ : ∃ k, n = k + 1 := ⟨n - 1, by omega⟩
    have hwi := hw c i
    have hp : 1 * 2 ^ i < 2 ^ 32 := by
      rw [Nat.one_mul]; exact Nat.pow_lt_pow_right (by decide) (by omega)
    rw [fX8_joined_L4]
    simp (disch := first | omega | assumption) only [h.1, nI_leI, pn_lit, pk_mul, nI_add, pn_ib, nI_clamp, h.2 c i hc (by omega), decide_eq_true_eq, fX8_joined_L34, rm_lt1, pn_or, pn_shl]
    rw [if_neg (by omega), if_pos (by omega), Nat.one_mul]
    by_cases c0 : w c i ≤ 0
    · rw [if_pos c0, ih n (i + 1) _ (by omega) (by omega), ro, if_neg (by omega), Nat.or_zero, Nat.zero_or]
    · rw [if_neg c0, ih n (i + 1) _ (by omega) (by omega), ro, if_pos (by omega), Nat.or_assoc]
theorem pX8_joined {M : rm_M} {cs c : Nat} {w : Nat → Nat → Nat} (h : MW M cs w) (hcs : cs ≤ 6) (hc : c < 6) (hw : ∀ a b, w a b < 2 ^ 31) : fX8_joined (nI c) M = some (nI (nr cs w c), M) := by
  have hF := pn_F
  unfold fX8_joined
  simp only [pn_lit]
  rw [pX8_joined_L4 h hcs hc hw cs rm_F 0 0 (by omega) (by omega), Nat.zero_or]
  rfl
/-- all that is one step from a set, with the set -/
def nx1 (cs : Nat) (w : Nat → Nat → Nat) (S : Nat) : Nat := S ||| ro (fun c => if S.testBit c then nr cs w c else 0) 0 cs
theorem pn_tb {S i : Nat} (hS : S < 2 ^ 31) (hi : i < 31) : (nI S >>> (nI i &&& nI 31)) &&& nI 1 = nI (if S.testBit i then 1 else 0) := by
  rw [pn_shr hS hi, pn_and1, pn_bit]
theorem pX8_far_L21 {cs : Nat} {w : Nat → Nat → Nat} {M : rm_M} (h : MW M cs w) (hcs : cs ≤ 6) (hw : ∀ a b, w a b < 2 ^ 31) {S : Nat} (hS : S < 2 ^ 31) (a1 a2 x4 : Int32) (q7 : Int32 → Int32 → rm_M → Option (Int32 × rm_M)) : ∀ d n i acc, i + d = cs → d < n → fX8_far_L21 a1 a2 q7 n (nI S) x4 (nI acc) (nI i) M = q7 (nI (acc ||| ro (fun c => if S.testBit c then nr cs w c else 0) i d)) (x4 + nI 1) M := by
  intro d
  induction d with
  | zero =>
    intro n i acc hi hn
    obtain ⟨n, rfl⟩ : ∃ k, n = k + 1 := ⟨n - 1, by omega⟩
    rw [fX8_far_L21]
    simp (disch := omega) only [h.1, nI_leI, ro, Nat.or_zero, pn_lit]
    rw [if_pos (by omega)]
  | succ d ih =>
    intro n i acc hi hn
    obtain ⟨n, rfl⟩ : ∃ k, n = k + 1 := ⟨n - 1, by omega⟩
    rw [fX8_far_L21]
    simp (disch := first | omega | assumption) only [h.1, nI_leI, pn_lit, pn_tb, pX8_joined h hcs (show i < 6 by omega) hw, pn_bd, fX8_far_L52, rm_lt1, nI_add, pn_or]
    rw [if_neg (by omega)]
    by_cases c0 : S.testBit i = true
    · rw [if_pos c0, if_pos rfl, ih n (i + 1) _ (by omega) (by omega), ro, if_pos c0, Nat.or_assoc]
    · rw [if_neg c0, if_neg (by rw [nI_eq (by omega) (by omega)]; omega), ih n (i + 1) _ (by omega) (by omega), ro, if_neg c0, Nat.or_zero, Nat.zero_or]
def rch (cs : Nat) (w : Nat → Nat → Nat) (a : Nat) : Nat → Nat
  | 0 => 2 ^ a
  | j + 1 => nx1 cs w (rch cs w a j)
theorem nx1_lt {cs : Nat} (w : Nat → Nat → Nat) {S : Nat} (h : S < 2 ^ cs) : nx1 cs w S < 2 ^ cs := by
  unfold nx1
  refine Nat.or_lt_two_pow h (ro_lt _ _ _ _ (fun j h1 h2 => ?_))
  split
  · exact nr_lt w j
  · exact Nat.two_pow_pos cs
theorem rch_lt {cs : Nat} (w : Nat → Nat → Nat) {a : Nat} (h : a < cs) : ∀ j, rch cs w a j < 2 ^ cs
  | 0 => Nat.pow_lt_pow_right (by decide) h
  | j + 1 => nx1_lt w (rch_lt w h j)
theorem nx1_bit {cs : Nat} {w : Nat → Nat → Nat} {S b : Nat} : (nx1 cs w S).testBit b = true ↔ S.testBit b = true ∨ ∃ c, c < cs ∧ S.testBit c = true ∧ b < cs ∧ 0 < w c b := by
  unfold nx1
  rw [Nat.testBit_or, Bool.or_eq_true, ro_bit]
  constructor
  · rintro (h | ⟨j, h1, h2, h3⟩)
    · exact Or.inl h
    · rw [if_bit, nr_bit] at h3
      exact Or.inr ⟨j, by omega, h3.1, h3.2.1, h3.2.2⟩
  · rintro (h | ⟨c, h1, h2, h3, h4⟩)
    · exact Or.inl h
    · exact Or.inr ⟨c, by omega, by omega, by rw [if_bit, nr_bit]; exact ⟨h2, h3, h4⟩⟩
/-! WIDE, by Floyd and Warshall -/
def fw (w : Nat → Nat → Nat) : Nat → Nat → Nat → Nat
  | 0, a, b => if a = b then 0 else if 0 < w a b then 1 else 99
  | k + 1, a, b => min (fw w k a b) (fw w k a k + fw w k k b)
theorem fw_self (w : Nat → Nat → Nat) : ∀ k a, fw w k a a = 0
  | 0, a => by simp [fw]
  | k + 1, a => by rw [fw, fw_self w k a, Nat.zero_min]
theorem fw_le (w : Nat → Nat → Nat) (a b : Nat) : ∀ k, fw w k a b ≤ 99
  | 0 => by rw [fw]; split <;> (try split) <;> omega
  | k + 1 => by have := fw_le w a b k; rw [fw]; omega
theorem fw_mono (w : Nat → Nat → Nat) (a b k : Nat) : fw w (k + 1) a b ≤ fw w k a b := by rw [fw]; omega
theorem fw_mono0 (w : Nat → Nat → Nat) (a b : Nat) : ∀ k, fw w k a b ≤ fw w 0 a b
  | 0 => Nat.le_refl _
  | k + 1 => Nat.le_trans (fw_mono w a b k) (fw_mono0 w a b k)
theorem fw_col (w : Nat → Nat → Nat) (a k : Nat) : fw w (k + 1) a k = fw w k a k := by rw [fw, fw_self]; omega
theorem fw_row (w : Nat → Nat → Nat) (b k : Nat) : fw w (k + 1) k b = fw w k k b := by rw [fw, fw_self]; omega
theorem fw_tri (w : Nat → Nat → Nat) : ∀ k a b c, b < k → fw w k a c ≤ fw w k a b + fw w k b c
  | 0, _, _, _, h => absurd h (Nat.not_lt_zero _)
  | k + 1, a, b, c, h => by
    by_cases e : b = k
    · subst e
      rw [fw_col, fw_row, fw]
      omega
    · have ih := fw_tri w k
      have t1 := ih a b c (by omega)
      have t2 := ih a b k (by omega)
      have t3 := ih k b c (by omega)
      have t4 := ih k b k (by omega)
      rw [fw_self] at t4
      simp only [fw]
      omega
theorem fw_sym {w : Nat → Nat → Nat} (hs : ∀ a b, 0 < w a b ↔ 0 < w b a) : ∀ k a b, fw w k a b = fw w k b a
  | 0, a, b => by
    simp only [fw]
    by_cases e : a = b
    · simp [e]
    · have e2 : ¬ b = a := fun q => e q.symm
      simp only [if_neg e, if_neg e2]
      by_cases h : 0 < w a b
      · rw [if_pos h, if_pos ((hs a b).mp h)]
      · rw [if_neg h, if_neg (fun q => h ((hs a b).mpr q))]
  | k + 1, a, b => by
    rw [fw, fw, fw_sym hs k a b, fw_sym hs k a k, fw_sym hs k k b, Nat.add_comm]
theorem rch_step {cs : Nat} {w : Nat → Nat → Nat} {a b : Nat} : ∀ j i, (rch cs w a j).testBit b = true → (rch cs w a (j + i)).testBit b = true
  | _, 0, h => h
  | j, i + 1, h => by
    show (nx1 cs w (rch cs w a (j + i))).testBit b = true
    exact nx1_bit.mpr (Or.inl (rch_step j i h))
theorem rch_comp {cs : Nat} {w : Nat → Nat → Nat} {a c : Nat} {i : Nat} (h : (rch cs w a i).testBit c = true) : ∀ j b, (rch cs w c j).testBit b = true → (rch cs w a (i + j)).testBit b = true
  | 0, b, hb => by
    have : b = c := (pow_bit c b).mp hb
    subst this; exact h
  | j + 1, b, hb => by
    show (nx1 cs w (rch cs w a (i + j))).testBit b = true
    rcases nx1_bit.mp hb with h1 | ⟨d, h1, h2, h3, h4⟩
    · exact nx1_bit.mpr (Or.inl (rch_comp h j b h1))
    · exact nx1_bit.mpr (Or.inr ⟨d, h1, rch_comp h j d h2, h3, h4⟩)
theorem fw_rch {cs : Nat} {w : Nat → Nat → Nat} : ∀ k, k ≤ cs → ∀ a b, a < cs → b < cs → fw w k a b < 99 → (rch cs w a (fw w k a b)).testBit b = true
  | 0, _, a, b, ha, hb, h => by
    rw [fw] at h ⊢
    by_cases e : a = b
    · rw [if_pos e]; exact (pow_bit a b).mpr e.symm
    · rw [if_neg e] at h ⊢
      by_cases c : 0 < w a b
      · rw [if_pos c]
        exact nx1_bit.mpr (Or.inr ⟨a, ha, (pow_bit a a).mpr rfl, hb, c⟩)
      · rw [if_neg c] at h; omega
  | k + 1, hk, a, b, ha, hb, h => by
    rw [fw] at h ⊢
    by_cases c : fw w k a b ≤ fw w k a k + fw w k k b
    · rw [Nat.min_eq_left c] at h ⊢
      exact fw_rch k (by omega) a b ha hb h
    · rw [Nat.min_eq_right (by omega)] at h ⊢
      exact rch_comp (fw_rch k (by omega) a k ha (by omega) (by omega)) _ b (fw_rch k (by omega) k b (by omega) hb (by omega))
theorem rch_fw {cs : Nat} {w : Nat → Nat → Nat} {a : Nat} : ∀ j b, b < cs → (rch cs w a j).testBit b = true → fw w cs a b ≤ j
  | 0, b, _, h => by
    have : b = a := (pow_bit a b).mp h
    subst this; rw [fw_self]; omega
  | j + 1, b, hb, h => by
    rcases nx1_bit.mp h with h1 | ⟨c, h1, h2, h3, h4⟩
    · have := rch_fw j b hb h1; omega
    · have t1 := rch_fw j c h1 h2
      have t2 := fw_tri w cs a c b h1
      have t3 := fw_mono0 w c b cs
      have t4 : fw w 0 c b ≤ 1 := by rw [fw, if_pos h4]; split <;> omega
      omega
theorem rch_iff {cs : Nat} {w : Nat → Nat → Nat} {a b j : Nat} (ha : a < cs) (hb : b < cs) (h99 : fw w cs a b < 99) : (rch cs w a j).testBit b = true ↔ fw w cs a b ≤ j := by
  constructor
  · exact rch_fw j b hb
  · intro h
    obtain ⟨i, rfl⟩ : ∃ i, j = fw w cs a b + i := ⟨j - fw w cs a b, by omega⟩
    exact rch_step _ i (fw_rch cs (Nat.le_refl _) a b ha hb h99)
theorem pX8_far_L7 {cs : Nat} {w : Nat → Nat → Nat} {M : rm_M} (h : MW M cs w) (hcs : cs ≤ 6) (hw : ∀ a b, w a b < 2 ^ 31) {a b : Nat} (ha : a < cs) (hb : b < cs) (h99 : fw w cs a b < 99) (a1 : Int32) : ∀ d n j, j + d = fw w cs a b → d < n → fX8_far_L7 a1 (nI b) n (nI (rch cs w a j)) (nI j) M = some (nI (fw w cs a b), M) := by
  have hF := pn_F
  have hlt : ∀ j, rch cs w a j < 2 ^ 31 := fun j => Nat.lt_of_lt_of_le (rch_lt w ha j) (Nat.pow_le_pow_right (by decide) (by omega))
  intro d
  induction d with
  | zero =>
    intro n j hj hn
    obtain ⟨n, rfl⟩ : ∃ k, n = k + 1 := ⟨n - 1, by omega⟩
    rw [fX8_far_L7]
    simp only [pn_lit]
    rw [pn_tb (hlt j) (by omega), if_pos ((rch_iff ha hb h99).mpr (by omega)), if_neg (by rw [nI_eq (by omega) (by omega)]; omega), show j = fw w cs a b by omega]
  | succ d ih =>
    intro n j hj hn
    obtain ⟨n, rfl⟩ : ∃ k, n = k + 1 := ⟨n - 1, by omega⟩
    rw [fX8_far_L7]
    simp only [pn_lit]
    have hno : ¬ (rch cs w a j).testBit b = true := fun q => by have := (rch_iff ha hb h99).mp q; omega
    rw [pn_tb (hlt j) (by omega), if_neg hno, if_pos rfl, pX8_far_L21 h hcs hw (hlt j) _ _ _ _ cs rm_F 0 _ (by omega) (by omega), nI_add]
    exact ih n (j + 1) (by omega) (by omega)
theorem pX8_far {cs : Nat} {w : Nat → Nat → Nat} {M : rm_M} (h : MW M cs w) (hcs : cs ≤ 6) (hw : ∀ a b, w a b < 2 ^ 31) {a b : Nat} (ha : a < cs) (hb : b < cs) (h99 : fw w cs a b < 99) : fX8_far (nI a) (nI b) M = some (nI (fw w cs a b), M) := by
  have hF := pn_F
  unfold fX8_far
  simp only [rm_lt1, pn_lit]
  rw [pn_shl (by omega) (by rw [Nat.one_mul]; exact Nat.pow_lt_pow_right (by decide) (by omega)), Nat.one_mul]
  exact pX8_far_L7 h hcs hw ha hb h99 _ (fw w cs a b) rm_F 0 (by omega) (by omega)
