/-! ===== the model's sums ===== -/
theorem pX8_below {cs : Nat} {w : Nat → Nat → Nat} {v : Nat → Nat} (h : WN cs w) (hv : ∀ c, c < 6 → v c ≤ 9) {M : rm_M} (hM : MW M cs w) (hT : MT M cs w) (hS : MV M 83 v) : fX8_below M = some (J (bI cs w v), M) := by
  have hF := pn_F
  have h1 := h.1
  have h2 := h.2.1
  have key : ∀ d f i acc, i + d = cs → d < f → fX8_below_L4 f (J acc) (nI i) M = some (J (acc + isu (aI cs w v) i d), M) := by
    intro d
    induction d with
    | zero =>
      intro f i acc hi hf
      obtain ⟨f, rfl⟩ : ∃ z, f = z + 1 := ⟨f - 1, by omega⟩
      rw [fX8_below_L4]
      simp (disch := omega) only [hM.1, nI_leI, isu, Int.add_zero]
      rw [if_pos (by omega)]
    | succ d ih =>
      intro f i acc hi hf
      obtain ⟨f, rfl⟩ : ∃ z, f = z + 1 := ⟨f - 1, by omega⟩
      have ho := ou_le h (show i < cs by omega)
      have hvi := hv i (by omega)
      have e1 : J (trI cs w i) * (nI (ou cs w i + v i)).toInt64 = J (aI cs w v i) := by
        rw [nI_J (by omega), J_mul, Int.mul_comm]
        rfl
      rw [fX8_below_L4]
      simp (disch := omega) only [hM.1, nI_leI, pn_ib, nI_clamp, pX8_sum hM hS h2 (show i < 6 by omega), pn_bd, hT i (by omega), e1, J_add, rm_lt1, pn_lit, nI_add, decide_eq_true_eq]
      rw [if_neg (by omega), if_pos (by omega), ih f (i + 1) _ (by omega) (by omega), isu, Int.add_assoc]
  unfold fX8_below
  simp only [J_lit, pn_lit]
  rw [key cs rm_F 0 _ (by omega) (by omega), show ((0 : Nat) : Int) = 0 from rfl, Int.zero_add]
  rfl
theorem pX8_crossing_L18 {cs : Nat} {w : Nat → Nat → Nat} (h : WN cs w) {q at0 a : Nat} {ar : Nat → Nat} {M : rm_M} {all : Bool} (hM : MW M cs w) (hT : MT M cs w) (hA : AR M q at0 cs ar) (ha : a < cs) (q6 : Int64 → Int32 → rm_M → Option (Int64 × rm_M)) : ∀ d f i acc, i + d = cs → d < f →
    fX8_crossing_L18 q (nI at0) (nI (if all then 1 else 0)) q6 f (J acc) (nI a) (nI i) M = q6 (J (acc + isu (fun b => if all = true ∨ ar a ≠ ar b then trI cs w a * (w a b : Int) else 0) i d)) (nI (a + 1)) M := by
  have h1 := h.1
  have h2 := h.2.1
  obtain ⟨k1, k1b, k2, k3⟩ := hA
  intro d
  induction d with
  | zero =>
    intro f i acc hi hf
    obtain ⟨f, rfl⟩ : ∃ z, f = z + 1 := ⟨f - 1, by omega⟩
    rw [fX8_crossing_L18]
    simp (disch := omega) only [hM.1, nI_leI, isu, Int.add_zero, pn_lit, nI_add]
    rw [if_pos (by omega)]
  | succ d ih =>
    intro f i acc hi hf
    obtain ⟨f, rfl⟩ : ∃ z, f = z + 1 := ⟨f - 1, by omega⟩
    have b1 := k2 i (by omega)
    have b2 := k2 a ha
    have e1 : J (trI cs w a) * (nI (w a i)).toInt64 = J (trI cs w a * (w a i : Int)) := by rw [nI_J (h.lt a i), J_mul]
    have go : fX8_crossing_L48 q (nI at0) (nI (if all then 1 else 0)) q6 (fX8_crossing_L18 q (nI at0) (nI (if all then 1 else 0)) q6 f) (nI a) (nI i) (J acc) M = q6 (J (acc + (trI cs w a * (w a i : Int) + isu (fun b => if all = true ∨ ar a ≠ ar b then trI cs w a * (w a b : Int) else 0) (i + 1) d))) (nI (a + 1)) M := by
      unfold fX8_crossing_L48 fX8_crossing_L74
      simp (disch := omega) only [pn_ib, nI_clamp, pn_lit, pk_mul, nI_add, hT a ha, hM.2 a i (by omega) (by omega), e1, J_add, rm_lt1, decide_eq_true_eq]
      rw [if_pos (by omega), if_pos (by omega), ih f (i + 1) _ (by omega) (by omega), Int.add_assoc]
    rw [fX8_crossing_L18, isu]
    cases all with
    | true =>
      simp (disch := omega) only [hM.1, nI_leI, pn_lit, nI_eq, ↓reduceIte]
      rw [if_neg (by omega), if_neg (by omega)]
      simpa using go
    | false =>
      simp (disch := omega) only [hM.1, nI_leI, pn_ib, nI_clamp, k3 i (by omega), k3 a ha, nI_eq, pn_lit, nI_add, decide_eq_true_eq, Bool.false_eq_true, ↓reduceIte, false_or]
      rw [if_neg (by omega), if_pos (by omega), if_pos (by omega)]
      by_cases e : ar a = ar i
      · rw [if_pos e, if_neg (by simp [e])]
        unfold fX8_crossing_L74
        have ih2 := ih f (i + 1) acc (by omega) (by omega)
        simp only [Bool.false_eq_true, ↓reduceIte, false_or] at ih2
        simp only [rm_lt1, J_lit, J_add, pn_lit, nI_add]
        rw [show acc + ((0 : Nat) : Int) = acc by omega, ih2, Int.zero_add]
      · rw [if_neg e, if_pos e]
        simp only [Bool.false_eq_true, ↓reduceIte, false_or] at go
        exact go
theorem pX8_crossing {cs : Nat} {w : Nat → Nat → Nat} (h : WN cs w) {q at0 : Nat} {ar : Nat → Nat} {M : rm_M} (all : Bool) (hM : MW M cs w) (hT : MT M cs w) (hA : AR M q at0 cs ar) : fX8_crossing q (nI at0) (nI (if all then 1 else 0)) M = some (J (crI cs w ar all), M) := by
  have hF := pn_F
  have h1 := h.1
  have h2 := h.2.1
  have key : ∀ d f i acc, i + d = cs → d < f → fX8_crossing_L6 q (nI at0) (nI (if all then 1 else 0)) f (J acc) (nI i) M = some (J (acc + isu (fun a => isu (fun b => if all = true ∨ ar a ≠ ar b then trI cs w a * (w a b : Int) else 0) 0 cs) i d), M) := by
    intro d
    induction d with
    | zero =>
      intro f i acc hi hf
      obtain ⟨f, rfl⟩ : ∃ z, f = z + 1 := ⟨f - 1, by omega⟩
      rw [fX8_crossing_L6]
      simp (disch := omega) only [hM.1, nI_leI, isu, Int.add_zero]
      rw [if_pos (by omega)]
    | succ d ih =>
      intro f i acc hi hf
      obtain ⟨f, rfl⟩ : ∃ z, f = z + 1 := ⟨f - 1, by omega⟩
      rw [fX8_crossing_L6]
      have hL := pX8_crossing_L18 (all := all) h hM hT hA (show i < cs by omega) (fX8_crossing_L6 q (nI at0) (nI (if all then 1 else 0)) f) cs rm_F 0 acc (by omega) (by omega)
      simp (disch := omega) only [hM.1, nI_leI, pn_lit]
      rw [if_neg (by omega), hL, ih f (i + 1) _ (by omega) (by omega), isu, Int.add_assoc]
  unfold fX8_crossing
  simp only [J_lit, pn_lit]
  rw [key cs rm_F 0 _ (by omega) (by omega), show ((0 : Nat) : Int) = 0 from rfl, Int.zero_add]
  rfl
theorem isu_zip (f : Nat → Int) (g : Nat → Nat → Nat) (k : Int) (cs : Nat) : ∀ d i, isu (fun a => isu (fun b => f a * (g a b : Int) * k) 0 cs) i d = k * isu (fun a => f a * ((rs (g a) 0 cs : Nat) : Int)) i d := by
  have inner : ∀ a d i, isu (fun b => f a * (g a b : Int) * k) i d = k * (f a * ((rs (g a) i d : Nat) : Int)) := by
    intro a d
    induction d with
    | zero => intro i; simp [isu, rs]
    | succ d ih =>
      intro i
      rw [isu, rs, ih (i + 1)]
      push_cast
      grind
  intro d
  induction d with
  | zero => intro i; simp [isu]
  | succ d ih =>
    intro i
    rw [isu, isu, ih (i + 1), inner]
    grind
theorem rg1 (a x s : Int) (p q : Nat) : a + x * (p : Int) * (q : Int) + s = a + (x * ((1 : Nat) : Int) * ((p * q : Nat) : Int) + s) := by
  rw [Int.natCast_mul]
  have : ((1 : Nat) : Int) = 1 := rfl
  rw [this]
  grind
theorem rg2 (a x s : Int) (z : Nat) : a + ((0 : Nat) : Int) + s = a + (x * ((0 : Nat) : Int) * (z : Int) + s) := by
  have : ((0 : Nat) : Int) = 0 := rfl
  rw [this]
  grind
theorem pX8_expense {cs : Nat} {w : Nat → Nat → Nat} (h : WN cs w) {q at0 : Nat} {v pr ar : Nat → Nat} {M : rm_M} (hv : ∀ c, c < 6 → v c ≤ 9) (hM : MW M cs w) (hT : MT M cs w) (hS : MV M 83 v) (hA : AR M q at0 cs ar) (hP : MPr M pr) (hpr : ∀ k, k < 4 → pr k ≤ 99) : fX8_expense q (nI at0) M = some (J (exI cs w v pr ar), M) := by
  have hF := pn_F
  have h1 := h.1
  have h2 := h.2.1
  have q1 := hpr 1 (by omega)
  have q2 := hpr 2 (by omega)
  have q3 := hpr 3 (by omega)
  have hcr := pX8_crossing h false hM hT hA
  obtain ⟨k1, k1b, k2, k3⟩ := hA
  have inner : ∀ a, a < cs → ∀ (q23 : Int64 → Int32 → rm_M → Option (Int64 × rm_M)) d f i acc, i + d = cs → d < f → fX8_expense_L35 q (nI at0) q23 f (J acc) (nI a) (nI i) M = q23 (J (acc + isu (fun b => aI cs w v a * ((if ar b = ar a then 1 else 0 : Nat) : Int) * ((pr 1 * pr 3 : Nat) : Int)) i d)) (nI (a + 1)) M := by
    intro a ha q23 d
    induction d with
    | zero =>
      intro f i acc hi hf
      obtain ⟨f, rfl⟩ : ∃ z, f = z + 1 := ⟨f - 1, by omega⟩
      rw [fX8_expense_L35]
      simp (disch := omega) only [hM.1, nI_leI, isu, Int.add_zero, pn_lit, nI_add]
      rw [if_pos (by omega)]
    | succ d ih =>
      intro f i acc hi hf
      obtain ⟨f, rfl⟩ : ∃ z, f = z + 1 := ⟨f - 1, by omega⟩
      have b1 := k2 i (by omega)
      have b2 := k2 a ha
      have ho := ou_le h ha
      have hva := hv a (by omega)
      have e1 : J (trI cs w a) * (nI (ou cs w a + v a)).toInt64 = J (aI cs w v a) := by
        rw [nI_J (by omega), J_mul, Int.mul_comm]
        rfl
      rw [fX8_expense_L35, isu]
      simp (disch := omega) only [hM.1, nI_leI, pn_ib, nI_clamp, pn_lit, nI_add, k3 i (by omega), k3 a ha, nI_eq, pX8_sum hM hS h2 (show a < 6 by omega), pn_bd, hT a ha, e1, hP 1 (by omega), hP 3 (by omega), nI_J, J_mul, fX8_expense_L95, rm_lt1, J_add, J_lit, decide_eq_true_eq]
      rw [if_neg (by omega), if_pos (by omega), if_pos (by omega)]
      by_cases e : ar a = ar i
      · rw [if_pos e, if_pos (by omega), if_pos (by omega), if_pos (by omega), ih f (i + 1) _ (by omega) (by omega), if_pos e.symm, rg1, show trI cs w a * ((ou cs w a + v a : Nat) : Int) = aI cs w v a from Int.mul_comm _ _]
      · rw [if_neg e, ih f (i + 1) _ (by omega) (by omega), if_neg (fun z => e z.symm), rg2 _ (aI cs w v a) _ (pr 1 * pr 3)]
  have key : ∀ d f i acc, i + d = cs → d < f → fX8_expense_L23 q (nI at0) f (J acc) (nI i) M = some (J (acc + isu (fun a => isu (fun b => aI cs w v a * ((if ar b = ar a then 1 else 0 : Nat) : Int) * ((pr 1 * pr 3 : Nat) : Int)) 0 cs) i d), M) := by
    intro d
    induction d with
    | zero =>
      intro f i acc hi hf
      obtain ⟨f, rfl⟩ : ∃ z, f = z + 1 := ⟨f - 1, by omega⟩
      rw [fX8_expense_L23]
      simp (disch := omega) only [hM.1, nI_leI, isu, Int.add_zero]
      rw [if_pos (by omega)]
    | succ d ih =>
      intro f i acc hi hf
      obtain ⟨f, rfl⟩ : ∃ z, f = z + 1 := ⟨f - 1, by omega⟩
      have hL := inner i (by omega) (fX8_expense_L23 q (nI at0) f) cs rm_F 0 acc (by omega) (by omega)
      rw [fX8_expense_L23]
      simp (disch := omega) only [hM.1, nI_leI, pn_lit]
      rw [if_neg (by omega), hL, ih f (i + 1) _ (by omega) (by omega), isu, Int.add_assoc]
  unfold fX8_expense
  simp only [Bool.false_eq_true, ↓reduceIte] at hcr
  simp (disch := omega) only [pn_lit, hcr, pn_bd, pn_ib, nI_clamp, hP 2 (by omega), nI_J, J_lit, J_mul, rm_lt1, decide_eq_true_eq]
  rw [if_pos (by omega), key cs rm_F 0 _ (by omega) (by omega), isu_zip (aI cs w v) (fun a b => if ar b = ar a then 1 else 0)]
  unfold exI cnt
  congr 3
