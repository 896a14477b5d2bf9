/-! ===== fractions in lowest terms ===== -/
theorem lgz (x y : Int64) : lg_cmp x y = nI 0 ↔ x = y := by
  show lg_cmp x y = (0 : Int32) ↔ x = y
  unfold lg_cmp
  by_cases h : x > y
  · rw [if_pos h]
    refine ⟨fun q => absurd q (by decide), fun q => ?_⟩
    subst q
    have h1 : x < x := h
    rw [Int64.lt_iff_toInt_lt] at h1
    omega
  · rw [if_neg h]
    by_cases h2 : x = y
    · rw [if_pos h2]; exact ⟨fun _ => h2, fun _ => rfl⟩
    · rw [if_neg h2]; exact ⟨fun q => absurd q (by decide), fun q => absurd q h2⟩
theorem J_dvn {x y : Nat} (hx : x < 2 ^ 62) (hy : y < 2 ^ 62) : J x / J y = J ((x / y : Nat) : Int) := by
  apply Int64.toInt_inj.1
  have h3 : x / y ≤ x := Nat.div_le_self x y
  have e : Int.tdiv (x : Int) (y : Int) = ((x / y : Nat) : Int) := by rw [Int.tdiv_eq_ediv_of_nonneg (by omega), ← Int.natCast_ediv]
  rw [Int64.toInt_div, J_toInt (z := (x : Int)) (by omega) (by omega), J_toInt (z := (y : Int)) (by omega) (by omega), e]
  generalize x / y = q at h3
  rw [J_toInt (by omega) (by omega), Int.bmod_eq_of_le (by omega) (by omega)]
theorem J_mdn {x y : Nat} (hx : x < 2 ^ 62) (hy : y < 2 ^ 62) : J x - J x / J y * J y = J ((x % y : Nat) : Int) := by
  rw [J_dvn hx hy, J_mul, J_sub]
  congr 1
  have h1 := Nat.div_add_mod x y
  rw [Nat.mul_comm] at h1
  rw [← Int.natCast_mul]
  have h2 : x / y * y ≤ x := Nat.div_mul_le_self x y
  omega
theorem J_z {x : Nat} (hx : x < 2 ^ 62) : J x = J ((0 : Nat) : Int) ↔ x = 0 := by
  rw [J_inj (by omega) (by omega) (by omega) (by omega)]
  omega
theorem md_half {y r f : Nat} (h : y < 2 ^ (f + 1)) (hr : r < y) (h0 : 0 < r) : y % r < 2 ^ f := by
  rw [Nat.pow_succ] at h
  by_cases c : 2 * r ≤ y
  · have := Nat.mod_lt y h0; omega
  · have : y % r = y - r := by
      rw [Nat.mod_eq_sub_mod (by omega), Nat.mod_eq_of_lt (by omega)]
    omega
theorem pX7_gs (M : rm_M) : ∀ (f x y i n : Nat), x < 2 ^ 62 → y < 2 ^ 62 → y < 2 ^ f → i + 2 * f < 199 → 2 * f + 1 < n → fX7_greatestShared_L3 n (J x) (J y) (nI i) M = some (J ((Nat.gcd x y : Nat) : Int), M) := by
  intro f
  induction f with
  | zero =>
    intro x y i n hx hy hf hi hn
    obtain ⟨n, rfl⟩ : ∃ k, n = k + 1 := ⟨n - 1, by omega⟩
    obtain rfl : y = 0 := by omega
    rw [fX7_greatestShared_L3]
    simp (disch := omega) only [pn_lit, J_lit, nI_leI, lgz]
    rw [if_neg (by omega), if_pos trivial, Nat.gcd_zero_right]
  | succ f ih =>
    intro x y i n hx hy hf hi hn
    obtain ⟨n, rfl⟩ : ∃ k, n = k + 1 := ⟨n - 1, by omega⟩
    rw [fX7_greatestShared_L3]
    simp (disch := omega) only [pn_lit, J_lit, nI_leI, lgz, J_z, J_mdn, rm_lt1, nI_add]
    rw [if_neg (by omega)]
    by_cases c : y = 0
    · rw [if_pos c, c, Nat.gcd_zero_right]
    · rw [if_neg c, if_neg c]
      have hr := Nat.mod_lt x (show 0 < y by omega)
      obtain ⟨n, rfl⟩ : ∃ k, n = k + 1 := ⟨n - 1, by omega⟩
      rw [fX7_greatestShared_L3]
      simp (disch := omega) only [pn_lit, J_lit, nI_leI, lgz, J_z, J_mdn, rm_lt1, nI_add]
      rw [if_neg (by omega), Nat.gcd_comm x y, Nat.gcd_rec y x]
      by_cases c2 : x % y = 0
      · rw [if_pos c2, c2, Nat.gcd_zero_left]
      · rw [if_neg c2, if_neg c2]
        have hh := md_half hf hr (by omega)
        have hs : y % (x % y) ≤ y := Nat.mod_le _ _
        rw [ih (x % y) (y % (x % y)) _ n (by omega) (by omega) hh (by omega) (by omega), Nat.gcd_comm (x % y), ← Nat.gcd_rec]
theorem pX8_gs (M : rm_M) (a b : Int64) : ∀ (f x y n : Nat), x < 2 ^ 62 → y < 2 ^ 62 → y < 2 ^ f → 2 * f + 1 < n → fX8_common_L6 a b n (J x) (J y) M = some (J ((Nat.gcd x y : Nat) : Int), M) := by
  intro f
  induction f with
  | zero =>
    intro x y n hx hy hf hn
    obtain ⟨n, rfl⟩ : ∃ k, n = k + 1 := ⟨n - 1, by omega⟩
    obtain rfl : y = 0 := by omega
    rw [fX8_common_L6]
    simp (disch := omega) only [pn_lit, J_lit, lgz]
    rw [if_pos trivial, Nat.gcd_zero_right]
  | succ f ih =>
    intro x y n hx hy hf hn
    obtain ⟨n, rfl⟩ : ∃ k, n = k + 1 := ⟨n - 1, by omega⟩
    rw [fX8_common_L6]
    simp (disch := omega) only [pn_lit, J_lit, lgz, J_z, J_mdn, rm_lt1]
    by_cases c : y = 0
    · rw [if_pos c, c, Nat.gcd_zero_right]
    · rw [if_neg c, if_neg c]
      have hr := Nat.mod_lt x (show 0 < y by omega)
      obtain ⟨n, rfl⟩ : ∃ k, n = k + 1 := ⟨n - 1, by omega⟩
      rw [fX8_common_L6]
      simp (disch := omega) only [pn_lit, J_lit, lgz, J_z, J_mdn, rm_lt1]
      rw [Nat.gcd_comm x y, Nat.gcd_rec y x]
      by_cases c2 : x % y = 0
      · rw [if_pos c2, c2, Nat.gcd_zero_left]
      · rw [if_neg c2, if_neg c2]
        have hh := md_half hf hr (by omega)
        have hs : y % (x % y) ≤ y := Nat.mod_le _ _
        rw [ih (x % y) (y % (x % y)) n (by omega) (by omega) hh (by omega), Nat.gcd_comm (x % y), ← Nat.gcd_rec]
/-- a part of a fraction in lowest terms -/
def lwI (a b : Int) (p : Nat) : Int64 := if p = 0 then J a / J ((Nat.gcd a.toNat b.toNat : Nat) : Int) else J b / J ((Nat.gcd a.toNat b.toNat : Nat) : Int)
theorem pX7_lowest {a b : Int} {p : Nat} (ha : 0 ≤ a) (ha2 : a < 2 ^ 62) (hb : 0 < b) (hb2 : b < 2 ^ 62) (hp : p < 2) (M : rm_M) : fX7_lowest (J a) (J b) (nI p) M = some (lwI a b p, M) := by
  have hF := pn_F
  obtain ⟨x, rfl⟩ : ∃ x : Nat, a = x := ⟨a.toNat, by omega⟩
  obtain ⟨y, rfl⟩ : ∃ y : Nat, b = y := ⟨b.toNat, by omega⟩
  have hg : 0 < Nat.gcd x y := Nat.gcd_pos_of_pos_right _ (by omega)
  have hg2 : Nat.gcd x y ≤ y := Nat.gcd_le_right _ (by omega)
  unfold fX7_lowest fX7_greatestShared lwI
  rw [pn_lit, pX7_gs M 62 x y 0 rm_F (by omega) (by omega) (by omega) (by omega) (by omega), pn_bd]
  simp (disch := omega) only [pn_lit, J_lit, lgz, J_z, nI_eq, Int.toNat_natCast]
  have h0 : ¬ Nat.gcd x y = 0 := by omega
  by_cases c : p = 0
  · rw [if_neg h0, if_pos c, if_neg h0, if_pos c]
  · rw [if_neg h0, if_neg c, if_neg h0, if_neg c]
theorem pX8_term {a b : Int} {p : Nat} (ha : 0 ≤ a) (ha2 : a < 2 ^ 62) (hb : 0 < b) (hb2 : b < 2 ^ 62) (hp : p < 2) (M : rm_M) : fX8_term (J a) (J b) (nI p) M = some (lwI a b p, M) := by
  have hF := pn_F
  obtain ⟨x, rfl⟩ : ∃ x : Nat, a = x := ⟨a.toNat, by omega⟩
  obtain ⟨y, rfl⟩ : ∃ y : Nat, b = y := ⟨b.toNat, by omega⟩
  have hg : 0 < Nat.gcd x y := Nat.gcd_pos_of_pos_right _ (by omega)
  have hg2 : Nat.gcd x y ≤ y := Nat.gcd_le_right _ (by omega)
  unfold fX8_term fX8_common lwI
  rw [pX8_gs M _ _ 62 x y rm_F (by omega) (by omega) (by omega) (by omega), pn_bd]
  simp (disch := omega) only [pn_lit, J_lit, J_z, nI_eq, Int.toNat_natCast]
  have h0 : ¬ Nat.gcd x y = 0 := by omega
  by_cases c : p = 0
  · rw [if_pos c, if_neg h0, if_pos c]
  · rw [if_neg c, if_neg h0, if_neg c]
/-! bounds -/
theorem isu_bd {f : Nat → Int} {m : Int} : ∀ d i, (∀ j, i ≤ j → j < i + d → 0 ≤ f j ∧ f j ≤ m) → 0 ≤ isu f i d ∧ isu f i d ≤ d * m := by
  intro d
  induction d with
  | zero => intro i _; simp [isu]
  | succ d ih =>
    intro i h
    have h1 := h i (by omega) (by omega)
    have h2 := ih (i + 1) (fun j h1 h2 => h j (by omega) (by omega))
    rw [isu]
    have : ((d + 1 : Nat) : Int) * m = m + d * m := by push_cast; grind
    omega
theorem aI_bd {cs : Nat} {w : Nat → Nat → Nat} {v : Nat → Nat} (h : WN cs w) (hv : ∀ c, c < 6 → v c ≤ 9) {c : Nat} (hc : c < cs) : 0 < aI cs w v c ∧ aI cs w v c ≤ 11136000000 := by
  have h2 := h.2.1
  have ho := ou_le h hc
  have hvc := hv c (by omega)
  have t1 := trI_pos h hc
  have t2 := trI_le h c
  have h0 : 0 < ou cs w c := by
    have h1 := h.1
    obtain ⟨b, hb, hw, _⟩ := nearer h (p := if c = 0 then 1 else 0) (c := c) (by split <;> omega) hc (by split <;> omega)
    unfold ou
    have key : ∀ d i, i ≤ b → b < i + d → 0 < rs (w c) i d := by
      intro d
      induction d with
      | zero => intro i h1 h2; omega
      | succ d ih =>
        intro i h1 h2
        rw [rs]
        by_cases e : b = i
        · subst e; omega
        · have := ih (i + 1) (by omega) (by omega); omega
    exact key cs 0 (by omega) (by omega)
  unfold aI
  constructor
  · exact Int.mul_pos (by omega) t1
  · have : ((ou cs w c + v c : Nat) : Int) * trI cs w c ≤ 29 * 384000000 := Int.mul_le_mul (by omega) t2 (by omega) (by omega)
    omega
theorem bI_bd {cs : Nat} {w : Nat → Nat → Nat} {v : Nat → Nat} (h : WN cs w) (hv : ∀ c, c < 6 → v c ≤ 9) : 0 < bI cs w v ∧ bI cs w v ≤ 66816000000 := by
  have h1 := h.1
  have h2 := h.2.1
  unfold bI
  obtain ⟨d, rfl⟩ : ∃ d, cs = d + 1 := ⟨cs - 1, by omega⟩
  have a0 := aI_bd h hv (show 0 < d + 1 by omega)
  have t := isu_bd (f := aI (d + 1) w v) (m := 11136000000) d (0 + 1) (fun j h1 h2 => by have := aI_bd h hv (show j < d + 1 by omega); omega)
  rw [isu]
  omega
theorem crI_bd {cs : Nat} {w : Nat → Nat → Nat} (h : WN cs w) (ar : Nat → Nat) (all : Bool) : 0 ≤ crI cs w ar all ∧ crI cs w ar all ≤ 55296000000 := by
  have h1 := h.1
  have h2 := h.2.1
  have inner : ∀ a, a < cs → 0 ≤ isu (fun b => if all = true ∨ ar a ≠ ar b then trI cs w a * (w a b : Int) else 0) 0 cs ∧ isu (fun b => if all = true ∨ ar a ≠ ar b then trI cs w a * (w a b : Int) else 0) 0 cs ≤ 9216000000 := by
    intro a ha
    have t := isu_bd (f := fun b => if all = true ∨ ar a ≠ ar b then trI cs w a * (w a b : Int) else 0) (m := 1536000000) cs 0 (fun j _ _ => by
      have t1 := trI_pos h ha
      have t2 := trI_le h a
      have hw := h.2.2.1 a j
      split
      · have q1 : 0 ≤ trI cs w a * (w a j : Int) := Int.mul_nonneg (by omega) (by omega)
        have q2 : trI cs w a * (w a j : Int) ≤ 384000000 * 4 := Int.mul_le_mul t2 (by omega) (by omega) (by omega)
        omega
      · omega)
    omega
  have t := isu_bd (f := fun a => isu (fun b => if all = true ∨ ar a ≠ ar b then trI cs w a * (w a b : Int) else 0) 0 cs) (m := 9216000000) cs 0 (fun j _ hj => inner j (by omega))
  unfold crI
  omega
theorem exI_bd {cs : Nat} {w : Nat → Nat → Nat} {v pr : Nat → Nat} (h : WN cs w) (hv : ∀ c, c < 6 → v c ≤ 9) (hpr : ∀ k, k < 4 → pr k ≤ 99) (ar : Nat → Nat) : 0 ≤ exI cs w v pr ar ∧ exI cs w v pr ar < 2 ^ 62 := by
  have h1 := h.1
  have h2 := h.2.1
  have q1 := hpr 1 (by omega)
  have q2 := hpr 2 (by omega)
  have q3 := hpr 3 (by omega)
  have q13 : pr 1 * pr 3 ≤ 99 * 99 := Nat.mul_le_mul q1 q3
  have c1 := crI_bd h ar false
  have t := isu_bd (f := fun c => aI cs w v c * (cnt cs ar c : Int)) (m := 66816000000) cs 0 (fun j _ hj => by
    have a1 := aI_bd h hv (show j < cs by omega)
    have a2 := cnt_le cs ar j
    have q1 : 0 ≤ aI cs w v j * (cnt cs ar j : Int) := Int.mul_nonneg (by omega) (by omega)
    have q2 : aI cs w v j * (cnt cs ar j : Int) ≤ 11136000000 * 6 := Int.mul_le_mul (by omega) (by omega) (by omega) (by omega)
    omega)
  unfold exI
  have u1 : 0 ≤ ((100 * pr 2 : Nat) : Int) * crI cs w ar false := Int.mul_nonneg (by omega) (by omega)
  have u2 : ((100 * pr 2 : Nat) : Int) * crI cs w ar false ≤ 9900 * 55296000000 := Int.mul_le_mul (by omega) (by omega) (by omega) (by omega)
  have u3 : 0 ≤ ((pr 1 * pr 3 : Nat) : Int) * isu (fun c => aI cs w v c * (cnt cs ar c : Int)) 0 cs := Int.mul_nonneg (by omega) (by omega)
  have u4 : ((pr 1 * pr 3 : Nat) : Int) * isu (fun c => aI cs w v c * (cnt cs ar c : Int)) 0 cs ≤ 9801 * 400896000000 := Int.mul_le_mul (by omega) (by omega) (by omega) (by omega)
  omega
theorem mov_cr {cs : Nat} (w : Nat → Nat → Nat) (ar : Nat → Nat) : isu (fun c => trI cs w c * (ou cs w c : Int)) 0 cs = crI cs w ar true := by
  unfold crI
  refine isu_cong cs 0 (fun a _ _ => ?_)
  have key : ∀ d i, isu (fun b => if true = true ∨ ar a ≠ ar b then trI cs w a * (w a b : Int) else 0) i d = trI cs w a * ((rs (w a) i d : Nat) : Int) := by
    intro d
    induction d with
    | zero => intro i; simp [isu, rs]
    | succ d ih =>
      intro i
      rw [isu, rs, ih (i + 1), if_pos (Or.inl rfl)]
      push_cast
      grind
  rw [key cs 0]
  rfl
