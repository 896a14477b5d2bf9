/-! ===== WHERE ===== -/
def sN (cs : Nat) (v : Nat → Nat) (X : Nat) : Nat := ro (fun c => if X.testBit c ∧ 0 < v c then 2 ^ c else 0) 0 cs
def mN (cs : Nat) (w : Nat → Nat → Nat) (X : Nat) : Nat := ro (fun c => if X.testBit c then nr cs w c else 0) 0 cs
def inB (cs : Nat) (w : Nat → Nat → Nat) (v : Nat → Nat) : Nat := ro (fun c => if (v 12 = 0 ∧ v (6 + c) ≠ v (6 + v 15)) ∨ (v 12 = 3 ∧ v 13 ≤ fw w cs (v 15) c) then 0 else 2 ^ c) 0 cs
theorem sN_bit {cs : Nat} {v : Nat → Nat} {X c : Nat} : (sN cs v X).testBit c = true ↔ c < cs ∧ X.testBit c = true ∧ 0 < v c := by
  unfold sN
  rw [ro_bit]
  constructor
  · rintro ⟨j, h1, h2, h3⟩
    rw [if_bit, pow_bit] at h3
    obtain ⟨h3, rfl⟩ := h3
    exact ⟨by omega, h3⟩
  · rintro ⟨h1, h2⟩
    exact ⟨c, by omega, by omega, by rw [if_bit, pow_bit]; exact ⟨h2, rfl⟩⟩
theorem mN_bit {cs : Nat} {w : Nat → Nat → Nat} {X c : Nat} : (mN cs w X).testBit c = true ↔ ∃ d, d < cs ∧ X.testBit d = true ∧ c < cs ∧ 0 < w d c := by
  unfold mN
  rw [ro_bit]
  constructor
  · rintro ⟨j, h1, h2, h3⟩
    rw [if_bit, nr_bit] at h3
    exact ⟨j, by omega, h3.1, h3.2.1, h3.2.2⟩
  · rintro ⟨d, h1, h2, h3, h4⟩
    exact ⟨d, by omega, by omega, by rw [if_bit, nr_bit]; exact ⟨h2, h3, h4⟩⟩
theorem inB_bit {cs : Nat} {w : Nat → Nat → Nat} {v : Nat → Nat} {c : Nat} : (inB cs w v).testBit c = true ↔ c < cs ∧ inn cs w v c := by
  unfold inB inn
  rw [ro_bit]
  constructor
  · rintro ⟨j, h1, h2, h3⟩
    split at h3
    · simp at h3
    · rename_i q
      rw [pow_bit] at h3
      subst h3
      exact ⟨by omega, q⟩
  · rintro ⟨h1, h2⟩
    exact ⟨c, by omega, by omega, by rw [if_neg h2, pow_bit]⟩
theorem pw_lt {c cs : Nat} (h : c < cs) : 2 ^ c < 2 ^ cs := Nat.pow_lt_pow_right (by decide) h
theorem sN_lt {cs : Nat} (v : Nat → Nat) (X : Nat) : sN cs v X < 2 ^ cs := ro_lt _ _ _ _ (fun j _ h2 => by split; exact pw_lt (by omega); exact Nat.two_pow_pos cs)
theorem mN_lt {cs : Nat} (w : Nat → Nat → Nat) (X : Nat) : mN cs w X < 2 ^ cs := ro_lt _ _ _ _ (fun j _ h2 => by split; exact nr_lt w j; exact Nat.two_pow_pos cs)
theorem inB_lt {cs : Nat} (w : Nat → Nat → Nat) (v : Nat → Nat) : inB cs w v < 2 ^ cs := ro_lt _ _ _ _ (fun j _ h2 => by split; exact Nat.two_pow_pos cs; exact pw_lt (by omega))
theorem b31 {x cs : Nat} (h : x < 2 ^ cs) (hcs : cs ≤ 6) : x < 64 := Nat.lt_of_lt_of_le h (Nat.pow_le_pow_right (by decide) hcs)
/-- a TICK, all rows of it at once, by moves -/
def stB (cs : Nat) (w : Nat → Nat → Nat) (v : Nat → Nat) (R : Nat → Nat) : Nat → Nat := fun m => (sN cs v (R m) ||| (if v 12 = 1 then (if m = 0 then 0 else mN cs w (R (m - 1))) else mN cs w (R m))) &&& inB cs w v
def itB (cs : Nat) (w : Nat → Nat → Nat) (v : Nat → Nat) : Nat → (Nat → Nat) → Nat → Nat
  | 0, R => R
  | d + 1, R => itB cs w v d (stB cs w v R)
def R0 (v : Nat → Nat) : Nat → Nat := fun m => if m = 0 then 2 ^ v 15 else 0
def lvs (v : Nat → Nat) : Nat := if v 12 = 1 then v 13 else 1
/-- WHERE -/
def whr (cs : Nat) (w : Nat → Nat → Nat) (v : Nat → Nat) : Nat := ro (itB cs w v (v 17) (R0 v)) 0 (lvs v)
theorem stB_lt {cs : Nat} (w : Nat → Nat → Nat) (v R : Nat → Nat) (m : Nat) : stB cs w v R m < 2 ^ cs := Nat.and_lt_two_pow _ (inB_lt w v)
theorem stB_cong {cs lv : Nat} {w : Nat → Nat → Nat} {v R R2 : Nat → Nat} (h : ∀ j, j < lv → R2 j = R j) {m : Nat} (hm : m < lv) : stB cs w v R2 m = stB cs w v R m := by
  unfold stB
  rw [h m hm]
  by_cases c : m = 0
  · rw [if_pos c, if_pos c]
  · rw [if_neg c, if_neg c, h (m - 1) (by omega)]
theorem itB_cong {cs lv : Nat} {w : Nat → Nat → Nat} {v : Nat → Nat} : ∀ d (R R2 : Nat → Nat), (∀ j, j < lv → R2 j = R j) → ∀ m, m < lv → itB cs w v d R2 m = itB cs w v d R m := by
  intro d
  induction d with
  | zero => intro R R2 h m hm; exact h m hm
  | succ d ih => intro R R2 h m hm; exact ih _ _ (fun j hj => stB_cong h hj) m hm
theorem itB_fix {cs lv : Nat} {w : Nat → Nat → Nat} {v : Nat → Nat} : ∀ d (R : Nat → Nat), (∀ j, j < lv → stB cs w v R j = R j) → ∀ m, m < lv → itB cs w v d R m = R m := by
  intro d
  induction d with
  | zero => intro R _ m _; rfl
  | succ d ih =>
    intro R h m hm
    show itB cs w v d (stB cs w v R) m = R m
    rw [itB_cong d R (stB cs w v R) h m hm]
    exact ih R h m hm
theorem itB_snoc {cs : Nat} {w : Nat → Nat → Nat} {v : Nat → Nat} : ∀ d (R : Nat → Nat), itB cs w v (d + 1) R = stB cs w v (itB cs w v d R) := by
  intro d
  induction d with
  | zero => intro R; rfl
  | succ d ih => intro R; exact ih (stB cs w v R)
theorem itB_LV {cs : Nat} {w : Nat → Nat → Nat} {v : Nat → Nat} : ∀ t m c, (itB cs w v t (R0 v) m).testBit c = true ↔ LV cs w v t m c := by
  intro t
  induction t with
  | zero =>
    intro m c
    unfold LV
    show (R0 v m).testBit c = true ↔ _
    unfold R0
    by_cases h : m = 0
    · rw [if_pos h, pow_bit]; exact ⟨fun q => ⟨h, q⟩, fun q => q.2⟩
    · rw [if_neg h, Nat.zero_testBit]; exact ⟨fun q => (by cases q), fun q => absurd q.1 h⟩
  | succ t ih =>
    intro m c
    rw [itB_snoc]
    unfold LV
    unfold stB
    rw [Nat.testBit_and, Bool.and_eq_true, Nat.testBit_or, Bool.or_eq_true, sN_bit, inB_bit, ih]
    by_cases k : v 12 = 1
    · rw [if_pos k]
      cases m with
      | zero =>
        rw [if_pos rfl, Nat.zero_testBit]
        constructor
        · rintro ⟨h1, h2, h3⟩
          refine ⟨h2, h3, ?_⟩
          rcases h1 with h1 | h1
          · exact Or.inl ⟨h1.2.1, h1.2.2⟩
          · cases h1
        · rintro ⟨h1, h2, h3⟩
          refine ⟨?_, h1, h2⟩
          rcases h3 with h3 | ⟨d, _, _, h3⟩
          · exact Or.inl ⟨h1, h3.1, h3.2⟩
          · rcases h3 with ⟨_, k', h3, _⟩ | ⟨h3, _⟩
            · omega
            · exact absurd k h3
      | succ m =>
        rw [if_neg (by omega), mN_bit, Nat.add_sub_cancel]
        constructor
        · rintro ⟨h1, h2, h3⟩
          refine ⟨h2, h3, ?_⟩
          rcases h1 with h1 | ⟨d, h1, h4, h5, h6⟩
          · exact Or.inl ⟨h1.2.1, h1.2.2⟩
          · exact Or.inr ⟨d, h1, h6, Or.inl ⟨k, m, rfl, (ih m d).mp h4⟩⟩
        · rintro ⟨h1, h2, h3⟩
          refine ⟨?_, h1, h2⟩
          rcases h3 with h3 | ⟨d, h4, h5, h3⟩
          · exact Or.inl ⟨h1, h3.1, h3.2⟩
          · rcases h3 with ⟨_, k', h3, h6⟩ | ⟨h3, _⟩
            · obtain rfl : k' = m := by omega
              exact Or.inr ⟨d, h4, (ih k' d).mpr h6, h1, h5⟩
            · exact absurd k h3
    · rw [if_neg k, mN_bit]
      constructor
      · rintro ⟨h1, h2, h3⟩
        refine ⟨h2, h3, ?_⟩
        rcases h1 with h1 | ⟨d, h1, h4, h5, h6⟩
        · exact Or.inl ⟨h1.2.1, h1.2.2⟩
        · exact Or.inr ⟨d, h1, h6, Or.inr ⟨k, (ih m d).mp h4⟩⟩
      · rintro ⟨h1, h2, h3⟩
        refine ⟨?_, h1, h2⟩
        rcases h3 with h3 | ⟨d, h4, h5, h3⟩
        · exact Or.inl ⟨h1, h3.1, h3.2⟩
        · rcases h3 with ⟨h3, _⟩ | ⟨_, h3⟩
          · exact absurd h3 k
          · exact Or.inr ⟨d, h4, (ih m d).mpr h3, h1, h5⟩
theorem whr_cell {cs : Nat} {w : Nat → Nat → Nat} {v : Nat → Nat} (h : HW cs w v) : (whr cs w v).testBit (v 14) = true := by
  unfold whr
  rw [ro_bit]
  obtain ⟨h1, h2⟩ := h
  refine ⟨if v 12 = 1 then v 16 else 0, by omega, ?_, (itB_LV _ _ _).mpr h1⟩
  unfold lvs
  by_cases c : v 12 = 1
  · rw [if_pos c, if_pos c]; have := h2 c; omega
  · rw [if_neg c, if_neg c]; omega
theorem itB_lt {cs : Nat} {w : Nat → Nat → Nat} {v : Nat → Nat} (h : v 15 < cs) : ∀ t m, itB cs w v t (R0 v) m < 2 ^ cs := by
  intro t m
  cases t with
  | zero =>
    show R0 v m < _
    unfold R0
    split
    · exact pw_lt h
    · exact Nat.two_pow_pos cs
  | succ t => rw [itB_snoc]; exact stB_lt w v _ m
theorem whr_lt {cs : Nat} {w : Nat → Nat → Nat} {v : Nat → Nat} (h : v 15 < cs) : whr cs w v < 2 ^ cs := ro_lt _ _ _ _ (fun j _ _ => itB_lt h _ j)
/-! the class -/
theorem sh1 {i : Nat} (h : i < 31) : nI 1 <<< (nI i &&& nI 31) = nI (2 ^ i) := by
  rw [pn_shl h (by rw [Nat.one_mul]; exact Nat.pow_lt_pow_right (by decide) (by omega)), Nat.one_mul]
theorem pX6_insideOf {M : rm_M} {n s cs : Nat} {w : Nat → Nat → Nat} {v : Nat → Nat} (hW : WN cs w) (hS : SV M s v) (hV : WV cs v) (h0 : M.1 n 0 = nI cs) (hD : CD M n cs (fw w cs)) : fX6_insideOf n s M = some (nI (inB cs w v), M) := by
  have hF := pn_F
  have h2 := hW.2.1
  have hds : ∀ a b, a < cs → b < cs → fw w cs a b < 2 ^ 31 := fun a b ha hb => by have := hW.2.2.2.2.2 a b ha hb; omega
  have key : ∀ d f i acc, i + d = cs → d < f → fX6_insideOf_L5 n s f (nI acc) (nI i) M = some (nI (acc ||| ro (fun c => if (v 12 = 0 ∧ v (6 + c) ≠ v (6 + v 15)) ∨ (v 12 = 3 ∧ v 13 ≤ fw w cs (v 15) c) then 0 else 2 ^ c) i d), M) := by
    intro d
    induction d with
    | zero =>
      intro f i acc hi hf
      obtain ⟨f, rfl⟩ : ∃ z, f = z + 1 := ⟨f - 1, by omega⟩
      rw [fX6_insideOf_L5, h0, if_pos (by rw [nI_leI (by omega) (by omega)]; omega), ro, Nat.or_zero]
    | succ d ih =>
      intro f i acc hi hf
      obtain ⟨f, rfl⟩ : ∃ z, f = z + 1 := ⟨f - 1, by omega⟩
      rw [fX6_insideOf_L5, h0, if_neg (by rw [nI_leI (by omega) (by omega)]; omega), pX4_isOutside hS hV h2 (by omega) hD hds, pn_bd, pn_lit 0, pn_lit 1, pn_lit 31, rm_lt1, sh1 (by omega), pn_or, ro]
      unfold fX6_insideOf_L31
      rw [pn_lit 1, nI_add, ih f (i + 1) _ (by omega) (by omega), ih f (i + 1) _ (by omega) (by omega)]
      by_cases c : (v 12 = 0 ∧ v (6 + i) ≠ v (6 + v 15)) ∨ (v 12 = 3 ∧ v 13 ≤ fw w cs (v 15) i)
      · rw [if_pos c, if_neg z10, if_pos c, Nat.zero_or]
      · rw [if_neg c, if_pos rfl, if_neg c, Nat.or_assoc]
  unfold fX6_insideOf
  rw [pn_lit 0, key cs rm_F 0 0 (by omega) (by omega), Nat.zero_or]
  rfl
theorem pX6_movers {M : rm_M} {n cs X : Nat} {w : Nat → Nat → Nat} (hcs : cs ≤ 6) (h0 : M.1 n 0 = nI cs) (hN : ∀ c, c < cs → M.1 (n + 15) c = nI (nr cs w c)) (hX : X < 64) : fX6_movers n (nI X) M = some (nI (mN cs w X), M) := by
  have hF := pn_F
  have key : ∀ d f i acc, i + d = cs → d < f → fX6_movers_L5 n (nI X) f (nI acc) (nI i) M = some (nI (acc ||| ro (fun c => if X.testBit c then nr cs w c else 0) i d), M) := by
    intro d
    induction d with
    | zero =>
      intro f i acc hi hf
      obtain ⟨f, rfl⟩ : ∃ z, f = z + 1 := ⟨f - 1, by omega⟩
      rw [fX6_movers_L5, h0, if_pos (by rw [nI_leI (by omega) (by omega)]; omega), ro, Nat.or_zero]
    | succ d ih =>
      intro f i acc hi hf
      obtain ⟨f, rfl⟩ : ∃ z, f = z + 1 := ⟨f - 1, by omega⟩
      rw [fX6_movers_L5, h0, if_neg (by rw [nI_leI (by omega) (by omega)]; omega), pX7_holds (by omega) (by omega), pn_bd, pn_lit 0, rm_lt1, nI_clamp (by omega), hN i (by omega), pn_or, ro]
      unfold fX6_movers_L33
      rw [pn_lit 1, nI_add, ih f (i + 1) _ (by omega) (by omega), ih f (i + 1) _ (by omega) (by omega)]
      by_cases c : X.testBit i = true
      · rw [if_pos c, if_neg z10, if_pos (by rw [pn_ib (by omega), decide_eq_true_eq]; omega), if_pos c, Nat.or_assoc]
      · rw [if_neg c, if_pos rfl, if_neg c, Nat.zero_or]
  unfold fX6_movers
  rw [pn_lit 0, key cs rm_F 0 0 (by omega) (by omega), Nat.zero_or]
  rfl
theorem pX6_stayers {M : rm_M} {n s cs X : Nat} {v : Nat → Nat} (hcs : cs ≤ 6) (h0 : M.1 n 0 = nI cs) (hS : SV M s v) (hv : ∀ c, c < 6 → v c ≤ 9) (hX : X < 64) : fX6_stayers n s (nI X) M = some (nI (sN cs v X), M) := by
  have hF := pn_F
  have key : ∀ d f i acc, i + d = cs → d < f → fX6_stayers_L6 n s (nI X) f (nI acc) (nI i) M = some (nI (acc ||| ro (fun c => if X.testBit c ∧ 0 < v c then 2 ^ c else 0) i d), M) := by
    intro d
    induction d with
    | zero =>
      intro f i acc hi hf
      obtain ⟨f, rfl⟩ : ∃ z, f = z + 1 := ⟨f - 1, by omega⟩
      rw [fX6_stayers_L6, h0, if_pos (by rw [nI_leI (by omega) (by omega)]; omega), ro, Nat.or_zero]
    | succ d ih =>
      intro f i acc hi hf
      obtain ⟨f, rfl⟩ : ∃ z, f = z + 1 := ⟨f - 1, by omega⟩
      have hvi := hv i (by omega)
      rw [fX6_stayers_L6, h0, if_neg (by rw [nI_leI (by omega) (by omega)]; omega), pX7_holds (by omega) (by omega), pn_bd, pn_lit 0, pn_lit 1, pn_lit 31, rm_lt1, nI_clamp (by omega), hS.1 i (by omega), sh1 (by omega), pn_or, ro]
      unfold fX6_stayers_L43
      rw [pn_lit 1, nI_add, ih f (i + 1) _ (by omega) (by omega), ih f (i + 1) _ (by omega) (by omega)]
      by_cases c : X.testBit i = true
      · rw [if_pos c, if_neg z10, if_pos (by rw [pn_ib (by omega), decide_eq_true_eq]; omega)]
        by_cases c2 : v i ≤ 0
        · rw [if_pos (by rw [nI_leI (by omega) (by omega)]; exact c2), if_neg (fun q => by omega), Nat.zero_or]
        · rw [if_neg (by rw [nI_leI (by omega) (by omega)]; exact c2), if_pos ⟨c, by omega⟩, Nat.or_assoc]
      · rw [if_neg c, if_pos rfl, if_neg (fun q => c q.1), Nat.zero_or]
  unfold fX6_stayers
  rw [pn_lit 0, key cs rm_F 0 0 (by omega) (by omega), Nat.zero_or]
  rfl
def dx : Nat → Int32
  | 0 => -nI 1
  | m + 1 => nI m
theorem dx_sub (m : Nat) : nI m + -nI 1 = dx m := by
  cases m with
  | zero => decide
  | succ m => exact pk_m1 m
theorem pX6_step_L8 {n s cs lv : Nat} {w : Nat → Nat → Nat} {v R : Nat → Nat} (hW : WN cs w) (hV : WV cs v) (hlv : lv = lvs v) (hl9 : lv ≤ 9) (hs : s = 55 ∨ s = 58) (hn : n = 14 ∨ n = 33) (hR : ∀ j, R j < 2 ^ cs) : ∀ m f chg M, m ≤ lv → m < f → chg < 2 → SV M s v → M.1 n 0 = nI cs → (∀ c, c < cs → M.1 (n + 15) c = nI (nr cs w c)) → (∀ j, j < m → M.1 11 j = nI (R j)) → (∀ j, m ≤ j → j < lv → M.1 11 j = nI (stB cs w v R j)) →
    ∃ M2 c2, fX6_step_L8 n s (nI lv) (nI (inB cs w v)) f (nI chg) (dx m) M = some (nI c2, M2) ∧ c2 < 2 ∧ (c2 = 0 → chg = 0 ∧ ∀ j, j < m → stB cs w v R j = R j) ∧ (∀ j, j < lv → M2.1 11 j = nI (stB cs w v R j)) ∧ FR (fun q => q = 11) M M2 := by
  have h2 := hW.2.1
  have hv9 : ∀ c, c < 6 → v c ≤ 9 := fun c hc => (hV.2.1 c hc).1
  intro m
  induction m with
  | zero =>
    intro f chg M hm hf hc hS h0 hN h1 h3
    obtain ⟨f, rfl⟩ : ∃ z, f = z + 1 := ⟨f - 1, by omega⟩
    refine ⟨M, chg, ?_, hc, fun q => ⟨q, fun j hj => by omega⟩, fun j hj => h3 j (by omega) hj, FR.rf⟩
    rw [fX6_step_L8, if_pos (by decide)]
    rcases (show chg = 0 ∨ chg = 1 by omega) with rfl | rfl <;> rfl
  | succ m ih =>
    intro f chg M hm hf hc hS h0 hN h1 h3
    obtain ⟨f, rfl⟩ : ∃ z, f = z + 1 := ⟨f - 1, by omega⟩
    have hib : rm_ib (nI m) 9 = true := by rw [pn_ib (by omega), decide_eq_true_eq]; omega
    have e2 : M.1 s 2 = nI (v 12) := hS.2.2 2 (by omega) (by omega)
    have b12 := hV.2.2.1
    have hRm := b31 (hR m) h2
    have hst := b31 (stB_lt w v R m) h2
    have fin : ∀ cm, cm = (if v 12 = 1 then (if m = 0 then 0 else mN cs w (R (m - 1))) else mN cs w (R m)) → ∃ M2 c2, fX6_step_L59 n s (nI lv) (nI (inB cs w v)) (fX6_step_L8 n s (nI lv) (nI (inB cs w v)) f) (nI chg) (nI m) (nI cm) M = some (nI c2, M2) ∧ c2 < 2 ∧ (c2 = 0 → chg = 0 ∧ ∀ j, j < m + 1 → stB cs w v R j = R j) ∧ (∀ j, j < lv → M2.1 11 j = nI (stB cs w v R j)) ∧ FR (fun q => q = 11) M M2 := by
      intro cm hcm
      unfold fX6_step_L59
      rw [if_pos hib, nI_clamp (by omega), h1 m (by omega), pX6_stayers h2 h0 hS hv9 hRm, pn_bd, rm_lt1, pn_or, pn_and, if_pos hib, h1 m (by omega), hcm]
      have est : (sN cs v (R m) ||| (if v 12 = 1 then (if m = 0 then 0 else mN cs w (R (m - 1))) else mN cs w (R m))) &&& inB cs w v = stB cs w v R m := rfl
      rw [est]
      have go : ∀ b, b < 2 → ∃ M2 c2, fX6_step_L101 n s (nI lv) (nI (inB cs w v)) (fX6_step_L8 n s (nI lv) (nI (inB cs w v)) f) (nI m) (nI (stB cs w v R m)) (nI chg) (nI b) M = some (nI c2, M2) ∧ c2 < 2 ∧ (c2 = 0 → chg ||| b = 0 ∧ ∀ j, j < m → stB cs w v R j = R j) ∧ (∀ j, j < lv → M2.1 11 j = nI (stB cs w v R j)) ∧ FR (fun q => q = 11) M M2 := by
        intro b hb
        unfold fX6_step_L101
        rw [rm_lt1, pn_or, if_pos hib, rm_lt1, nI_clamp (by omega), show (-1 : Int32) = -nI 1 from rfl, dx_sub]
        have r1 : FR (fun q => q = 11) M (rm_sI M 11 m (nI (stB cs w v R m))) := FR.sI rfl
        have hcb : chg ||| b < 2 := Nat.or_lt_two_pow (n := 1) hc hb
        obtain ⟨M2, c2, f2, g1, g2, g3, r2⟩ := ih f (chg ||| b) _ (by omega) (by omega) hcb (hS.fr r1 (by omega) (by omega) (by omega)) (by rw [(r1.1 n (by omega)).1]; exact h0) (fun c hc => by rw [(r1.1 _ (by omega)).1]; exact hN c hc) (fun j hj => by rw [pn_sI_eq, pn_upd_ne _ _ (by omega)]; exact h1 j (by omega)) (fun j hj hj2 => by
          rw [pn_sI_eq]
          by_cases e : j = m
          · subst e; rw [pn_upd_eq]
          · rw [pn_upd_ne _ _ e]; exact h3 j (by omega) hj2)
        exact ⟨M2, c2, f2, g1, g2, g3, r1.tr r2⟩
      by_cases e : stB cs w v R m = R m
      · rw [if_pos (by rw [e]), pn_lit 0]
        obtain ⟨M2, c2, f2, g1, g2, g3, r2⟩ := go 0 (by omega)
        refine ⟨M2, c2, f2, g1, fun q => ?_, g3, r2⟩
        have := g2 q
        rw [Nat.or_zero] at this
        refine ⟨this.1, fun j hj => ?_⟩
        by_cases ej : j = m
        · subst ej; exact e
        · exact this.2 j (by omega)
      · rw [if_neg (by rw [nI_eq (by omega) (by omega)]; exact e), pn_lit 1]
        obtain ⟨M2, c2, f2, g1, g2, g3, r2⟩ := go 1 (by omega)
        refine ⟨M2, c2, f2, g1, fun q => ?_, g3, r2⟩
        have := (g2 q).1
        rcases (show chg = 0 ∨ chg = 1 by omega) with rfl | rfl <;> simp at this
    rw [fX6_step_L8, show dx (m + 1) = nI m from rfl]
    rw [if_neg (by rw [pn_lit 0, nI_ltI (by omega) (by omega)]; omega), e2, pn_lit 1, pn_lit 0]
    by_cases k : v 12 = 1
    · rw [if_pos (by rw [k])]
      by_cases m0 : m = 0
      · subst m0
        rw [if_pos (by rw [nI_leI (by omega) (by omega)]; omega)]
        exact fin 0 (by rw [if_pos k, if_pos rfl])
      · rw [if_neg (by rw [nI_leI (by omega) (by omega)]; omega), pk_sub (by omega), if_pos (by rw [pn_ib (by omega), decide_eq_true_eq]; omega), nI_clamp (by omega), h1 (m - 1) (by omega), pX6_movers h2 h0 hN (b31 (hR (m - 1)) h2), pn_bd]
        exact fin _ (by rw [if_pos k, if_neg m0])
    · rw [if_neg (by rw [nI_eq (by omega) (by omega)]; exact k), if_pos hib, nI_clamp (by omega), h1 m (by omega), pX6_movers h2 h0 hN hRm, pn_bd]
      exact fin _ (by rw [if_neg k])
theorem pX6_find_L102 {n s lv : Nat} {R : Nat → Nat} {M : rm_M} (hl9 : lv ≤ 9) (h : ∀ j, j < lv → M.1 11 j = nI (R j)) : fX6_find_L102 n s (nI lv) M = some (nI (ro R 0 lv), M) := by
  have hF := pn_F
  have key : ∀ d f i acc, i + d = lv → d < f → fX6_find_L108 n s f (nI lv) (nI acc) (nI i) M = some (nI (acc ||| ro R i d), M) := by
    intro d
    induction d with
    | zero =>
      intro f i acc hi hf
      obtain ⟨f, rfl⟩ : ∃ z, f = z + 1 := ⟨f - 1, by omega⟩
      rw [fX6_find_L108, if_pos (by rw [nI_leI (by omega) (by omega)]; omega), ro, Nat.or_zero]
    | succ d ih =>
      intro f i acc hi hf
      obtain ⟨f, rfl⟩ : ∃ z, f = z + 1 := ⟨f - 1, by omega⟩
      rw [fX6_find_L108, if_neg (by rw [nI_leI (by omega) (by omega)]; omega), if_pos (by rw [pn_ib (by omega), decide_eq_true_eq]; omega), rm_lt1, nI_clamp (by omega), h i (by omega), pn_or, pn_lit 1, nI_add, ih f _ _ (by omega) (by omega), ro, Nat.or_assoc]
  unfold fX6_find_L102
  rw [pn_lit 0, key lv rm_F 0 0 (by omega) (by omega), Nat.zero_or]
theorem pX6_find_L71 {n s cs lv : Nat} {w : Nat → Nat → Nat} {v : Nat → Nat} (hW : WN cs w) (hV : WV cs v) (hlv : lv = lvs v) (hl1 : 1 ≤ lv) (hl9 : lv ≤ 9) (hs : s = 55 ∨ s = 58) (hn : n = 14 ∨ n = 33) (h17 : v 17 < 100000) : ∀ d f t chg R M, t + d = v 17 → d < f → chg < 2 → (∀ j, R j < 2 ^ cs) → (chg = 0 → ∀ j, j < lv → stB cs w v R j = R j) → SV M s v → M.1 n 0 = nI cs → (∀ c, c < cs → M.1 (n + 15) c = nI (nr cs w c)) → (∀ j, j < lv → M.1 11 j = nI (R j)) →
    ∃ M2, fX6_find_L71 n s f (nI lv) (nI (inB cs w v)) (nI chg) (nI t) M = some (nI (ro (itB cs w v d R) 0 lv), M2) ∧ FR (fun q => q = 11) M M2 := by
  have hF := pn_F
  intro d
  induction d with
  | zero =>
    intro f t chg R M ht hf hc hR hq hS h0 hN h1
    obtain ⟨f, rfl⟩ : ∃ z, f = z + 1 := ⟨f - 1, by omega⟩
    have e7 : M.1 s 7 = nI (v 17) := hS.2.2 7 (by omega) (by omega)
    refine ⟨M, ?_, FR.rf⟩
    rw [fX6_find_L71, e7, if_pos (by rw [nI_leI (by omega) (by omega)]; omega), pX6_find_L102 hl9 h1]
    rfl
  | succ d ih =>
    intro f t chg R M ht hf hc hR hq hS h0 hN h1
    obtain ⟨f, rfl⟩ : ∃ z, f = z + 1 := ⟨f - 1, by omega⟩
    have e7 : M.1 s 7 = nI (v 17) := hS.2.2 7 (by omega) (by omega)
    rw [fX6_find_L71, e7, if_neg (by rw [nI_leI (by omega) (by omega)]; omega), pn_lit 0]
    by_cases c : chg = 0
    · subst c
      rw [if_pos rfl, pX6_find_L102 hl9 h1]
      refine ⟨M, ?_, FR.rf⟩
      rw [ro_congr (g := R) lv 0 (fun j _ hj => itB_fix (lv := lv) (d + 1) R (hq rfl) j (by omega))]
    · rw [if_neg (by rw [nI_eq (by omega) (by omega)]; exact c)]
      obtain ⟨M1, c1, f1, g1, g2, g3, r1⟩ := pX6_step_L8 hW hV hlv hl9 hs hn hR lv rm_F 0 M (Nat.le_refl _) (by omega) (by omega) hS h0 hN h1 (fun j hj hj2 => by omega)
      have fs : fX6_step n s (nI lv) (nI (inB cs w v)) M = some (nI c1, M1) := by
        unfold fX6_step
        rw [rm_lt1, pn_lit 1, pk_sub hl1, pn_lit 0, ← f1]
        congr 1
        obtain ⟨k, rfl⟩ : ∃ k, lv = k + 1 := ⟨lv - 1, by omega⟩
        rfl
      rw [fs, pn_bd, pn_lit 1, nI_add]
      obtain ⟨M2, f2, r2⟩ := ih f (t + 1) c1 (stB cs w v R) M1 (by omega) (by omega) g1 (fun j => stB_lt w v R j) (fun q j hj => stB_cong (lv := lv) (g2 q).2 hj) (hS.fr r1 (by omega) (by omega) (by omega)) (by rw [(r1.1 n (by omega)).1]; exact h0) (fun c hc => by rw [(r1.1 _ (by omega)).1]; exact hN c hc) g3
      exact ⟨M2, f2, r1.tr r2⟩
theorem pX6_find {n s cs : Nat} {w : Nat → Nat → Nat} {v : Nat → Nat} {M : rm_M} (hW : WN cs w) (hV : WV cs v) (hs : s = 55 ∨ s = 58) (hn : n = 14 ∨ n = 33) (h17 : v 17 < 1000) (hS : SV M s v) (h0 : M.1 n 0 = nI cs) (hN : ∀ c, c < cs → M.1 (n + 15) c = nI (nr cs w c)) (hD : CD M n cs (fw w cs)) : ∃ M2, fX6_find n s M = some (nI (whr cs w v), M2) ∧ FR (fun q => q = 11) M M2 := by
  have hF := pn_F
  have h2 := hW.2.1
  have e2 : M.1 s 2 = nI (v 12) := hS.2.2 2 (by omega) (by omega)
  have e3 : M.1 s 3 = nI (v 13) := hS.2.2 3 (by omega) (by omega)
  have b12 := hV.2.2.1
  have b13 := hV.2.2.2.2.1
  have b15 := hV.2.2.2.2.2.2
  have hlb : 1 ≤ lvs v ∧ lvs v ≤ 9 := by
    unfold lvs
    split
    · rename_i c; exact b13 (by omega)
    · omega
  have key : ∀ d f i M1, i + d = lvs v → d < f → 1 ≤ i → FR (fun q => q = 11) M M1 → (∀ j, 1 ≤ j → j < i → M1.1 11 j = nI 0) → ∃ M2, fX6_find_L33 n s f (nI (lvs v)) (nI (inB cs w v)) (nI i) M1 = some (nI (whr cs w v), M2) ∧ FR (fun q => q = 11) M M2 := by
    intro d
    induction d with
    | zero =>
      intro f i M1 hi hf h1 r1 hz
      obtain ⟨f, rfl⟩ : ∃ z, f = z + 1 := ⟨f - 1, by omega⟩
      have e5 : M1.1 s 5 = nI (v 15) := (hS.fr r1 (by omega) (by omega) (by omega)).2.2 5 (by omega) (by omega)
      rw [fX6_find_L33, if_pos (by rw [nI_leI (by omega) (by omega)]; omega), pn_lit 0, if_pos (by decide), rm_lt1, pn_c0, e5, pn_lit 1, pn_lit 31, sh1 (by omega)]
      have r2 : FR (fun q => q = 11) M (rm_sI M1 11 0 (nI (2 ^ v 15))) := FR.sIr r1 rfl
      obtain ⟨M3, f3, r3⟩ := pX6_find_L71 hW hV rfl hlb.1 hlb.2 hs hn (by omega) (v 17) rm_F 0 1 (R0 v) _ (by omega) (by omega) (by omega) (fun j => itB_lt (w := w) b15 0 j) (fun q => by omega) (hS.fr r2 (by omega) (by omega) (by omega)) (by rw [(r2.1 n (by omega)).1]; exact h0) (fun c hc => by rw [(r2.1 _ (by omega)).1]; exact hN c hc) (fun j hj => by
        rw [pn_sI_eq]
        unfold R0
        by_cases e : j = 0
        · subst e; rw [pn_upd_eq, if_pos rfl]
        · rw [pn_upd_ne _ _ e, if_neg e]; exact hz j (by omega) (by omega))
      exact ⟨M3, f3, r2.tr r3⟩
    | succ d ih =>
      intro f i M1 hi hf h1 r1 hz
      obtain ⟨f, rfl⟩ : ∃ z, f = z + 1 := ⟨f - 1, by omega⟩
      rw [fX6_find_L33, if_neg (by rw [nI_leI (by omega) (by omega)]; omega), if_pos (by rw [pn_ib (by omega), decide_eq_true_eq]; omega), rm_lt1, nI_clamp (by omega), pn_lit 0, pn_lit 1, nI_add]
      refine ih f (i + 1) _ (by omega) (by omega) (by omega) (FR.sIr r1 rfl) (fun j hj hj2 => ?_)
      rw [pn_sI_eq]
      by_cases e : j = i
      · subst e; rw [pn_upd_eq]
      · rw [pn_upd_ne _ _ e]; exact hz j hj (by omega)
  have fin := key (lvs v - 1) rm_F 1 M (by omega) (by omega) (by omega) FR.rf (fun j h1 h2 => by omega)
  unfold fX6_find fX6_find_L21
  rw [e2, pn_lit 1, pX6_insideOf hW hS hV h0 hD, pn_bd, pn_bd, pn_lit 9, e3]
  by_cases k : v 12 = 1
  · have b := b13 (by omega)
    rw [if_pos (by rw [k]), if_neg (by rw [nI_ltI (by omega) (by omega)]; omega)]
    have : lvs v = v 13 := by unfold lvs; rw [if_pos k]
    rw [this] at fin
    exact fin
  · rw [if_neg (by rw [nI_eq (by omega) (by omega)]; exact k)]
    have : lvs v = 1 := by unfold lvs; rw [if_neg k]
    rw [this] at fin
    exact fin
