/-! ===== small questions ===== -/
theorem pn_ltT (a b : Int32) : a < b ↔ a.toInt < b.toInt := Int32.lt_iff_toInt_lt
theorem pn_leT (a b : Int32) : a ≤ b ↔ a.toInt ≤ b.toInt := Int32.le_iff_toInt_le
theorem pX7_isCell_no {M : rm_M} {n cs : Nat} {a : Int32} (h6 : M.2.2 6 = n) (hn : n = 14 ∨ n = 33) (hcs : M.1 n 0 = nI cs) (h : a < 0 ∨ nI cs ≤ a) : fX7_isCell a M = some (nI 0, M) := by
  unfold fX7_isCell
  simp only [rm_lt1, h6, pn_net hn, hcs, ↓reduceIte]
  by_cases h1 : a < 0
  · rw [if_pos h1]; rfl
  · rw [if_neg h1, if_pos (h.resolve_left h1)]; rfl
theorem pX7_isCell_yes {M : rm_M} {n cs k : Nat} (h6 : M.2.2 6 = n) (hn : n = 14 ∨ n = 33) (hcs : M.1 n 0 = nI cs) (hb : cs ≤ 6) (h : k < cs) : fX7_isCell (nI k) M = some (nI 1, M) := by
  unfold fX7_isCell
  simp only [rm_lt1, h6, pn_net hn, hcs, ↓reduceIte]
  rw [if_neg (nI_pos (by omega)), if_neg (nI_ge h (by omega))]
  rfl
theorem pX8_isCell_no {M : rm_M} {cs : Nat} {a : Int32} (hcs : M.1 79 2 = nI cs) (hb : cs ≤ 6) (h0 : 0 < cs) (h : a < 0 ∨ nI cs ≤ a) : fX8_isCell a M = some (nI 0, M) := by
  unfold fX8_isCell fX8_isIn
  simp only [hcs, pn_lit]
  rw [pk_sub (by omega : 1 ≤ cs)]
  by_cases h1 : a < nI 0
  · rw [if_pos h1]; rfl
  · rw [if_neg h1, if_pos]
    · rfl
    · have h2 := h.resolve_left h1
      rw [pn_leT, nI_toInt (by omega)] at h2
      rw [pn_ltT, nI_toInt (by omega)]
      omega
theorem pX8_isCell_yes {M : rm_M} {cs k : Nat} (hcs : M.1 79 2 = nI cs) (hb : cs ≤ 6) (h : k < cs) : fX8_isCell (nI k) M = some (nI 1, M) := by
  unfold fX8_isCell fX8_isIn
  simp only [hcs, pn_lit]
  rw [pk_sub (by omega : 1 ≤ cs), if_neg (by rw [nI_ltI (by omega) (by omega)]; omega), if_neg (by rw [nI_ltI (by omega) (by omega)]; omega)]
  rfl
/-! text: write, wipe -/
/-- what a letter does: 0 it is BAD, 1 FULL, 2 it comes -/
def wk (a : Int32) (tl : Nat) : Nat := if a < nI 32 ∨ nI 126 < a then 0 else if tl = 200 then 1 else 2
def wr (a : Int32) (tl : Nat) : Int32 := if wk a tl = 0 then -nI 1 else if wk a tl = 1 then -nI 3 else nI (tl + 1)
theorem pX7_write {M : rm_M} {tl : Nat} {tx : Nat → Nat} (h1 : M.1 1 3 = nI tl) (h2 : ∀ k, k < tl → M.1 2 k = nI (tx k)) (hl : tl ≤ 200) (a : Int32) :
    ∃ M2, fX7_write a M = some (wr a tl, M2) ∧ FR (fun q => q = 1 ∨ q = 2) M M2 ∧ (wk a tl ≠ 2 → M2 = M) ∧ (wk a tl = 2 → M2.1 1 3 = nI (tl + 1) ∧ (∀ k, k < tl → M2.1 2 k = nI (tx k)) ∧ M2.1 2 tl = a) := by
  unfold fX7_write fX5_append
  simp only [pn_lit, h1]
  by_cases c1 : a < nI 32
  · have hk : wk a tl = 0 := by unfold wk; rw [if_pos (Or.inl c1)]
    refine ⟨M, ?_, FR.rf, fun _ => rfl, fun q => by omega⟩
    rw [if_pos c1, wr, if_pos hk]
  · by_cases c2 : a ≤ nI 126
    · have c3 : ¬ nI 126 < a := fun q => by rw [pn_leT] at c2; rw [pn_ltT] at q; omega
      rw [if_neg c1, if_pos c2]
      by_cases c4 : tl = 200
      · have hk : wk a tl = 1 := by unfold wk; rw [if_neg (not_or.mpr ⟨c1, c3⟩), if_pos c4]
        subst c4
        refine ⟨M, ?_, FR.rf, fun _ => rfl, fun q => by omega⟩
        rw [if_neg (by rw [nI_ltI (by omega) (by omega)]; omega), wr, hk]
        rfl
      · have hk : wk a tl = 2 := by unfold wk; rw [if_neg (not_or.mpr ⟨c1, c3⟩), if_neg c4]
        rw [if_pos (by rw [nI_ltI (by omega) (by omega)]; omega)]
        simp (disch := omega) only [pn_ib, nI_clamp, rm_lt1, decide_eq_true_eq]
        rw [if_pos (by omega)]
        refine ⟨rm_sI (rm_sI M 2 tl a) 1 3 (nI (tl + 1)), ?_, (FR.sI (Or.inr rfl)).tr (FR.sI (Or.inl rfl)), fun q => absurd hk q, fun _ => ⟨?_, fun k hk => ?_, ?_⟩⟩
        · simp (disch := omega) only [pn_sI_ne, h1, nI_add, pn_z1, pn_bd, nI_eq]
          rw [if_neg (by omega), pn_sI_eq, pn_upd_eq, wr, hk]
          rfl
        · rw [pn_sI_eq, pn_upd_eq]
        · rw [pn_sI_ne _ _ _ (by decide), pn_sI_eq, pn_upd_ne _ _ (by omega), h2 k hk]
        · rw [pn_sI_ne _ _ _ (by decide), pn_sI_eq, pn_upd_eq]
    · have c3 : nI 126 < a := by rw [pn_leT] at c2; rw [pn_ltT]; omega
      have hk : wk a tl = 0 := by unfold wk; rw [if_pos (Or.inr c3)]
      refine ⟨M, ?_, FR.rf, fun _ => rfl, fun q => by omega⟩
      rw [if_neg c1, if_neg c2, wr, if_pos hk]
theorem pX8_write {M : rm_M} {tl : Nat} {tx : Nat → Nat} (h1 : M.1 79 0 = nI tl) (h2 : ∀ k, k < tl → M.1 80 k = nI (tx k)) (hl : tl ≤ 200) (a : Int32) :
    ∃ M2, fX8_write a M = some (wr a tl, M2) ∧ FR (fun q => q = 79 ∨ q = 80) M M2 ∧ (wk a tl ≠ 2 → M2 = M) ∧ (wk a tl = 2 → M2.1 79 0 = nI (tl + 1) ∧ (∀ k, k ≠ 0 → M2.1 79 k = M.1 79 k) ∧ (∀ k, k < tl → M2.1 80 k = nI (tx k)) ∧ M2.1 80 tl = a) := by
  unfold fX8_write
  simp only [pn_lit, h1]
  by_cases c1 : a < nI 32
  · have hk : wk a tl = 0 := by unfold wk; rw [if_pos (Or.inl c1)]
    refine ⟨M, ?_, FR.rf, fun _ => rfl, fun q => by omega⟩
    rw [if_pos c1, wr, if_pos hk]
  · by_cases c2 : a ≤ nI 126
    · have c3 : ¬ nI 126 < a := fun q => by rw [pn_leT] at c2; rw [pn_ltT] at q; omega
      rw [if_neg c1, if_pos c2]
      by_cases c4 : tl = 200
      · have hk : wk a tl = 1 := by unfold wk; rw [if_neg (not_or.mpr ⟨c1, c3⟩), if_pos c4]
        subst c4
        refine ⟨M, ?_, FR.rf, fun _ => rfl, fun q => by omega⟩
        rw [if_pos rfl, wr, hk]
        rfl
      · have hk : wk a tl = 2 := by unfold wk; rw [if_neg (not_or.mpr ⟨c1, c3⟩), if_neg c4]
        rw [if_neg (by rw [nI_eq (by omega) (by omega)]; omega)]
        simp (disch := omega) only [pn_ib, nI_clamp, rm_lt1, decide_eq_true_eq]
        rw [if_pos (by omega)]
        refine ⟨rm_sI (rm_sI M 80 tl a) 79 0 (nI (tl + 1)), ?_, (FR.sI (Or.inr rfl)).tr (FR.sI (Or.inl rfl)), fun q => absurd hk q, fun _ => ⟨?_, fun k hk => ?_, fun k hk => ?_, ?_⟩⟩
        · simp (disch := omega) only [pn_sI_ne, h1, nI_add]
          rw [pn_sI_eq, pn_upd_eq, wr, hk]
          rfl
        · rw [pn_sI_eq, pn_upd_eq]
        · rw [pn_sI_eq, pn_upd_ne _ _ hk, pn_sI_ne _ _ _ (by decide)]
        · rw [pn_sI_ne _ _ _ (by decide), pn_sI_eq, pn_upd_ne _ _ (by omega), h2 k hk]
        · rw [pn_sI_ne _ _ _ (by decide), pn_sI_eq, pn_upd_eq]
    · have c3 : nI 126 < a := by rw [pn_leT] at c2; rw [pn_ltT]; omega
      have hk : wk a tl = 0 := by unfold wk; rw [if_pos (Or.inr c3)]
      refine ⟨M, ?_, FR.rf, fun _ => rfl, fun q => by omega⟩
      rw [if_neg c1, if_neg c2, wr, if_pos hk]
