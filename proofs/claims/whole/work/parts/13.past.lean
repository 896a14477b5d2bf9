/-! ===== the last changes: the class' ring, the model's row ===== -/
def slot (nx hc i : Nat) : Nat := (nx + 6 - hc + i) % 6
def CP (M : rm_M) (hc nx : Nat) (hv : Nat → Nat → Nat) : Prop := M.1 4 2 = nI hc ∧ M.1 4 1 = nI nx ∧ hc ≤ 6 ∧ nx < 6 ∧ ∀ i, i < hc → SV M (5 + 56 + 3 * slot nx hc i) (hv i)
def MP (M : rm_M) (hc : Nat) (hv : Nat → Nat → Nat) : Prop := M.1 79 8 = nI hc ∧ ∀ i k, i < hc → k < 20 → M.1 84 (20 * i + k) = nI (hv i k)
/-- what is kept when v is kept -/
def kpN (hc : Nat) : Nat := if hc = 6 then 6 else hc + 1
def kpV (hc : Nat) (hv : Nat → Nat → Nat) (v : Nat → Nat) : Nat → Nat → Nat := fun i => if hc = 6 then (if i = 5 then v else hv (i + 1)) else (if i = hc then v else hv i)
theorem pX2_keep {M : rm_M} {s hc nx : Nat} {v : Nat → Nat} {hv : Nat → Nat → Nat} (hP : CP M hc nx hv) (h : SV M s v) (hs : s = 55 ∨ s = 58) :
    ∃ M2 nx2, fX2_keep s M = some M2 ∧ CP M2 (kpN hc) nx2 (kpV hc hv v) ∧ FR (fun q => q = 4 ∨ 61 ≤ q ∧ q < 79) M M2 := by
  obtain ⟨p1, p2, p3, p4, p5⟩ := hP
  obtain ⟨M1, f1, s1, r1⟩ := pX4_copyFrom (a0 := 5 + 56 + 3 * nx) h (by omega)
  have r1' : FR (fun q => q = 4 ∨ 61 ≤ q ∧ q < 79) M M1 := r1.mono (fun a ha => by omega)
  have q1 : M1.1 4 1 = nI nx := by rw [(r1.1 4 (by omega)).1]; exact p2
  have q2 : M1.1 4 2 = nI hc := by rw [(r1.1 4 (by omega)).1]; exact p1
  unfold fX2_keep
  simp (disch := omega) only [p2, pn_ib, nI_clamp, f1, pn_bv, q1, pn_lit, nI_add, nI_leI, decide_eq_true_eq]
  rw [if_pos p4]
  have tail : ∀ y, y < 6 → y = (nx + 1) % 6 → ∃ M2 nx2, fX2_keep_L35 s (nI y) M1 = some M2 ∧ CP M2 (kpN hc) nx2 (kpV hc hv v) ∧ FR (fun q => q = 4 ∨ 61 ≤ q ∧ q < 79) M M2 := by
    intro y hy hy2
    unfold fX2_keep_L35
    simp (disch := omega) only [rm_lt1, pn_sI_eq, pn_upd_ne, q2, pn_lit, nI_add, nI_ltI]
    have e : (if 6 < hc + 1 then nI 6 else nI (hc + 1)) = nI (kpN hc) := by
      unfold kpN
      by_cases c : hc = 6
      · rw [if_pos (by omega), if_pos c]
      · rw [if_neg (by omega), if_neg c]
    rw [e]
    have r2 : FR (fun q => q = 4) M1 (rm_sI (rm_sI M1 4 1 (nI y)) 4 2 (nI (kpN hc))) := FR.sIr (FR.sIr FR.rf rfl) rfl
    refine ⟨_, y, rfl, ⟨?_, ?_, ?_, hy, fun i hi => ?_⟩, r1'.tr (r2.mono (fun a ha => Or.inl ha))⟩
    · simp only [pn_sI_eq, pn_upd_eq]
    · simp (disch := omega) only [pn_sI_eq, pn_upd_eq, pn_upd_ne]
    · unfold kpN; split <;> omega
    · refine SV.fr ?_ r2 (by omega) (by omega) (by omega)
      unfold kpN at hi
      by_cases c : hc = 6
      · subst c
        rw [if_pos rfl] at hi
        have hk : kpN 6 = 6 := rfl
        rw [hk]
        unfold kpV
        rw [if_pos rfl]
        by_cases c5 : i = 5
        · rw [if_pos c5]
          have : slot y 6 i = nx := by unfold slot; omega
          rw [this]; exact s1
        · rw [if_neg c5]
          have e1 : slot y 6 i = slot nx 6 (i + 1) := by unfold slot; omega
          have e2 : slot nx 6 (i + 1) ≠ nx := by unfold slot; omega
          have e3 : slot nx 6 (i + 1) < 6 := by unfold slot; omega
          rw [e1]
          exact (p5 (i + 1) (by omega)).fr r1 (by omega) (by omega) (by omega)
      · rw [if_neg c] at hi
        have hk : kpN hc = hc + 1 := by unfold kpN; rw [if_neg c]
        rw [hk]
        unfold kpV
        rw [if_neg c]
        by_cases c5 : i = hc
        · rw [if_pos c5]
          have : slot y (hc + 1) i = nx := by unfold slot; omega
          rw [this]; exact s1
        · rw [if_neg c5]
          have e1 : slot y (hc + 1) i = slot nx hc i := by unfold slot; omega
          have e2 : slot nx hc i ≠ nx := by unfold slot; omega
          have e3 : slot nx hc i < 6 := by unfold slot; omega
          rw [e1]
          exact (p5 i (by omega)).fr r1 (by omega) (by omega) (by omega)
  by_cases c : 6 ≤ nx + 1
  · rw [if_pos c]
    exact tail 0 (by omega) (by omega)
  · rw [if_neg c]
    exact tail (nx + 1) (by omega) (by omega)
theorem pX2_bringBack_no {M : rm_M} {s nx : Nat} {hv : Nat → Nat → Nat} (hP : CP M 0 nx hv) : fX2_bringBack s M = some (nI 0, M) := by
  unfold fX2_bringBack
  simp only [hP.1, pn_lit, ↓reduceIte, pn_z0]
theorem pX2_bringBack {M : rm_M} {s hc nx : Nat} {hv : Nat → Nat → Nat} (hP : CP M (hc + 1) nx hv) (hs : s = 55 ∨ s = 58) :
    ∃ M2 nx2, fX2_bringBack s M = some (nI 1, M2) ∧ CP M2 hc nx2 hv ∧ SV M2 s (hv hc) ∧ FR (fun q => q = 4 ∨ q = s ∨ q = s + 1 ∨ q = s + 2) M M2 := by
  obtain ⟨p1, p2, p3, p4, p5⟩ := hP
  have tail : ∀ y, y < 6 → y = (nx + 5) % 6 → ∃ M2 nx2, fX2_bringBack_L27 s (nI y) M = some (nI 1, M2) ∧ CP M2 hc nx2 hv ∧ SV M2 s (hv hc) ∧ FR (fun q => q = 4 ∨ q = s ∨ q = s + 1 ∨ q = s + 2) M M2 := by
    intro y hy hy2
    unfold fX2_bringBack_L27
    simp (disch := omega) only [rm_lt1, pn_sI_eq, pn_upd_ne, pn_upd_eq, p1, pn_lit, pn_ib, nI_clamp, decide_eq_true_eq]
    rw [if_pos hy, pk_sub (by omega : 1 ≤ hc + 1), show hc + 1 - 1 = hc from rfl]
    have r2 : FR (fun q => q = 4) M (rm_sI (rm_sI M 4 1 (nI y)) 4 2 (nI hc)) := FR.sIr (FR.sIr FR.rf rfl) rfl
    have es : slot nx (hc + 1) hc = y := by unfold slot; omega
    have hsv := p5 hc (by omega)
    rw [es] at hsv
    obtain ⟨M1, f1, s1, r1⟩ := pX4_copyFrom (a0 := s) (hsv.fr r2 (by omega) (by omega) (by omega)) (by omega)
    rw [f1]
    simp only [pn_bv, pn_z1]
    refine ⟨M1, y, rfl, ⟨?_, ?_, by omega, hy, fun i hi => ?_⟩, s1, (r2.mono (fun a ha => Or.inl ha)).tr (r1.mono (fun a ha => Or.inr ha))⟩
    · rw [(r1.1 4 (by omega)).1]; simp only [pn_sI_eq, pn_upd_eq]
    · rw [(r1.1 4 (by omega)).1]; simp (disch := omega) only [pn_sI_eq, pn_upd_eq, pn_upd_ne]
    · have e1 : slot y hc i = slot nx (hc + 1) i := by unfold slot; omega
      have e3 : slot nx (hc + 1) i < 6 := by unfold slot; omega
      rw [e1]
      exact ((p5 i (by omega)).fr r2 (by omega) (by omega) (by omega)).fr r1 (by omega) (by omega) (by omega)
  unfold fX2_bringBack
  simp (disch := omega) only [p1, p2, pn_lit, nI_eq, nI_leI]
  rw [if_neg (by omega)]
  by_cases c : nx ≤ 0
  · rw [if_pos c]
    exact tail 5 (by omega) (by omega)
  · rw [if_neg c, pk_sub (by omega : 1 ≤ nx)]
    exact tail (nx - 1) (by omega) (by omega)
/-! the model's -/
theorem pX8_keeps_L50 {hc : Nat} (hh : hc ≤ 5) : ∀ d n i M, i + d = 20 → d < n → M.1 79 8 = nI hc → ∃ M2, fX8_keeps_L50 n (nI i) M = some M2 ∧ M2.1 79 = upd (M.1 79) 8 (nI (hc + 1)) ∧ (∀ k, i ≤ k → k < 20 → M2.1 84 (20 * hc + k) = M.1 83 k) ∧ (∀ k, k < 20 * hc + i ∨ 20 * hc + 20 ≤ k → M2.1 84 k = M.1 84 k) ∧ FR (fun q => q = 79 ∨ q = 84) M M2 := by
  intro d
  induction d with
  | zero =>
    intro n i M hi hn h8
    obtain ⟨n, rfl⟩ : ∃ k, n = k + 1 := ⟨n - 1, by omega⟩
    rw [fX8_keeps_L50]
    simp (disch := omega) only [rm_lt1, pn_lit, nI_leI, h8, nI_add]
    rw [if_pos (by omega)]
    refine ⟨_, rfl, ?_, fun k h1 h2 => by omega, fun k _ => ?_, FR.sI (Or.inl rfl)⟩
    · rw [pn_sI_eq]
    · rw [pn_sI_ne _ _ _ (by omega)]
  | succ d ih =>
    intro n i M hi hn h8
    obtain ⟨n, rfl⟩ : ∃ k, n = k + 1 := ⟨n - 1, by omega⟩
    rw [fX8_keeps_L50]
    simp (disch := omega) only [rm_lt1, pn_lit, nI_leI, h8, pk_mul, nI_add, pn_ib, nI_clamp, decide_eq_true_eq]
    rw [if_neg (by omega), if_pos (by omega), if_pos (by omega)]
    obtain ⟨M2, f2, a2, b2, c2, r2⟩ := ih n (i + 1) (rm_sI M 84 (20 * hc + i) (M.1 83 i)) (by omega) (by omega) (by rw [pn_sI_ne _ _ _ (by omega)]; exact h8)
    refine ⟨M2, f2, ?_, fun k h1 h2 => ?_, fun k hk => ?_, (FR.sI (Or.inr rfl)).tr r2⟩
    · rw [a2, pn_sI_ne _ _ _ (by omega)]
    · by_cases e : k = i
      · subst e
        rw [c2 _ (by omega), pn_sI_eq, pn_upd_eq]
      · rw [b2 k (by omega) h2, pn_sI_ne _ _ _ (by omega)]
    · rw [c2 k (by omega), pn_sI_eq, pn_upd_ne _ _ (by omega)]
theorem pX8_keeps_L11 : ∀ d n i M, i + d = 100 → d < n → M.1 79 8 = nI 6 → ∃ M1, fX8_keeps_L11 n (nI i) M = fX8_keeps_L48 M1 ∧ M1.1 79 = upd (M.1 79) 8 (nI 5) ∧ (∀ k, i ≤ k → k < 100 → M1.1 84 k = M.1 84 (k + 20)) ∧ (∀ k, k < i → M1.1 84 k = M.1 84 k) ∧ FR (fun q => q = 79 ∨ q = 84) M M1 := by
  intro d
  induction d with
  | zero =>
    intro n i M hi hn h8
    obtain ⟨n, rfl⟩ : ∃ k, n = k + 1 := ⟨n - 1, by omega⟩
    rw [fX8_keeps_L11]
    simp (disch := omega) only [rm_lt1, pn_lit, nI_leI, h8]
    rw [if_pos (by omega), pk_sub (by omega : 1 ≤ 6)]
    refine ⟨_, rfl, ?_, fun k h1 h2 => by omega, fun k _ => ?_, FR.sI (Or.inl rfl)⟩
    · rw [pn_sI_eq]
    · rw [pn_sI_ne _ _ _ (by omega)]
  | succ d ih =>
    intro n i M hi hn h8
    obtain ⟨n, rfl⟩ : ∃ k, n = k + 1 := ⟨n - 1, by omega⟩
    rw [fX8_keeps_L11]
    simp (disch := omega) only [rm_lt1, pn_lit, nI_leI, nI_add, pn_ib, nI_clamp, decide_eq_true_eq]
    rw [if_neg (by omega), if_pos (by omega), if_pos (by omega)]
    obtain ⟨M2, f2, a2, b2, c2, r2⟩ := ih n (i + 1) (rm_sI M 84 i (M.1 84 (i + 20))) (by omega) (by omega) (by rw [pn_sI_ne _ _ _ (by omega)]; exact h8)
    refine ⟨M2, f2, ?_, fun k h1 h2 => ?_, fun k hk => ?_, (FR.sI (Or.inr rfl)).tr r2⟩
    · rw [a2, pn_sI_ne _ _ _ (by omega)]
    · by_cases e : k = i
      · subst e
        rw [c2 _ (by omega), pn_sI_eq, pn_upd_eq]
      · rw [b2 k (by omega) h2, pn_sI_eq, pn_upd_ne _ _ (by omega)]
    · rw [c2 k (by omega), pn_sI_eq, pn_upd_ne _ _ (by omega)]
theorem pX8_keeps {M : rm_M} {hc : Nat} {v : Nat → Nat} {hv : Nat → Nat → Nat} (hP : MP M hc hv) (hh : hc ≤ 6) (h : MV M 83 v) :
    ∃ M2, fX8_keeps M = some M2 ∧ MP M2 (kpN hc) (kpV hc hv v) ∧ (∀ k, k ≠ 8 → M2.1 79 k = M.1 79 k) ∧ FR (fun q => q = 79 ∨ q = 84) M M2 := by
  obtain ⟨p1, p2⟩ := hP
  have hF := pn_F
  unfold fX8_keeps
  simp (disch := omega) only [p1, pn_lit, nI_eq]
  by_cases c : hc = 6
  · subst c
    rw [if_pos rfl]
    obtain ⟨M1, f1, a1, b1, c1, r1⟩ := pX8_keeps_L11 100 rm_F 0 M (by omega) (by omega) p1
    rw [f1, fX8_keeps_L48]
    obtain ⟨M2, f2, a2, b2, c2, r2⟩ := pX8_keeps_L50 (hc := 5) (by omega) 20 rm_F 0 M1 (by omega) (by omega) (by rw [a1, pn_upd_eq])
    refine ⟨M2, f2, ⟨?_, fun i k hi hk => ?_⟩, fun k hk => ?_, r1.tr r2⟩
    · rw [a2, pn_upd_eq]; rfl
    · unfold kpV
      have hi : i < 6 := hi
      rw [if_pos rfl]
      by_cases c5 : i = 5
      · subst c5
        rw [if_pos rfl, b2 k (by omega) hk, (r1.1 83 (by omega)).1, h k hk]
      · rw [if_neg c5, c2 _ (by omega), b1 _ (by omega) (by omega), show 20 * i + k + 20 = 20 * (i + 1) + k by omega, p2 (i + 1) k (by omega) hk]
    · rw [a2, pn_upd_ne _ _ hk, a1, pn_upd_ne _ _ hk]
  · rw [if_neg c, fX8_keeps_L48]
    obtain ⟨M2, f2, a2, b2, c2, r2⟩ := pX8_keeps_L50 (hc := hc) (by omega) 20 rm_F 0 M (by omega) (by omega) p1
    refine ⟨M2, f2, ⟨?_, fun i k hi hk => ?_⟩, fun k hk => ?_, r2⟩
    · rw [a2, pn_upd_eq]; unfold kpN; rw [if_neg c]
    · unfold kpN at hi
      rw [if_neg c] at hi
      unfold kpV
      rw [if_neg c]
      by_cases c5 : i = hc
      · subst c5
        rw [if_pos rfl, b2 k (by omega) hk, h k hk]
      · rw [if_neg c5, c2 _ (by omega), p2 i k (by omega) hk]
    · rw [a2, pn_upd_ne _ _ hk]
theorem pX8_undo_no {M : rm_M} {hv : Nat → Nat → Nat} (hP : MP M 0 hv) : fX8_undo M = some (-2, M) := by
  unfold fX8_undo
  simp only [hP.1, pn_lit, ↓reduceIte]
theorem pX8_undo_L22 {hc : Nat} (hh : hc ≤ 5) : ∀ d n i M, i + d = 20 → d < n → M.1 79 8 = nI hc → ∃ M2, fX8_undo_L22 n (nI i) M = some (nI hc, M2) ∧ (∀ k, i ≤ k → k < 20 → M2.1 83 k = M.1 84 (20 * hc + k)) ∧ (∀ k, k < i → M2.1 83 k = M.1 83 k) ∧ FR (fun q => q = 83) M M2 := by
  intro d
  induction d with
  | zero =>
    intro n i M hi hn h8
    obtain ⟨n, rfl⟩ : ∃ k, n = k + 1 := ⟨n - 1, by omega⟩
    rw [fX8_undo_L22]
    simp (disch := omega) only [pn_lit, nI_leI, h8]
    rw [if_pos (by omega)]
    exact ⟨M, rfl, fun k h1 h2 => by omega, fun k _ => rfl, FR.rf⟩
  | succ d ih =>
    intro n i M hi hn h8
    obtain ⟨n, rfl⟩ : ∃ k, n = k + 1 := ⟨n - 1, by omega⟩
    rw [fX8_undo_L22]
    simp (disch := omega) only [rm_lt1, pn_lit, nI_leI, h8, pk_mul, nI_add, pn_ib, nI_clamp, decide_eq_true_eq]
    rw [if_neg (by omega), if_pos (by omega), if_pos (by omega)]
    obtain ⟨M2, f2, b2, c2, r2⟩ := ih n (i + 1) (rm_sI M 83 i (M.1 84 (20 * hc + i))) (by omega) (by omega) (by rw [pn_sI_ne _ _ _ (by omega)]; exact h8)
    refine ⟨M2, f2, fun k h1 h2 => ?_, fun k hk => ?_, FR.tr (S := fun q => q = 83) (FR.sI rfl) r2⟩
    · by_cases e : k = i
      · subst e
        rw [c2 _ (by omega), pn_sI_eq, pn_upd_eq]
      · rw [b2 k (by omega) h2, pn_sI_ne _ _ _ (by omega)]
    · rw [c2 k (by omega), pn_sI_eq, pn_upd_ne _ _ (by omega)]
theorem pX8_undo {M : rm_M} {hc : Nat} {hv : Nat → Nat → Nat} (hP : MP M (hc + 1) hv) (hh : hc ≤ 5) :
    ∃ M2, fX8_undo M = some (nI hc, M2) ∧ MP M2 hc hv ∧ MV M2 83 (hv hc) ∧ (∀ k, k ≠ 8 → M2.1 79 k = M.1 79 k) ∧ FR (fun q => q = 79 ∨ q = 83) M M2 := by
  obtain ⟨p1, p2⟩ := hP
  have hF := pn_F
  unfold fX8_undo
  simp (disch := omega) only [p1, pn_lit, nI_eq, rm_lt1]
  rw [if_neg (by omega), pk_sub (by omega : 1 ≤ hc + 1), show hc + 1 - 1 = hc from rfl]
  obtain ⟨M2, f2, b2, c2, r2⟩ := pX8_undo_L22 hh 20 rm_F 0 (rm_sI M 79 8 (nI hc)) (by omega) (by omega) (by rw [pn_sI_eq, pn_upd_eq])
  refine ⟨M2, f2, ⟨?_, fun i k hi hk => ?_⟩, fun k hk => ?_, fun k hk => ?_, (FR.sI (Or.inl rfl)).tr (r2.mono (fun a ha => Or.inr ha))⟩
  · rw [(r2.1 79 (by omega)).1, pn_sI_eq, pn_upd_eq]
  · rw [(r2.1 84 (by omega)).1, pn_sI_ne _ _ _ (by omega), p2 i k (by omega) hk]
  · rw [b2 k (by omega) hk, pn_sI_ne _ _ _ (by omega), p2 hc k (by omega) hk]
  · rw [(r2.1 79 (by omega)).1, pn_sI_eq, pn_upd_ne _ _ hk]
