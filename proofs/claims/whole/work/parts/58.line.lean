/-! ===== the row of cells, by chances ===== -/
def insr (a : Nat → Int) (c : Nat) : Nat → (Nat → Nat) → Nat → Nat
  | 0, r => vu r 0 c
  | p + 1, r => if a (r p) < a c then insr a c p (vu r (p + 1) (r p)) else vu r (p + 1) c
def lin (a : Nat → Int) (S : Nat) : Nat → Nat → Nat → (Nat → Nat) → Nat × (Nat → Nat)
  | 0, _, L, r => (L, r)
  | d + 1, i, L, r => if S.testBit i then lin a S d (i + 1) (L + 1) (insr a i L r) else lin a S d (i + 1) L r
theorem insr_at (a : Nat → Int) (c : Nat) : ∀ p r, ∃ q, q ≤ p ∧ ∀ j, insr a c p r j = if j < q then r j else if j = q then c else if j ≤ p then r (j - 1) else r j := by
  intro p
  induction p with
  | zero =>
    intro r
    refine ⟨0, Nat.le_refl _, fun j => ?_⟩
    rw [insr]
    unfold vu
    by_cases e : j = 0
    · subst e; simp
    · rw [if_neg e, if_neg (by omega), if_neg e, if_neg (by omega)]
  | succ p ih =>
    intro r
    rw [insr]
    by_cases c1 : a (r p) < a c
    · rw [if_pos c1]
      obtain ⟨q, hq, h⟩ := ih (vu r (p + 1) (r p))
      refine ⟨q, by omega, fun j => ?_⟩
      rw [h j]
      unfold vu
      by_cases e1 : j < q
      · rw [if_pos e1, if_pos e1, if_neg (by omega)]
      · rw [if_neg e1, if_neg e1]
        by_cases e2 : j = q
        · rw [if_pos e2, if_pos e2]
        · rw [if_neg e2, if_neg e2]
          by_cases e3 : j ≤ p
          · rw [if_pos e3, if_neg (show ¬ j - 1 = p + 1 by omega), if_pos (show j ≤ p + 1 by omega)]
          · rw [if_neg e3]
            by_cases e4 : j = p + 1
            · rw [if_pos e4, if_pos (by omega), show j - 1 = p by omega]
            · rw [if_neg e4, if_neg (by omega)]
    · rw [if_neg c1]
      refine ⟨p + 1, Nat.le_refl _, fun j => ?_⟩
      unfold vu
      by_cases e : j = p + 1
      · rw [if_pos e, if_neg (by omega), if_pos e]
      · rw [if_neg e]
        by_cases e1 : j < p + 1
        · rw [if_pos e1]
        · rw [if_neg e1, if_neg e, if_neg (by omega)]
/-- a row of L cells below i, all those of S -/
def RowOk (S i L : Nat) (r : Nat → Nat) : Prop := L ≤ i ∧ (∀ j, j < L → r j < i ∧ S.testBit (r j) = true) ∧ (∀ j k, j < L → k < L → r j = r k → j = k) ∧ ∀ c, c < i → S.testBit c = true → ∃ j, j < L ∧ r j = c
theorem RowOk.ins {S i L : Nat} {r : Nat → Nat} (a : Nat → Int) (h : RowOk S i L r) (hi : S.testBit i = true) : RowOk S (i + 1) (L + 1) (insr a i L r) := by
  obtain ⟨h0, h1, h2, h3⟩ := h
  obtain ⟨q, hq, hr⟩ := insr_at a i L r
  have hv : ∀ j, j < L + 1 → (j < q ∧ insr a i L r j = r j) ∨ (j = q ∧ insr a i L r j = i) ∨ (q < j ∧ insr a i L r j = r (j - 1)) := by
    intro j hj
    rw [hr j]
    by_cases e1 : j < q
    · rw [if_pos e1]; exact Or.inl ⟨e1, rfl⟩
    · rw [if_neg e1]
      by_cases e2 : j = q
      · rw [if_pos e2]; exact Or.inr (Or.inl ⟨e2, rfl⟩)
      · rw [if_neg e2, if_pos (by omega)]; exact Or.inr (Or.inr ⟨by omega, rfl⟩)
  refine ⟨by omega, fun j hj => ?_, fun j k hj hk e => ?_, fun c hc hs => ?_⟩
  · rcases hv j hj with ⟨a1, a2⟩ | ⟨a1, a2⟩ | ⟨a1, a2⟩
    · rw [a2]; have := h1 j (by omega); exact ⟨by omega, this.2⟩
    · rw [a2]; exact ⟨by omega, hi⟩
    · rw [a2]; have := h1 (j - 1) (by omega); exact ⟨by omega, this.2⟩
  · rcases hv j hj with ⟨a1, a2⟩ | ⟨a1, a2⟩ | ⟨a1, a2⟩ <;> rcases hv k hk with ⟨b1, b2⟩ | ⟨b1, b2⟩ | ⟨b1, b2⟩ <;> rw [a2, b2] at e
    · exact h2 j k (by omega) (by omega) e
    · have := (h1 j (by omega)).1; omega
    · have := h2 j (k - 1) (by omega) (by omega) e; omega
    · have := (h1 k (by omega)).1; omega
    · omega
    · have := (h1 (k - 1) (by omega)).1; omega
    · have := h2 (j - 1) k (by omega) (by omega) e; omega
    · have := (h1 (j - 1) (by omega)).1; omega
    · have := h2 (j - 1) (k - 1) (by omega) (by omega) e; omega
  · by_cases e : c = i
    · subst e
      refine ⟨q, by omega, ?_⟩
      rw [hr q, if_neg (by omega), if_pos rfl]
    · obtain ⟨j, hj, e2⟩ := h3 c (by omega) hs
      by_cases e1 : j < q
      · exact ⟨j, by omega, by rw [hr j, if_pos e1]; exact e2⟩
      · exact ⟨j + 1, by omega, by rw [hr (j + 1), if_neg (by omega), if_neg (by omega), if_pos (by omega), Nat.add_sub_cancel]; exact e2⟩
theorem RowOk.skip {S i L : Nat} {r : Nat → Nat} (h : RowOk S i L r) (hi : ¬ S.testBit i = true) : RowOk S (i + 1) L r := by
  obtain ⟨h0, h1, h2, h3⟩ := h
  refine ⟨by omega, fun j hj => ⟨by have := (h1 j hj).1; omega, (h1 j hj).2⟩, h2, fun c hc hs => ?_⟩
  by_cases e : c = i
  · subst e; exact absurd hs hi
  · exact h3 c (by omega) hs
theorem lin_ok (a : Nat → Int) (S : Nat) : ∀ d i L r, RowOk S i L r → RowOk S (i + d) (lin a S d i L r).1 (lin a S d i L r).2 := by
  intro d
  induction d with
  | zero => intro i L r h; exact h
  | succ d ih =>
    intro i L r h
    rw [lin]
    by_cases c : S.testBit i = true
    · rw [if_pos c, show i + (d + 1) = i + 1 + d by omega]; exact ih _ _ _ (h.ins a c)
    · rw [if_neg c, show i + (d + 1) = i + 1 + d by omega]; exact ih _ _ _ (h.skip c)
theorem lin_no (a : Nat → Int) (S : Nat) : ∀ d i L r, (∀ j, i ≤ j → ¬ S.testBit j = true) → lin a S d i L r = (L, r) := by
  intro d
  induction d with
  | zero => intro i L r _; rfl
  | succ d ih => intro i L r h; rw [lin, if_neg (h i (Nat.le_refl _))]; exact ih _ _ _ (fun j hj => h j (by omega))
theorem lin_app (a : Nat → Int) (S : Nat) : ∀ d e i L r, lin a S (d + e) i L r = lin a S e (i + d) (lin a S d i L r).1 (lin a S d i L r).2 := by
  intro d
  induction d with
  | zero => intro e i L r; rw [Nat.zero_add]; rfl
  | succ d ih =>
    intro e i L r
    rw [show d + 1 + e = (d + e) + 1 by omega, lin, lin]
    by_cases c : S.testBit i = true
    · rw [if_pos c, if_pos c, ih, show i + 1 + d = i + (d + 1) by omega]
    · rw [if_neg c, if_neg c, ih, show i + 1 + d = i + (d + 1) by omega]
theorem lin_6 (a : Nat → Int) {S cs : Nat} (hS : S < 2 ^ cs) (hcs : cs ≤ 6) (r : Nat → Nat) : lin a S 6 0 0 r = lin a S cs 0 0 r := by
  rw [show (6 : Nat) = cs + (6 - cs) by omega, lin_app, lin_no a S]
  intro j hj q
  have := Nat.ge_two_pow_of_testBit q
  have h2 : 2 ^ cs ≤ 2 ^ j := Nat.pow_le_pow_right (by decide) (by omega)
  omega
/-! rows that begin otherwise come out alike -/
theorem insr_cong {a : Nat → Int} {c : Nat} : ∀ p r r2, (∀ j, j < p → r2 j = r j) → ∀ j, j < p + 1 → insr a c p r2 j = insr a c p r j := by
  intro p
  induction p with
  | zero => intro r r2 _ j hj; rw [insr, insr, show j = 0 by omega, vu_eq, vu_eq]
  | succ p ih =>
    intro r r2 h j hj
    rw [insr, insr, h p (by omega)]
    by_cases c1 : a (r p) < a c
    · rw [if_pos c1, if_pos c1]
      by_cases e : j = p + 1
      · obtain ⟨q, hq, hr⟩ := insr_at a c p (vu r (p + 1) (r p))
        obtain ⟨q2, hq2, hr2⟩ := insr_at a c p (vu r2 (p + 1) (r p))
        rw [hr j, hr2 j, e, if_neg (by omega), if_neg (by omega), if_neg (by omega), if_neg (by omega), if_neg (by omega), if_neg (by omega), vu_eq, vu_eq]
      · refine ih _ _ (fun k hk => ?_) j (by omega)
        rw [vu_ne _ _ (by omega), vu_ne _ _ (by omega)]
        exact h k (by omega)
    · rw [if_neg c1, if_neg c1]
      by_cases e : j = p + 1
      · rw [e, vu_eq, vu_eq]
      · rw [vu_ne _ _ e, vu_ne _ _ e]; exact h j (by omega)
theorem lin_cong {a : Nat → Int} {S : Nat} : ∀ d i L r r2, (∀ j, j < L → r2 j = r j) → (lin a S d i L r2).1 = (lin a S d i L r).1 ∧ ∀ j, j < (lin a S d i L r).1 → (lin a S d i L r2).2 j = (lin a S d i L r).2 j := by
  intro d
  induction d with
  | zero => intro i L r r2 h; exact ⟨rfl, h⟩
  | succ d ih =>
    intro i L r r2 h
    rw [lin, lin]
    by_cases c : S.testBit i = true
    · rw [if_pos c, if_pos c]; exact ih _ _ _ _ (insr_cong L r r2 h)
    · rw [if_neg c, if_neg c]; exact ih _ _ _ _ h
theorem lgc2 (x y : Int64) : (0 : Int32) ≤ lg_cmp x y ↔ ¬ x < y := lgc x y
theorem kd7 : (rm_kd 7).2 = 6 := rfl
theorem m1_dx (p : Nat) : nI (p + 1) + (-1 : Int32) = nI p := pk_m1 p
/-! the class -/
theorem pX3_lineUp_L27 {cs c : Nat} {a : Nat → Int} (ha : ∀ c, c < cs → 0 ≤ a c ∧ a c < 2 ^ 62) (hcs : cs ≤ 6) (hc : c < cs) (a1 : Int32) (q7 : Int32 → rm_M → Option rm_M) : ∀ p f r M L, p ≤ L → L < 6 → p < f → M.1 12 1 = nI L → (∀ j, j < L + 1 → (j < p ∨ p < j) → M.1 13 j = nI (r j)) → (∀ j, j < p → r j < cs) → (∀ c, c < cs → M.2.1 7 c = J (a c)) →
    ∃ M2, fX3_lineUp_L27 a1 7 q7 f (nI c) (nI p) M = q7 (nI (c + 1)) M2 ∧ M2.1 12 1 = nI (L + 1) ∧ (∀ j, j < L + 1 → M2.1 13 j = nI (insr a c p r j)) ∧ FR (fun q => q = 12 ∨ q = 13) M M2 := by
  have put : ∀ p r M L, p ≤ L → L < 6 → M.1 12 1 = nI L → (∀ j, j < L + 1 → (j < p ∨ p < j) → M.1 13 j = nI (r j)) → ∃ M2, fX3_lineUp_L72 a1 7 q7 (nI c) (nI p) M = q7 (nI (c + 1)) M2 ∧ M2.1 12 1 = nI (L + 1) ∧ (∀ j, j < L + 1 → M2.1 13 j = nI (vu r p c j)) ∧ FR (fun q => q = 12 ∨ q = 13) M M2 := by
    intro p r M L hp hL h12 h13
    refine ⟨rm_sI (rm_sI M 13 p (nI c)) 12 1 (nI (L + 1)), ?_, ?_, fun j hj => ?_, FR.sIr (FR.sIr FR.rf (Or.inr rfl)) (Or.inl rfl)⟩
    · unfold fX3_lineUp_L72 fX3_lineUp_L90
      rw [if_pos (by rw [pn_ib (by omega), decide_eq_true_eq]; omega), rm_lt1, nI_clamp (by omega), rm_lt1, pn_sI_ne _ _ _ (by omega), h12, pn_lit 1, nI_add, nI_add]
    · rw [pn_sI_eq, pn_upd_eq]
    · rw [pn_sI_ne _ _ _ (by omega), pn_sI_eq]
      by_cases e : j = p
      · subst e; rw [pn_upd_eq, vu_eq]
      · rw [pn_upd_ne _ _ e, vu_ne _ _ e]; exact h13 j hj (by omega)
  intro p
  induction p with
  | zero =>
    intro f r M L hp hL hf h12 h13 hr h7
    obtain ⟨f, rfl⟩ : ∃ z, f = z + 1 := ⟨f - 1, by omega⟩
    rw [fX3_lineUp_L27, pn_lit 0, if_pos (by rw [nI_leI (by omega) (by omega)]; omega)]
    exact put 0 r M L hp hL h12 h13
  | succ p ih =>
    intro f r M L hp hL hf h12 h13 hr h7
    obtain ⟨f, rfl⟩ : ∃ z, f = z + 1 := ⟨f - 1, by omega⟩
    have hrp := hr p (by omega)
    have hib : rm_ib (nI p) 6 = true := by rw [pn_ib (by omega), decide_eq_true_eq]; omega
    have hib2 : rm_ib (nI (p + 1)) 6 = true := by rw [pn_ib (by omega), decide_eq_true_eq]; omega
    have b1 := ha (r p) hrp
    have b2 := ha c hc
    rw [fX3_lineUp_L27, if_neg (by rw [pn_lit 0, nI_leI (by omega) (by omega)]; omega), pn_lit 1, pk_sub (by omega), Nat.add_sub_cancel, if_pos hib, nI_clamp (by omega), h13 p (by omega) (by omega), kd7, if_pos (by rw [pn_ib (by omega), decide_eq_true_eq]; omega), if_pos (by rw [pn_ib (by omega), decide_eq_true_eq]; omega), nI_clamp (by omega), nI_clamp (by omega), h7 (r p) hrp, h7 c hc, if_pos hib, if_pos hib2, nI_clamp (by omega), rm_lt1, insr]
    by_cases e : a (r p) < a c
    · rw [if_neg (fun q => (lgc2 _ _).mp q ((J_lt (by omega) (by omega) (by omega) (by omega)).mpr e)), if_pos e, show nI (p + 1) + -nI 1 = nI p from pk_m1 p]
      have r1 : FR (fun q => q = 12 ∨ q = 13) M (rm_sI M 13 (p + 1) (nI (r p))) := FR.sI (Or.inr rfl)
      obtain ⟨M2, f2, g1, g2, r2⟩ := ih f (vu r (p + 1) (r p)) (rm_sI M 13 (p + 1) (nI (r p))) L (by omega) hL (by omega) (by rw [pn_sI_ne _ _ _ (by omega)]; exact h12) (fun j hj hj2 => by
        rw [pn_sI_eq]
        by_cases e2 : j = p + 1
        · subst e2; rw [pn_upd_eq, vu_eq]
        · rw [pn_upd_ne _ _ e2, vu_ne _ _ e2]; exact h13 j hj (by omega)) (fun j hj => by rw [vu_ne _ _ (by omega)]; exact hr j (by omega)) (fun c hc => by rw [pn_sI2]; exact h7 c hc)
      exact ⟨M2, f2, g1, g2, r1.tr r2⟩
    · rw [if_pos ((lgc2 _ _).mpr (fun q => e ((J_lt (by omega) (by omega) (by omega) (by omega)).mp q))), if_neg e]
      exact put (p + 1) r M L hp hL h12 h13
theorem pX3_lineUp {cs S : Nat} {a : Nat → Int} (ha : ∀ c, c < cs → 0 ≤ a c ∧ a c < 2 ^ 62) (hcs : cs ≤ 6) (hS : S < 2 ^ cs) {M : rm_M} (h7 : ∀ c, c < cs → M.2.1 7 c = J (a c)) :
    ∃ M2, fX3_lineUp (nI S) 7 M = some M2 ∧ M2.1 12 1 = nI (lin a S cs 0 0 (fun _ => 0)).1 ∧ (∀ j, j < (lin a S cs 0 0 (fun _ => 0)).1 → M2.1 13 j = nI ((lin a S cs 0 0 (fun _ => 0)).2 j)) ∧ FR (fun q => q = 12 ∨ q = 13) M M2 := by
  have hF := pn_F
  have hS6 := b31 hS hcs
  have hbit : ∀ j, cs ≤ j → ¬ S.testBit j = true := by
    intro j hj q
    have := Nat.ge_two_pow_of_testBit q
    have h2 : 2 ^ cs ≤ 2 ^ j := Nat.pow_le_pow_right (by decide) hj
    omega
  have key : ∀ d f i L r M, i + d = 6 → d < f → RowOk S i L r → (∀ c, c < cs → M.2.1 7 c = J (a c)) → M.1 12 1 = nI L → (∀ j, j < L → M.1 13 j = nI (r j)) → ∃ M2, fX3_lineUp_L7 (nI S) 7 f (nI i) M = some M2 ∧ M2.1 12 1 = nI (lin a S d i L r).1 ∧ (∀ j, j < (lin a S d i L r).1 → M2.1 13 j = nI ((lin a S d i L r).2 j)) ∧ FR (fun q => q = 12 ∨ q = 13) M M2 := by
    intro d
    induction d with
    | zero =>
      intro f i L r M hi hf hR h7 h12 h13
      obtain ⟨f, rfl⟩ : ∃ z, f = z + 1 := ⟨f - 1, by omega⟩
      rw [fX3_lineUp_L7, pn_lit 6, if_pos (by rw [nI_leI (by omega) (by omega)]; omega)]
      exact ⟨M, rfl, h12, h13, FR.rf⟩
    | succ d ih =>
      intro f i L r M hi hf hR h7 h12 h13
      obtain ⟨f, rfl⟩ : ∃ z, f = z + 1 := ⟨f - 1, by omega⟩
      rw [fX3_lineUp_L7, pn_lit 6, if_neg (by rw [nI_leI (by omega) (by omega)]; omega), pX7_holds (by omega) (by omega), pn_bd, pn_lit 0, lin]
      by_cases c : S.testBit i = true
      · have hic : i < cs := by
          by_cases q : i < cs
          · exact q
          · exact absurd c (hbit i (by omega))
        rw [if_pos c, if_neg z10, if_pos c, rm_lt1, h12]
        obtain ⟨M1, f1, g1, g2, r1⟩ := pX3_lineUp_L27 ha hcs hic (nI S) (fX3_lineUp_L7 (nI S) 7 f) L rm_F r M L (Nat.le_refl _) (by have := hR.1; omega) (by have := hR.1; omega) h12 (fun j hj hj2 => h13 j (by omega)) (fun j hj => by have := (hR.2.1 j hj).1; omega) h7
        rw [f1]
        obtain ⟨M2, f2, e1, e2, r2⟩ := ih f (i + 1) (L + 1) _ M1 (by omega) (by omega) (hR.ins a c) (fun c hc => by rw [(r1.1 7 (by omega)).2]; exact h7 c hc) g1 g2
        exact ⟨M2, f2, e1, e2, r1.tr r2⟩
      · rw [if_neg c, if_pos rfl, if_neg c]
        unfold fX3_lineUp_L90
        rw [pn_lit 1, nI_add]
        exact ih f (i + 1) L r M (by omega) (by omega) (hR.skip c) h7 h12 h13
  unfold fX3_lineUp
  rw [pn_lit 0, rm_lt1]
  have r0 : FR (fun q => q = 12 ∨ q = 13) M (rm_sI M 12 1 (nI 0)) := FR.sI (Or.inl rfl)
  obtain ⟨M2, f2, g1, g2, r2⟩ := key 6 rm_F 0 0 (fun _ => 0) (rm_sI M 12 1 (nI 0)) (by omega) (by omega) ⟨by omega, fun j hj => by omega, fun j k hj => by omega, fun c hc => by omega⟩ (fun c hc => by rw [pn_sI2]; exact h7 c hc) (by rw [pn_sI_eq, pn_upd_eq]) (fun j hj => by omega)
  rw [lin_6 a hS hcs] at g1 g2
  exact ⟨M2, f2, g1, g2, r0.tr r2⟩
/-! the model -/
theorem pX8_ranks_L38 {cs c : Nat} {w : Nat → Nat → Nat} {v : Nat → Nat} (hW : WN cs w) (hv : ∀ c, c < 6 → v c ≤ 9) (hc : c < cs) (x1 : Int32) (q16 : Int32 → Int32 → rm_M → Option rm_M) : ∀ p f r M L, p ≤ L → L < 6 → p < f → MW M cs w → MV M 83 v → MT M cs w → M.1 79 23 = nI L → (∀ j, j < L + 1 → (j < p ∨ p < j) → M.1 94 j = nI (r j)) → (∀ j, j < p → r j < cs) →
    ∃ M2, fX8_ranks_L38 q16 f x1 (nI c) (nI p) M = q16 x1 (nI (c + 1)) M2 ∧ M2.1 79 23 = nI (L + 1) ∧ (∀ k, k ≠ 23 → M2.1 79 k = M.1 79 k) ∧ (∀ j, j < L + 1 → M2.1 94 j = nI (insr (aI cs w v) c p r j)) ∧ FR (fun q => q = 79 ∨ q = 94) M M2 := by
  have h2 := hW.2.1
  have put : ∀ p r M L, p ≤ L → L < 6 → M.1 79 23 = nI L → (∀ j, j < L + 1 → (j < p ∨ p < j) → M.1 94 j = nI (r j)) → ∃ M2, fX8_ranks_L106 q16 x1 (nI c) (nI p) M = q16 x1 (nI (c + 1)) M2 ∧ M2.1 79 23 = nI (L + 1) ∧ (∀ k, k ≠ 23 → M2.1 79 k = M.1 79 k) ∧ (∀ j, j < L + 1 → M2.1 94 j = nI (vu r p c j)) ∧ FR (fun q => q = 79 ∨ q = 94) M M2 := by
    intro p r M L hp hL h12 h13
    refine ⟨rm_sI (rm_sI M 94 p (nI c)) 79 23 (nI (L + 1)), ?_, ?_, fun k hk => ?_, fun j hj => ?_, FR.sIr (FR.sIr FR.rf (Or.inr rfl)) (Or.inl rfl)⟩
    · unfold fX8_ranks_L106 fX8_ranks_L123
      rw [if_pos (by rw [pn_ib (by omega), decide_eq_true_eq]; omega), rm_lt1, nI_clamp (by omega), rm_lt1, pn_sI_ne _ _ _ (by omega), h12, pn_lit 1, nI_add, nI_add]
    · rw [pn_sI_eq, pn_upd_eq]
    · rw [pn_sI_eq, pn_upd_ne _ _ hk, pn_sI_ne _ _ _ (by omega)]
    · rw [pn_sI_ne _ _ _ (by omega), pn_sI_eq]
      by_cases e : j = p
      · subst e; rw [pn_upd_eq, vu_eq]
      · rw [pn_upd_ne _ _ e, vu_ne _ _ e]; exact h13 j hj (by omega)
  have eA : ∀ c, c < cs → J (trI cs w c) * (nI (ou cs w c + v c)).toInt64 = J (aI cs w v c) := by
    intro c hc
    have ho := ou_le hW hc
    have := hv c (by omega)
    rw [nI_J (by omega), J_mul, Int.mul_comm]
    rfl
  intro p
  induction p with
  | zero =>
    intro f r M L hp hL hf hM hS hT h12 h13 hr
    obtain ⟨f, rfl⟩ : ∃ z, f = z + 1 := ⟨f - 1, by omega⟩
    rw [fX8_ranks_L38, pn_lit 0, if_pos (by rw [nI_leI (by omega) (by omega)]; omega)]
    exact put 0 r M L hp hL h12 h13
  | succ p ih =>
    intro f r M L hp hL hf hM hS hT h12 h13 hr
    obtain ⟨f, rfl⟩ : ∃ z, f = z + 1 := ⟨f - 1, by omega⟩
    have hrp := hr p (by omega)
    have hib : rm_ib (nI p) 6 = true := by rw [pn_ib (by omega), decide_eq_true_eq]; omega
    have hib2 : rm_ib (nI (p + 1)) 6 = true := by rw [pn_ib (by omega), decide_eq_true_eq]; omega
    have b1 := aI_bd hW hv hrp
    have b2 := aI_bd hW hv hc
    rw [fX8_ranks_L38, if_neg (by rw [pn_lit 0, nI_leI (by omega) (by omega)]; omega), pn_lit 1, pk_sub (by omega), Nat.add_sub_cancel, if_pos hib, nI_clamp (by omega), h13 p (by omega) (by omega), if_pos (by rw [pn_ib (by omega), decide_eq_true_eq]; omega), if_pos hib, pX8_sum hM hS h2 (by omega), pn_bd, if_pos (by rw [pn_ib (by omega), decide_eq_true_eq]; omega), pX8_sum hM hS h2 (by omega), pn_bd, nI_clamp (by omega), nI_clamp (by omega), hT (r p) hrp, hT c hc, eA _ hrp, eA _ hc, if_pos hib, if_pos hib2, nI_clamp (by omega), h13 p (by omega) (by omega), rm_lt1, insr]
    by_cases e : aI cs w v (r p) < aI cs w v c
    · rw [if_neg (fun q => (lgc2 _ _).mp q ((J_lt (by omega) (by omega) (by omega) (by omega)).mpr e)), if_pos e, show nI (p + 1) + -nI 1 = nI p from pk_m1 p]
      have r1 : FR (fun q => q = 94) M (rm_sI M 94 (p + 1) (nI (r p))) := FR.sI rfl
      obtain ⟨M2, f2, g1, g3, g2, r2⟩ := ih f (vu r (p + 1) (r p)) (rm_sI M 94 (p + 1) (nI (r p))) L (by omega) hL (by omega) (hM.fr r1 (by omega) (by omega)) (hS.fr r1 (by omega)) (hT.fr r1 (by omega)) (by rw [pn_sI_ne _ _ _ (by omega)]; exact h12) (fun j hj hj2 => by
        rw [pn_sI_eq]
        by_cases e2 : j = p + 1
        · subst e2; rw [pn_upd_eq, vu_eq]
        · rw [pn_upd_ne _ _ e2, vu_ne _ _ e2]; exact h13 j hj (by omega)) (fun j hj => by rw [vu_ne _ _ (by omega)]; exact hr j (by omega))
      exact ⟨M2, f2, g1, fun k hk => by rw [g3 k hk, pn_sI_ne _ _ _ (by omega)], g2, (r1.mono (fun a ha => Or.inr ha)).tr r2⟩
    · rw [if_pos ((lgc2 _ _).mpr (fun q => e ((J_lt (by omega) (by omega) (by omega) (by omega)).mp q))), if_neg e]
      exact put (p + 1) r M L hp hL h12 h13
theorem pX8_ranks {cs : Nat} {w : Nat → Nat → Nat} {v : Nat → Nat} {M : rm_M} (hW : WN cs w) (hV : WV cs v) (h17 : v 17 < 1000) (hM : MW M cs w) (hS : MV M 83 v) :
    ∃ M2, fX8_ranks M = some M2 ∧ M2.1 79 23 = nI (lin (aI cs w v) (whr cs w v) cs 0 0 (fun _ => 0)).1 ∧ (∀ j, j < (lin (aI cs w v) (whr cs w v) cs 0 0 (fun _ => 0)).1 → M2.1 94 j = nI ((lin (aI cs w v) (whr cs w v) cs 0 0 (fun _ => 0)).2 j)) ∧ (∀ k, k ≠ 23 → M2.1 79 k = M.1 79 k) ∧ MT M2 cs w ∧ FR (fun q => q = 79 ∨ 85 ≤ q) M M2 := by
  have hF := pn_F
  have h2 := hW.2.1
  have hv9 : ∀ c, c < 6 → v c ≤ 9 := fun c hc => (hV.2.1 c hc).1
  have hS6 := b31 (whr_lt (w := w) hV.2.2.2.2.2.2) h2
  have key : ∀ d f i L r M, i + d = cs → d < f → RowOk (whr cs w v) i L r → MW M cs w → MV M 83 v → MT M cs w → M.1 79 23 = nI L → (∀ j, j < L → M.1 94 j = nI (r j)) → ∃ M2, fX8_ranks_L16 f (nI (whr cs w v)) (nI i) M = some M2 ∧ M2.1 79 23 = nI (lin (aI cs w v) (whr cs w v) d i L r).1 ∧ (∀ j, j < (lin (aI cs w v) (whr cs w v) d i L r).1 → M2.1 94 j = nI ((lin (aI cs w v) (whr cs w v) d i L r).2 j)) ∧ (∀ k, k ≠ 23 → M2.1 79 k = M.1 79 k) ∧ FR (fun q => q = 79 ∨ q = 94) M M2 := by
    intro d
    induction d with
    | zero =>
      intro f i L r M hi hf hR hM hS hT h12 h13
      obtain ⟨f, rfl⟩ : ∃ z, f = z + 1 := ⟨f - 1, by omega⟩
      rw [fX8_ranks_L16, hM.1, if_pos (by rw [nI_leI (by omega) (by omega)]; omega)]
      exact ⟨M, rfl, h12, h13, fun k _ => rfl, FR.rf⟩
    | succ d ih =>
      intro f i L r M hi hf hR hM hS hT h12 h13
      obtain ⟨f, rfl⟩ : ∃ z, f = z + 1 := ⟨f - 1, by omega⟩
      rw [fX8_ranks_L16, hM.1, if_neg (by rw [nI_leI (by omega) (by omega)]; omega), pn_lit 1, pn_lit 31, pn_tb (by omega) (by omega), lin]
      by_cases c : (whr cs w v).testBit i = true
      · rw [if_pos c, if_pos rfl, if_pos c, rm_lt1, h12]
        obtain ⟨M1, f1, g1, g3, g2, r1⟩ := pX8_ranks_L38 hW hv9 (show i < cs by omega) (nI (whr cs w v)) (fX8_ranks_L16 f) L rm_F r M L (Nat.le_refl _) (by have := hR.1; omega) (by have := hR.1; omega) hM hS hT h12 (fun j hj hj2 => h13 j (by omega)) (fun j hj => by have := (hR.2.1 j hj).1; omega)
        rw [f1]
        have hM1 : MW M1 cs w := ⟨by rw [g3 2 (by omega)]; exact hM.1, fun a b ha hb => by rw [(r1.1 81 (by omega)).1]; exact hM.2 a b ha hb⟩
        obtain ⟨M2, f2, e1, e2, e3, r2⟩ := ih f (i + 1) (L + 1) _ M1 (by omega) (by omega) (hR.ins _ c) hM1 (hS.fr r1 (by omega)) (hT.fr r1 (by omega)) g1 g2
        exact ⟨M2, f2, e1, e2, fun k hk => by rw [e3 k hk, g3 k hk], r1.tr r2⟩
      · rw [if_neg c, if_neg (by rw [nI_eq (by omega) (by omega)]; omega), if_neg c]
        unfold fX8_ranks_L123
        rw [pn_lit 1, nI_add]
        exact ih f (i + 1) L r M (by omega) (by omega) (hR.skip c) hM hS hT h12 h13
  obtain ⟨M1, f1, r1⟩ := pX8_whereIs hW hV hM hS h17
  obtain ⟨M2, f2, g2, r2, q2⟩ := pX8_grows hW (hM.fr r1 (by omega) (by omega))
  have r3 : FR (fun q => q = 79 ∨ 85 ≤ q) M2 (rm_sI M2 79 23 (nI 0)) := FR.sI (Or.inl rfl)
  have r12 : FR (fun q => 85 ≤ q) M M2 := (r1.mono (fun a ha => by omega)).tr (r2.mono (fun a ha => by omega))
  have hM2 := hM.fr r12 (by omega) (by omega)
  obtain ⟨M4, f4, e1, e2, e3, r4⟩ := key cs rm_F 0 0 (fun _ => 0) (rm_sI M2 79 23 (nI 0)) (by omega) (by omega) ⟨by omega, fun j hj => by omega, fun j k hj => by omega, fun c hc => by omega⟩ ⟨by rw [pn_sI_eq, pn_upd_ne _ _ (by omega)]; exact hM2.1, fun a b ha hb => by rw [pn_sI_ne _ _ _ (by omega)]; exact hM2.2 a b ha hb⟩ ((hS.fr r12 (by omega)).fr r3 (by omega)) (fun c hc => by rw [pn_sI2]; exact g2 c hc) (by rw [pn_sI_eq, pn_upd_eq]) (fun j hj => by omega)
  refine ⟨M4, ?_, e1, e2, fun k hk => ?_, fun c hc => ?_, (r12.mono (fun a ha => Or.inr ha)).tr (r3.tr (r4.mono (fun a ha => by omega)))⟩
  · unfold fX8_ranks
    rw [f1, pn_bd, f2, pn_bv, pn_lit 0, rm_lt1, f4]
  · rw [e3 k hk, pn_sI_eq, pn_upd_ne _ _ hk, (r12.1 79 (by omega)).1]
  · rw [(r4.1 90 (by omega)).2, pn_sI2]; exact g2 c hc
