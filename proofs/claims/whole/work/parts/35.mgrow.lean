/-! ===== the model grows its trees ===== -/
/-- how many columns stand ahead of j -/
def cl (p j : Nat) : Nat := if j ≤ p then j else j - 1
theorem ix_cl {p j : Nat} (h : j ≠ p) : ix p (cl p j) = j := by
  unfold ix cl
  split <;> split <;> omega
theorem MW.same {M M2 : rm_M} {cs : Nat} {w : Nat → Nat → Nat} (h : MW M cs w) (e : M2.1 = M.1) : MW M2 cs w := by
  unfold MW
  rw [e]
  exact h
theorem pX8_grows_L33 {cs : Nat} {w : Nat → Nat → Nat} (h : WN cs w) {p i r : Nat} (hp : p < cs) (hi : i < cs) (hr : r < cs - 1) (hir : ix p r = i) (q2 : Int32 → rm_M → Option (rm_M)) (q14 : Int32 → Int32 → Int32 → rm_M → Option (rm_M)) :
    ∀ d f j M, j + d = cs → d < f → MW M cs w → ∃ M2, fX8_grows_L33 q2 q14 f (nI p) (nI r) (nI i) (nI (cl p j)) (nI j) M = q14 (nI p) (nI (r + 1)) (nI (i + 1)) M2 ∧ (∀ c, cl p j ≤ c → c < cs - 1 → M2.2.1 91 (5 * r + c) = J (xm cs w p r c)) ∧ (∀ q, q < 5 * r + cl p j ∨ 5 * r + 5 ≤ q → M2.2.1 91 q = M.2.1 91 q) ∧ FR (fun q => q = 91) M M2 ∧ M2.1 = M.1 := by
  have h1 := h.1
  have h2 := h.2.1
  intro d
  induction d with
  | zero =>
    intro f j M hj hf hM
    obtain ⟨f, rfl⟩ : ∃ z, f = z + 1 := ⟨f - 1, by omega⟩
    rw [fX8_grows_L33]
    simp (disch := omega) only [hM.1, nI_leI, pn_lit, nI_add, fX8_grows_L100]
    rw [if_pos (by omega)]
    refine ⟨M, rfl, fun c hc hc2 => ?_, fun q _ => rfl, FR.rf, rfl⟩
    exfalso
    unfold cl at hc
    split at hc <;> omega
  | succ d ih =>
    intro f j M hj hf hM
    obtain ⟨f, rfl⟩ : ∃ z, f = z + 1 := ⟨f - 1, by omega⟩
    have hcl : cl p j ≤ 5 := by unfold cl; split <;> omega
    rw [fX8_grows_L33]
    simp (disch := omega) only [hM.1, nI_leI, nI_eq, pn_lit, pk_mul, nI_add, pn_ib, nI_clamp, decide_eq_true_eq, pX8_out hM h2 (show i < 6 by omega), pn_bd, hM.2 i j (by omega) (by omega), fX8_grows_L91, fX8_grows_L87, rm_lt1]
    rw [if_neg (by omega)]
    by_cases e1 : j = p
    · rw [if_pos e1]
      have ec : cl p j = cl p (j + 1) := by unfold cl; split <;> split <;> omega
      rw [ec]
      exact ih f (j + 1) M (by omega) (by omega) hM
    · rw [if_neg e1]
      have hcl5 : cl p j < 5 := by unfold cl; split <;> omega
      have ec : cl p (j + 1) = cl p j + 1 := by unfold cl; split <;> split <;> omega
      have common : ∀ z, z = J (xm cs w p r (cl p j)) → ∃ M2, fX8_grows_L33 q2 q14 f (nI p) (nI r) (nI i) (nI (cl p j + 1)) (nI (j + 1)) (rm_sJ M 91 (5 * r + cl p j) z) = q14 (nI p) (nI (r + 1)) (nI (i + 1)) M2 ∧ (∀ c, cl p j ≤ c → c < cs - 1 → M2.2.1 91 (5 * r + c) = J (xm cs w p r c)) ∧ (∀ q, q < 5 * r + cl p j ∨ 5 * r + 5 ≤ q → M2.2.1 91 q = M.2.1 91 q) ∧ FR (fun q => q = 91) M M2 ∧ M2.1 = M.1 := by
        intro z hz
        have := ih f (j + 1) (rm_sJ M 91 (5 * r + cl p j) z) (by omega) (by omega) (hM.same rfl)
        rw [ec] at this
        obtain ⟨M2, f2, a2, b2, r2, e2⟩ := this
        refine ⟨M2, f2, fun c hc hc2 => ?_, fun q hq => ?_, FR.tr (S := fun q => q = 91) (FR.sJ rfl) r2, e2⟩
        · by_cases e3 : c = cl p j
          · rw [e3, b2 _ (by omega), pn_sJ_eq, pn_updL_eq, hz]
          · exact a2 c (by omega) hc2
        · rw [b2 q (by omega), pn_sJ_eq, pn_updL_ne _ _ (by omega)]
      have hxm : xm cs w p r (cl p j) = if i = j then (ou cs w i : Int) else -(w i j : Int) := by
        unfold xm Em
        rw [ix_cl e1, hir]
      have hoi := ou_le h hi
      by_cases e2 : i = j
      · rw [if_pos e2, if_pos (by omega)]
        exact common _ (by rw [hxm, if_pos e2, nI_J (by omega)])
      · rw [if_neg e2, if_pos (by omega), if_pos (by omega)]
        exact common _ (by rw [hxm, if_neg e2, nI_Jn (h.lt i j)])
theorem pX8_grows_L14 {cs : Nat} {w : Nat → Nat → Nat} (h : WN cs w) {p : Nat} (hp : p < cs) (q2 : Int32 → rm_M → Option (rm_M)) :
    ∀ d f i M, i + d = cs → d < f → MW M cs w → (∀ a c, a < cl p i → c < cs - 1 → M.2.1 91 (5 * a + c) = J (xm cs w p a c)) → ∃ M2, fX8_grows_L14 q2 f (nI p) (nI (cl p i)) (nI i) M = q2 (nI (p + 1)) M2 ∧ M2.2.1 90 p = J (trI cs w p) ∧ (∀ k, k ≠ p → M2.2.1 90 k = M.2.1 90 k) ∧ FR (fun q => q = 90 ∨ q = 91) M M2 ∧ M2.1 = M.1 := by
  have h1 := h.1
  have h2 := h.2.1
  have hF := pn_F
  intro d
  induction d with
  | zero =>
    intro f i M hi hf hM hT
    obtain ⟨f, rfl⟩ : ∃ z, f = z + 1 := ⟨f - 1, by omega⟩
    obtain rfl : i = cs := by omega
    have hc : cl p i = i - 1 := by unfold cl; rw [if_neg (by omega)]
    obtain ⟨M2, f2, r2, e2⟩ := pX8_det_net h hp (M := M) (fun a b ha hb => hT a b (by omega) hb)
    rw [fX8_grows_L14]
    simp only [pn_lit, hM.1]
    rw [pk_sub (by omega : 1 ≤ i), f2]
    simp (disch := omega) only [nI_leI, pn_bd, pn_ib, nI_clamp, decide_eq_true_eq, rm_lt1, nI_add]
    rw [if_pos (by omega), if_pos (by omega)]
    refine ⟨_, rfl, ?_, fun k hk => ?_, ?_, ?_⟩
    · rw [pn_sJ_eq, pn_updL_eq]
    · rw [pn_sJ_eq, pn_updL_ne _ _ hk, (r2.1 90 (by omega)).2]
    · exact FR.sJr (r2.mono (fun a ha => Or.inr ha)) (Or.inl rfl)
    · exact e2
  | succ d ih =>
    intro f i M hi hf hM hT
    obtain ⟨f, rfl⟩ : ∃ z, f = z + 1 := ⟨f - 1, by omega⟩
    rw [fX8_grows_L14]
    simp (disch := omega) only [hM.1, nI_leI, nI_eq, pn_lit, fX8_grows_L100, nI_add]
    rw [if_neg (by omega)]
    by_cases e1 : i = p
    · rw [if_pos e1]
      have ec : cl p i = cl p (i + 1) := by unfold cl; split <;> split <;> omega
      rw [ec]
      exact ih f (i + 1) M (by omega) (by omega) hM (by rw [← ec]; exact hT)
    · rw [if_neg e1]
      have hr : cl p i < cs - 1 := by unfold cl; split <;> omega
      have ec : cl p (i + 1) = cl p i + 1 := by unfold cl; split <;> split <;> omega
      obtain ⟨M2, f2, a2, b2, r2, e2⟩ := pX8_grows_L33 h hp (by omega : i < cs) hr (ix_cl e1) q2 (fX8_grows_L14 q2 f) cs rm_F 0 M (by omega) (by omega) hM
      have c0 : cl p 0 = 0 := by unfold cl; rw [if_pos (by omega)]
      rw [c0] at f2 a2 b2
      rw [f2, ← ec]
      obtain ⟨M3, f3, a3, b3, r3, e3⟩ := ih f (i + 1) M2 (by omega) (by omega) (hM.same e2) (fun a c ha hc => by
        rw [ec] at ha
        by_cases e4 : a = cl p i
        · subst e4; exact a2 c (by omega) hc
        · rw [b2 _ (by omega)]; exact hT a c (by omega) hc)
      exact ⟨M3, f3, a3, fun k hk => by rw [b3 k hk, (r2.1 90 (by omega)).2], (r2.mono (fun a ha => Or.inr ha)).tr r3, by rw [e3, e2]⟩
theorem pX8_grows_L2 {cs : Nat} {w : Nat → Nat → Nat} (h : WN cs w) : ∀ d f p M, p + d = cs → d < f → MW M cs w → (∀ k, k < p → M.2.1 90 k = J (trI cs w k)) → ∃ M2, fX8_grows_L2 f (nI p) M = some M2 ∧ (∀ k, k < cs → M2.2.1 90 k = J (trI cs w k)) ∧ FR (fun q => q = 90 ∨ q = 91) M M2 ∧ M2.1 = M.1 := by
  have h1 := h.1
  have h2 := h.2.1
  have hF := pn_F
  intro d
  induction d with
  | zero =>
    intro f p M hp hf hM hT
    obtain ⟨f, rfl⟩ : ∃ z, f = z + 1 := ⟨f - 1, by omega⟩
    rw [fX8_grows_L2]
    simp (disch := omega) only [hM.1, nI_leI]
    rw [if_pos (by omega)]
    exact ⟨M, rfl, fun k hk => hT k (by omega), FR.rf, rfl⟩
  | succ d ih =>
    intro f p M hp hf hM hT
    obtain ⟨f, rfl⟩ : ∃ z, f = z + 1 := ⟨f - 1, by omega⟩
    rw [fX8_grows_L2]
    simp (disch := omega) only [hM.1, nI_leI, pn_lit]
    rw [if_neg (by omega)]
    have c0 : cl p 0 = 0 := by unfold cl; rw [if_pos (by omega)]
    obtain ⟨M2, f2, a2, b2, r2, e2⟩ := pX8_grows_L14 h (by omega : p < cs) (fX8_grows_L2 f) cs rm_F 0 M (by omega) (by omega) hM (fun a c ha => by rw [c0] at ha; omega)
    rw [c0] at f2
    rw [f2]
    obtain ⟨M3, f3, a3, r3, e3⟩ := ih f (p + 1) M2 (by omega) (by omega) (hM.same e2) (fun k hk => by
      by_cases e : k = p
      · rw [e]; exact a2
      · rw [b2 k e]; exact hT k (by omega))
    exact ⟨M3, f3, a3, r2.tr r3, by rw [e3, e2]⟩
theorem pX8_grows {cs : Nat} {w : Nat → Nat → Nat} (h : WN cs w) {M : rm_M} (hM : MW M cs w) : ∃ M2, fX8_grows M = some M2 ∧ (∀ k, k < cs → M2.2.1 90 k = J (trI cs w k)) ∧ FR (fun q => q = 90 ∨ q = 91) M M2 ∧ M2.1 = M.1 := by
  have hF := pn_F
  have h2 := h.2.1
  unfold fX8_grows
  simp only [pn_lit]
  exact pX8_grows_L2 h cs rm_F 0 M (by omega) (by omega) hM (fun k hk => by omega)
