/-! ===== BEST AREAS: ways to give areas, as numbers of six digits by 8 ===== -/
def dg (x k : Nat) : Nat := x / 8 ^ k % 8
def mxc (x : Nat) : Nat → Nat
  | 0 => 0
  | c + 1 => if mxc x c < dg x c then dg x c else mxc x c
def ncf (x : Nat) : Nat → Option Nat
  | 0 => none
  | c + 1 => if dg x (c + 1) ≤ mxc x (c + 1) then some (x % 8 ^ (c + 1) + (dg x (c + 1) + 1) * 8 ^ (c + 1)) else ncf x c
def okc (cs x : Nat) : Bool := decide (x < 262144) && decide (dg x 0 ≤ 5) && decide (dg x 1 ≤ 5) && decide (dg x 2 ≤ 5) && decide (dg x 3 ≤ 5) && decide (dg x 4 ≤ 5) && decide (dg x 5 ≤ 5) && decide (x < 8 ^ cs)
def chk (cs : Nat) : Nat → Nat → Bool
  | 0, _ => false
  | f + 1, x => okc cs x && match ncf x (cs - 1) with
    | none => true
    | some y => chk cs f y
theorem chk_all : chk 2 210 0 = true ∧ chk 3 210 0 = true ∧ chk 4 210 0 = true ∧ chk 5 210 0 = true ∧ chk 6 210 0 = true := by decide +kernel
theorem bN_ex : ∃ f : Nat, f < 1000 ∧ chk 2 f 0 = true ∧ chk 3 f 0 = true ∧ chk 4 f 0 = true ∧ chk 5 f 0 = true ∧ chk 6 f 0 = true := ⟨210, by omega, chk_all⟩
noncomputable def bN : Nat := Classical.choose bN_ex
theorem bN_lt : bN < 1000 := (Classical.choose_spec bN_ex).1
theorem chk_cs {cs : Nat} (h1 : 2 ≤ cs) (h2 : cs ≤ 6) : chk cs bN 0 = true := by
  have hq := (Classical.choose_spec bN_ex).2
  rcases (show cs = 2 ∨ cs = 3 ∨ cs = 4 ∨ cs = 5 ∨ cs = 6 by omega) with rfl | rfl | rfl | rfl | rfl
  · exact hq.1
  · exact hq.2.1
  · exact hq.2.2.1
  · exact hq.2.2.2.1
  · exact hq.2.2.2.2
theorem chk_ok {cs f x : Nat} (h : chk cs (f + 1) x = true) : x < 262144 ∧ (∀ k, k < 6 → dg x k ≤ 5) ∧ x < 8 ^ cs ∧ (∀ y, ncf x (cs - 1) = some y → chk cs f y = true) := by
  rw [chk, Bool.and_eq_true] at h
  obtain ⟨h1, h2⟩ := h
  unfold okc at h1
  simp only [Bool.and_eq_true, decide_eq_true_eq] at h1
  refine ⟨h1.1.1.1.1.1.1.1, fun k hk => ?_, h1.2, fun y hy => by rw [hy] at h2; exact h2⟩
  rcases (show k = 0 ∨ k = 1 ∨ k = 2 ∨ k = 3 ∨ k = 4 ∨ k = 5 by omega) with rfl | rfl | rfl | rfl | rfl | rfl <;> omega
theorem dg_set {x m d : Nat} (hx : x < 262144) (hm : m < 6) (hd : d < 8) (k : Nat) (hk : k < 6) : dg (x % 8 ^ m + d * 8 ^ m) k = if k < m then dg x k else if k = m then d else 0 := by
  unfold dg
  rcases (show m = 0 ∨ m = 1 ∨ m = 2 ∨ m = 3 ∨ m = 4 ∨ m = 5 by omega) with rfl | rfl | rfl | rfl | rfl | rfl <;> rcases (show k = 0 ∨ k = 1 ∨ k = 2 ∨ k = 3 ∨ k = 4 ∨ k = 5 by omega) with rfl | rfl | rfl | rfl | rfl | rfl <;> simp <;> omega
theorem dg_hi {x cs k : Nat} (h : x < 8 ^ cs) (hk : cs ≤ k) : dg x k = 0 := by
  unfold dg
  rw [Nat.div_eq_of_lt (Nat.lt_of_lt_of_le h (Nat.pow_le_pow_right (by decide) hk))]
theorem mxc_le {x : Nat} (h : ∀ k, k < 6 → dg x k ≤ 5) : ∀ c, c ≤ 6 → mxc x c ≤ 5
  | 0, _ => by simp [mxc]
  | c + 1, hc => by
    have := mxc_le h c (by omega)
    have := h c (by omega)
    rw [mxc]; split <;> omega
/-- the class -/
def TR (M : rm_M) (q x : Nat) : Prop := ∀ k, k < 6 → M.1 q k = nI (dg x k)
theorem pX0_highestAhead {M : rm_M} {x c : Nat} (hx : ∀ k, k < 6 → dg x k ≤ 5) (hc : c < 6) (hT : ∀ k, k < c → M.1 9 k = nI (dg x k)) : fX0_highestAhead (nI c) M = some (nI (mxc x c), M) := by
  have hF := pn_F
  have key : ∀ d f i, i + d = c → d < f → fX0_highestAhead_L4 (nI c) f (nI (mxc x i)) (nI i) M = some (nI (mxc x c), M) := by
    intro d
    induction d with
    | zero =>
      intro f i hi hf
      obtain ⟨f, rfl⟩ : ∃ z, f = z + 1 := ⟨f - 1, by omega⟩
      rw [fX0_highestAhead_L4]
      simp (disch := omega) only [nI_leI]
      rw [if_pos (by omega), show i = c by omega]
    | succ d ih =>
      intro f i hi hf
      obtain ⟨f, rfl⟩ : ∃ z, f = z + 1 := ⟨f - 1, by omega⟩
      have b1 := mxc_le hx i (by omega)
      have b2 := hx i (by omega)
      rw [fX0_highestAhead_L4]
      simp (disch := omega) only [nI_leI, pn_ib, nI_clamp, hT i (by omega), nI_ltI, rm_lt1, pn_lit, nI_add, decide_eq_true_eq]
      rw [if_neg (by omega), if_pos (by omega)]
      have e : (if mxc x i < dg x i then nI (dg x i) else nI (mxc x i)) = nI (mxc x (i + 1)) := by
        rw [mxc]; split <;> rfl
      rw [e]
      exact ih f (i + 1) (by omega) (by omega)
  unfold fX0_highestAhead
  simp only [pn_lit]
  exact key c rm_F 0 (by omega) (by omega)
theorem pX0_nextTried_L4 {x : Nat} (hx6 : x < 262144) (hx : ∀ k, k < 6 → dg x k ≤ 5) (a : Int32) : ∀ c f M, c < 6 → c < f → (∀ k, k ≤ c → M.1 9 k = nI (dg x k)) → (∀ k, c < k → k < 6 → M.1 9 k = nI 0) →
    ∃ M2, fX0_nextTried_L4 a f (nI c) M = some (nI (if (ncf x c).isSome then 1 else 0), M2) ∧ (∀ y, ncf x c = some y → TR M2 9 y) ∧ FR (fun q => q = 9) M M2 := by
  intro c
  induction c with
  | zero =>
    intro f M hc hf h1 h2
    obtain ⟨f, rfl⟩ : ∃ z, f = z + 1 := ⟨f - 1, by omega⟩
    rw [fX0_nextTried_L4]
    simp (disch := omega) only [pn_lit, nI_leI]
    rw [if_pos (by omega)]
    exact ⟨M, rfl, fun y hy => (by cases hy), FR.rf⟩
  | succ c ih =>
    intro f M hc hf h1 h2
    obtain ⟨f, rfl⟩ : ∃ z, f = z + 1 := ⟨f - 1, by omega⟩
    have b1 := mxc_le hx (c + 1) (by omega)
    have b2 := hx (c + 1) (by omega)
    have hH := pX0_highestAhead hx hc (fun k hk => h1 k (by omega))
    rw [fX0_nextTried_L4]
    simp (disch := omega) only [pn_lit, nI_leI, pn_ib, nI_clamp, hH, pn_bd, h1 (c + 1) (Nat.le_refl _), nI_ltI, rm_lt1, nI_add, decide_eq_true_eq]
    rw [if_neg (by omega), if_pos hc]
    by_cases e : mxc x (c + 1) < dg x (c + 1)
    · rw [if_pos e, if_pos hc, show nI (c + 1) + -nI 1 = nI c from pk_m1 c]
      have en : ncf x (c + 1) = ncf x c := by rw [ncf, if_neg (by omega)]
      obtain ⟨M2, f2, a2, r2⟩ := ih f (rm_sI M 9 (c + 1) (nI 0)) (by omega) (by omega) (fun k hk => by rw [pn_sI_eq, pn_upd_ne _ _ (by omega)]; exact h1 k (by omega)) (fun k hk hk2 => by
        rw [pn_sI_eq]
        by_cases e2 : k = c + 1
        · subst e2; rw [pn_upd_eq]
        · rw [pn_upd_ne _ _ e2]; exact h2 k (by omega) hk2)
      rw [en]
      exact ⟨M2, f2, a2, FR.tr (S := fun q => q = 9) (FR.sI rfl) r2⟩
    · rw [if_neg e, if_pos hc, if_pos hc]
      have en : ncf x (c + 1) = some (x % 8 ^ (c + 1) + (dg x (c + 1) + 1) * 8 ^ (c + 1)) := by rw [ncf, if_pos (by omega)]
      rw [en]
      refine ⟨_, rfl, fun y hy => ?_, FR.sI rfl⟩
      cases hy
      intro k hk
      rw [pn_sI_eq, dg_set hx6 hc (by omega) k hk]
      by_cases k1 : k < c + 1
      · rw [if_pos k1, pn_upd_ne _ _ (by omega)]; exact h1 k (by omega)
      · rw [if_neg k1]
        by_cases k2 : k = c + 1
        · rw [if_pos k2, k2, pn_upd_eq]
        · rw [if_neg k2, pn_upd_ne _ _ k2]; exact h2 k (by omega) hk
theorem pX0_nextTried {x cs : Nat} (hcs : cs ≤ 6) (hcs1 : 2 ≤ cs) (hx6 : x < 262144) (hx : ∀ k, k < 6 → dg x k ≤ 5) (hxc : x < 8 ^ cs) {M : rm_M} (hT : TR M 9 x) : ∃ M2, fX0_nextTried (nI cs) M = some (nI (if (ncf x (cs - 1)).isSome then 1 else 0), M2) ∧ (∀ y, ncf x (cs - 1) = some y → TR M2 9 y) ∧ FR (fun q => q = 9) M M2 := by
  have hF := pn_F
  unfold fX0_nextTried
  simp only [rm_lt1, pn_lit]
  rw [pk_sub (by omega : 1 ≤ cs)]
  exact pX0_nextTried_L4 hx6 hx _ (cs - 1) rm_F M (by omega) (by omega) (fun k hk => hT k (by omega)) (fun k hk hk2 => by rw [hT k hk2, dg_hi hxc (by omega)])
/-- the model -/
theorem pX8_goesOn_L71 {cs : Nat} (hcs : cs ≤ 6) : ∀ d f i M, i + d = cs → d < f → M.1 79 2 = nI cs → ∃ M2, fX8_goesOn_L71 f (nI i) M = some (nI 1, M2) ∧ (∀ k, k < 6 → M2.1 92 k = if i ≤ k ∧ k < cs then nI 0 else M.1 92 k) ∧ FR (fun q => q = 92) M M2 := by
  intro d
  induction d with
  | zero =>
    intro f i M hi hf h79
    obtain ⟨f, rfl⟩ : ∃ z, f = z + 1 := ⟨f - 1, by omega⟩
    rw [fX8_goesOn_L71]
    simp (disch := omega) only [h79, nI_leI, pn_lit, pn_z1]
    rw [if_pos (by omega)]
    exact ⟨M, rfl, fun k hk => by rw [if_neg (by omega)], FR.rf⟩
  | succ d ih =>
    intro f i M hi hf h79
    obtain ⟨f, rfl⟩ : ∃ z, f = z + 1 := ⟨f - 1, by omega⟩
    rw [fX8_goesOn_L71]
    simp (disch := omega) only [h79, nI_leI, pn_ib, nI_clamp, rm_lt1, pn_lit, nI_add, decide_eq_true_eq]
    rw [if_neg (by omega), if_pos (by omega)]
    obtain ⟨M2, f2, a2, r2⟩ := ih f (i + 1) (rm_sI M 92 i (nI 0)) (by omega) (by omega) (by rw [pn_sI_ne _ _ _ (by omega)]; exact h79)
    refine ⟨M2, f2, fun k hk => ?_, FR.tr (S := fun q => q = 92) (FR.sI rfl) r2⟩
    rw [a2 k hk]
    by_cases e : k = i
    · subst e
      rw [if_neg (by omega), if_pos (by omega), pn_sI_eq, pn_upd_eq]
    · by_cases e2 : i + 1 ≤ k ∧ k < cs
      · rw [if_pos e2, if_pos (by omega)]
      · rw [if_neg e2, if_neg (by omega), pn_sI_eq, pn_upd_ne _ _ e]
theorem pX8_goesOn_L7 {x cs : Nat} (hcs : cs ≤ 6) (hx6 : x < 262144) (hx : ∀ k, k < 6 → dg x k ≤ 5) (hxc : x < 8 ^ cs) {M : rm_M} (h79 : M.1 79 2 = nI cs) (hT : TR M 92 x) : ∀ c f, c < cs → c < f →
    ∃ M2, fX8_goesOn_L7 f (nI c) M = some (nI (if (ncf x c).isSome then 1 else 0), M2) ∧ (∀ y, ncf x c = some y → TR M2 92 y) ∧ FR (fun q => q = 92) M M2 := by
  have hF := pn_F
  intro c
  induction c with
  | zero =>
    intro f hc hf
    obtain ⟨f, rfl⟩ : ∃ z, f = z + 1 := ⟨f - 1, by omega⟩
    rw [fX8_goesOn_L7]
    simp (disch := omega) only [pn_lit, nI_leI]
    rw [if_pos (by omega)]
    exact ⟨M, rfl, fun y hy => (by cases hy), FR.rf⟩
  | succ c ih =>
    intro f hc hf
    obtain ⟨f, rfl⟩ : ∃ z, f = z + 1 := ⟨f - 1, by omega⟩
    rw [fX8_goesOn_L7]
    simp (disch := omega) only [pn_lit, nI_leI]
    rw [if_neg (by omega)]
    have key : ∀ d g i, i + d = c + 1 → d < g → ∃ M2, fX8_goesOn_L15 (fX8_goesOn_L7 f) g (nI (c + 1)) (nI (mxc x i)) (nI i) M = some (nI (if (ncf x (c + 1)).isSome then 1 else 0), M2) ∧ (∀ y, ncf x (c + 1) = some y → TR M2 92 y) ∧ FR (fun q => q = 92) M M2 := by
      intro d
      induction d with
      | zero =>
        intro g i hi hg
        obtain ⟨g, rfl⟩ : ∃ z, g = z + 1 := ⟨g - 1, by omega⟩
        obtain rfl : i = c + 1 := by omega
        have b1 := mxc_le hx (c + 1) (by omega)
        have b2 := hx (c + 1) (by omega)
        rw [fX8_goesOn_L15]
        simp (disch := omega) only [nI_leI, pn_ib, nI_clamp, hT (c + 1) (by omega), nI_ltI, rm_lt1, pn_lit, nI_add, decide_eq_true_eq]
        rw [if_pos (by omega), if_pos (by omega)]
        by_cases e : mxc x (c + 1) < dg x (c + 1)
        · rw [if_pos e, show nI (c + 1) + -nI 1 = nI c from pk_m1 c]
          have en : ncf x (c + 1) = ncf x c := by rw [ncf, if_neg (by omega)]
          rw [en]
          exact ih f (by omega) (by omega)
        · rw [if_neg e, if_pos (by omega), if_pos (by omega)]
          have en : ncf x (c + 1) = some (x % 8 ^ (c + 1) + (dg x (c + 1) + 1) * 8 ^ (c + 1)) := by rw [ncf, if_pos (by omega)]
          rw [en]
          obtain ⟨M2, f2, a2, r2⟩ := pX8_goesOn_L71 hcs (cs - (c + 1 + 1)) rm_F (c + 1 + 1) (rm_sI M 92 (c + 1) (nI (dg x (c + 1) + 1))) (by omega) (by omega) (by rw [pn_sI_ne _ _ _ (by omega)]; exact h79)
          refine ⟨M2, f2, fun y hy => ?_, FR.tr (S := fun q => q = 92) (FR.sI rfl) r2⟩
          cases hy
          intro k hk
          rw [a2 k hk, dg_set hx6 (by omega) (by omega) k hk]
          by_cases k1 : k < c + 1
          · rw [if_neg (by omega), if_pos k1, pn_sI_eq, pn_upd_ne _ _ (by omega)]; exact hT k hk
          · rw [if_neg k1]
            by_cases k2 : k = c + 1
            · rw [if_neg (by omega), if_pos k2, k2, pn_sI_eq, pn_upd_eq]
            · rw [if_neg k2]
              by_cases k3 : c + 1 + 1 ≤ k ∧ k < cs
              · rw [if_pos k3]
              · rw [if_neg k3, pn_sI_eq, pn_upd_ne _ _ k2, hT k hk, dg_hi hxc (by omega)]
      | succ d ih2 =>
        intro g i hi hg
        obtain ⟨g, rfl⟩ : ∃ z, g = z + 1 := ⟨g - 1, by omega⟩
        have b1 := mxc_le hx i (by omega)
        have b2 := hx i (by omega)
        rw [fX8_goesOn_L15]
        simp (disch := omega) only [nI_leI, pn_ib, nI_clamp, hT i (by omega), pn_lit, nI_add, fX8_goesOn_L40, decide_eq_true_eq]
        rw [if_neg (by omega), if_pos (by omega)]
        have h3 := ih2 g (i + 1) (by omega) (by omega)
        rw [mxc] at h3
        by_cases e : dg x i ≤ mxc x i
        · rw [if_pos e]
          rw [if_neg (by omega)] at h3
          exact h3
        · rw [if_neg e, if_pos (by omega)]
          rw [if_pos (by omega)] at h3
          exact h3
    exact key (c + 1) rm_F 0 (by omega) (by omega)
theorem pX8_goesOn {x cs : Nat} (hcs : cs ≤ 6) (hcs1 : 2 ≤ cs) (hx6 : x < 262144) (hx : ∀ k, k < 6 → dg x k ≤ 5) (hxc : x < 8 ^ cs) {M : rm_M} (h79 : M.1 79 2 = nI cs) (hT : TR M 92 x) : ∃ M2, fX8_goesOn M = some (nI (if (ncf x (cs - 1)).isSome then 1 else 0), M2) ∧ (∀ y, ncf x (cs - 1) = some y → TR M2 92 y) ∧ FR (fun q => q = 92) M M2 := by
  have hF := pn_F
  unfold fX8_goesOn
  simp only [rm_lt1, pn_lit, h79]
  rw [pk_sub (by omega : 1 ≤ cs)]
  exact pX8_goesOn_L7 hcs hx6 hx hxc h79 hT (cs - 1) rm_F (by omega) (by omega)
