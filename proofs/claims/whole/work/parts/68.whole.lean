/-! ===== all CELLS hang together ===== -/
theorem popS : ∀ A, A < 64 → ∀ B, B < 64 → A &&& B = A → A = B ∨ pop A < pop B := by decide +kernel
theorem popC : ∀ c, c < 7 → ∀ A, A < 64 → A < 2 ^ c → pop A ≤ c := by decide +kernel
theorem popP : ∀ a, a < 6 → pop (2 ^ a) = 1 := by decide +kernel
theorem p64c {cs x : Nat} (hcs : cs ≤ 6) (h : x < 2 ^ cs) : x < 64 := Nat.lt_of_lt_of_le h (Nat.pow_le_pow_right (n := 2) (by decide) hcs)
theorem rch_sub {cs : Nat} {w : Nat → Nat → Nat} {a j : Nat} : rch cs w a j &&& rch cs w a (j + 1) = rch cs w a j := by
  apply Nat.eq_of_testBit_eq
  intro b
  rw [Nat.testBit_and]
  cases h : (rch cs w a j).testBit b with
  | false => rfl
  | true => rw [rch_step j 1 h]; rfl
theorem rch_pop {cs : Nat} {w : Nat → Nat → Nat} {a : Nat} (hcs : cs ≤ 6) (ha : a < cs) : ∀ j, rch cs w a (j + 1) = rch cs w a j ∨ j + 2 ≤ pop (rch cs w a (j + 1)) := by
  intro j
  induction j with
  | zero =>
    rcases popS _ (p64c hcs (rch_lt w ha 0)) _ (p64c hcs (rch_lt w ha 1)) rch_sub with h | h
    · exact Or.inl h.symm
    · have h2 : pop (rch cs w a 0) = 1 := popP a (by omega)
      exact Or.inr (by show 2 ≤ pop (rch cs w a 1); omega)
  | succ j ih =>
    rcases ih with h | h
    · left
      show nx1 cs w (rch cs w a (j + 1)) = rch cs w a (j + 1)
      rw [h]
      exact h
    · rcases popS _ (p64c hcs (rch_lt w ha (j + 1))) _ (p64c hcs (rch_lt w ha (j + 1 + 1))) rch_sub with h2 | h2
      · exact Or.inl h2.symm
      · exact Or.inr (by omega)
theorem rch_st1 {cs : Nat} {w : Nat → Nat → Nat} {a : Nat} (hcs : cs ≤ 6) (ha : a < cs) : rch cs w a (cs - 1 + 1) = rch cs w a (cs - 1) := by
  rcases rch_pop (w := w) hcs ha (cs - 1) with h | h
  · exact h
  · have := popC cs (by omega) _ (p64c hcs (rch_lt w ha (cs - 1 + 1))) (rch_lt w ha _)
    omega
theorem rch_st {cs : Nat} {w : Nat → Nat → Nat} {a : Nat} (hcs : cs ≤ 6) (ha : a < cs) : ∀ i, rch cs w a (cs - 1 + i) = rch cs w a (cs - 1)
  | 0 => rfl
  | i + 1 => by
    show nx1 cs w (rch cs w a (cs - 1 + i)) = _
    rw [rch_st hcs ha i]
    exact rch_st1 hcs ha
theorem fw_R {cs : Nat} {w : Nat → Nat → Nat} {a b : Nat} (hcs : cs ≤ 6) (ha : a < cs) (hb : b < cs) : (rch cs w a (cs - 1)).testBit b = true ↔ fw w cs a b < 99 := by
  constructor
  · intro h
    have := rch_fw (cs - 1) b hb h
    omega
  · intro h
    have h1 := rch_step _ (cs - 1) (fw_rch cs (Nat.le_refl _) a b ha hb h)
    rw [Nat.add_comm, rch_st hcs ha] at h1
    exact h1
theorem fw_small {cs : Nat} {w : Nat → Nat → Nat} {a b : Nat} (hcs : cs ≤ 6) (ha : a < cs) (hb : b < cs) (h : fw w cs a b < 99) : fw w cs a b ≤ 5 := by
  have := rch_fw (cs - 1) b hb ((fw_R hcs ha hb).mpr h)
  omega
theorem WN.of {cs jn : Nat} {w : Nat → Nat → Nat} {pr v : Nat → Nat} (hW : WD cs jn w pr v) (h2 : 2 ≤ cs) (h : ∀ c, c < cs → fw w cs 0 c < 99) : WN cs w := by
  have hcs : cs ≤ 6 := by have := hW.1; omega
  refine ⟨h2, hcs, hW.2.1, hW.2.2.1, hW.2.2.2.1, fun a b ha hb => ?_⟩
  have t1 := fw_tri w cs a 0 b (by omega)
  have t2 := fw_small hcs (by omega) ha (h a ha)
  have t3 := fw_small hcs (by omega) hb (h b hb)
  rw [fw_sym hW.2.2.2.1 cs a 0] at t1
  omega
/-! the class: Floyd and Warshall in place -/
def WI (M : rm_M) (n cs : Nat) (w : Nat → Nat → Nat) (k i j : Nat) : Prop := ∀ a b, a < cs → b < cs → M.1 (n + 8 + 1 + a) b = nI (if a < i ∨ (a = i ∧ b < j) then fw w (k + 1) a b else fw w k a b)
theorem pX1_isWhole_L22 {n cs k i : Nat} {w : Nat → Nat → Nat} (hcs : cs ≤ 6) (hk : k < cs) (hi : i < cs) (q2 : Int32 → rm_M → Option (Int32 × rm_M)) (q12 : Int32 → Int32 → rm_M → Option (Int32 × rm_M)) : ∀ d f j M, j + d = cs → d < f → M.1 n 0 = nI cs → WI M n cs w k i j →
    ∃ M2, fX1_isWhole_L22 n q2 q12 f (nI k) (nI i) (nI j) M = q12 (nI k) (nI (i + 1)) M2 ∧ WI M2 n cs w k (i + 1) 0 ∧ FR (fun q => n + 9 ≤ q ∧ q < n + 15) M M2 := by
  intro d
  induction d with
  | zero =>
    intro f j M hj hf h0 hI
    obtain ⟨f, rfl⟩ : ∃ z, f = z + 1 := ⟨f - 1, by omega⟩
    rw [fX1_isWhole_L22, h0, if_pos (by rw [nI_leI (by omega) (by omega)]; omega), pn_lit 1, nI_add]
    refine ⟨M, rfl, fun a b ha hb => ?_, FR.rf⟩
    rw [hI a b ha hb]
    by_cases c : a < i ∨ (a = i ∧ b < j)
    · rw [if_pos c, if_pos (by omega)]
    · rw [if_neg c, if_neg (by omega)]
  | succ d ih =>
    intro f j M hj hf h0 hI
    obtain ⟨f, rfl⟩ : ∃ z, f = z + 1 := ⟨f - 1, by omega⟩
    have bi : rm_ib (nI i) 6 = true := by rw [pn_ib (by omega), decide_eq_true_eq]; omega
    have bj : rm_ib (nI j) 6 = true := by rw [pn_ib (by omega), decide_eq_true_eq]; omega
    have bk : rm_ib (nI k) 6 = true := by rw [pn_ib (by omega), decide_eq_true_eq]; omega
    have e1 : M.1 (n + 8 + 1 + i) j = nI (fw w k i j) := by rw [hI i j hi (by omega), if_neg (by omega)]
    have e2 : M.1 (n + 8 + 1 + i) k = nI (fw w k i k) := by
      rw [hI i k hi hk]
      split
      · rw [fw_col]
      · rfl
    have e3 : M.1 (n + 8 + 1 + k) j = nI (fw w k k j) := by
      rw [hI k j hk (by omega)]
      split
      · rw [fw_row]
      · rfl
    have l1 := fw_le w i j k
    have l2 := fw_le w i k k
    have l3 := fw_le w k j k
    have ev : (if nI (fw w k i k) + nI (fw w k k j) < nI (fw w k i j) then nI (fw w k i k) + nI (fw w k k j) else nI (fw w k i j)) = nI (fw w (k + 1) i j) := by
      rw [nI_add, fw]
      by_cases c : fw w k i k + fw w k k j < fw w k i j
      · rw [if_pos (by rw [nI_ltI (by omega) (by omega)]; exact c), Nat.min_eq_right (by omega)]
      · rw [if_neg (by rw [nI_ltI (by omega) (by omega)]; exact c), Nat.min_eq_left (by omega)]
    rw [fX1_isWhole_L22, h0, if_neg (by rw [nI_leI (by omega) (by omega)]; omega), if_pos bi, if_pos bi, if_pos bj, if_pos bi, if_pos bk, if_pos bk, if_pos bj, if_pos bj, rm_lt1, nI_clamp (by omega), nI_clamp (by omega), nI_clamp (by omega), e1, e2, e3, ev, pn_lit 1, nI_add]
    obtain ⟨M2, f2, g2, r2⟩ := ih f (j + 1) (rm_sI M (n + 8 + 1 + i) j (nI (fw w (k + 1) i j))) (by omega) (by omega) (by rw [pn_sI_ne _ _ _ (by omega)]; exact h0) (fun a b ha hb => by
      by_cases ea : a = i
      · subst ea
        rw [pn_sI_eq]
        by_cases eb : b = j
        · subst eb
          rw [pn_upd_eq, if_pos (by omega)]
        · rw [pn_upd_ne _ _ eb, hI a b ha hb]
          by_cases c : a < a ∨ (a = a ∧ b < j)
          · rw [if_pos c, if_pos (by omega)]
          · rw [if_neg c, if_neg (by omega)]
      · rw [pn_sI_ne _ _ _ (by omega), hI a b ha hb]
        by_cases c : a < i ∨ (a = i ∧ b < j)
        · rw [if_pos c, if_pos (by omega)]
        · rw [if_neg c, if_neg (by omega)])
    exact ⟨M2, f2, g2, FR.tr (FR.sI (by omega)) r2⟩
theorem pX1_isWhole_L12 {n cs k : Nat} {w : Nat → Nat → Nat} (hcs : cs ≤ 6) (hk : k < cs) (q2 : Int32 → rm_M → Option (Int32 × rm_M)) : ∀ d f i M, i + d = cs → d < f → M.1 n 0 = nI cs → WI M n cs w k i 0 →
    ∃ M2, fX1_isWhole_L12 n q2 f (nI k) (nI i) M = q2 (nI (k + 1)) M2 ∧ WI M2 n cs w (k + 1) 0 0 ∧ FR (fun q => n + 9 ≤ q ∧ q < n + 15) M M2 := by
  have hF := pn_F
  intro d
  induction d with
  | zero =>
    intro f i M hi hf h0 hI
    obtain ⟨f, rfl⟩ : ∃ z, f = z + 1 := ⟨f - 1, by omega⟩
    rw [fX1_isWhole_L12, h0, if_pos (by rw [nI_leI (by omega) (by omega)]; omega), pn_lit 1, nI_add]
    refine ⟨M, rfl, fun a b ha hb => ?_, FR.rf⟩
    rw [hI a b ha hb, if_pos (by omega), if_neg (by omega)]
  | succ d ih =>
    intro f i M hi hf h0 hI
    obtain ⟨f, rfl⟩ : ∃ z, f = z + 1 := ⟨f - 1, by omega⟩
    obtain ⟨M1, f1, g1, r1⟩ := pX1_isWhole_L22 hcs hk (show i < cs by omega) q2 (fX1_isWhole_L12 n q2 f) cs rm_F 0 M (by omega) (by omega) h0 hI
    obtain ⟨M2, f2, g2, r2⟩ := ih f (i + 1) M1 (by omega) (by omega) (by rw [(r1.1 n (by omega)).1]; exact h0) g1
    rw [fX1_isWhole_L12, h0, if_neg (by rw [nI_leI (by omega) (by omega)]; omega), pn_lit 0, f1, f2]
    exact ⟨M2, rfl, g2, r1.tr r2⟩
theorem pX1_isWhole_L2 {n cs : Nat} {w : Nat → Nat → Nat} (hcs : cs ≤ 6) : ∀ d f k M, k + d = cs → d < f → M.1 n 0 = nI cs → WI M n cs w k 0 0 →
    ∃ M2, fX1_isWhole_L2 n f (nI k) M = fX1_isWhole_L86 n rm_F (nI 1) M2 ∧ WI M2 n cs w cs 0 0 ∧ FR (fun q => n + 9 ≤ q ∧ q < n + 15) M M2 := by
  have hF := pn_F
  intro d
  induction d with
  | zero =>
    intro f k M hk hf h0 hI
    obtain ⟨f, rfl⟩ : ∃ z, f = z + 1 := ⟨f - 1, by omega⟩
    rw [fX1_isWhole_L2, h0, if_pos (by rw [nI_leI (by omega) (by omega)]; omega), pn_lit 1]
    have : k = cs := by omega
    subst this
    exact ⟨M, rfl, hI, FR.rf⟩
  | succ d ih =>
    intro f k M hk hf h0 hI
    obtain ⟨f, rfl⟩ : ∃ z, f = z + 1 := ⟨f - 1, by omega⟩
    obtain ⟨M1, f1, g1, r1⟩ := pX1_isWhole_L12 hcs (show k < cs by omega) (fX1_isWhole_L2 n f) cs rm_F 0 M (by omega) (by omega) h0 hI
    obtain ⟨M2, f2, g2, r2⟩ := ih f (k + 1) M1 (by omega) (by omega) (by rw [(r1.1 n (by omega)).1]; exact h0) g1
    rw [fX1_isWhole_L2, h0, if_neg (by rw [nI_leI (by omega) (by omega)]; omega), pn_lit 0, f1, f2]
    exact ⟨M2, rfl, g2, r1.tr r2⟩
/-- the TEXT's CELLS hang together -/
def hgT (cs : Nat) (w : Nat → Nat → Nat) : Prop := 2 ≤ cs ∧ ∀ c, c < cs → fw w cs 0 c < 99
theorem pX1_isWhole_L86 {n cs : Nat} {w : Nat → Nat → Nat} (hcs : cs ≤ 6) {M : rm_M} (h0 : M.1 n 0 = nI cs) (hI : WI M n cs w cs 0 0) : ∀ d f c, cs ≤ c + d → 1 ≤ c → c ≤ 7 → d < f → (∀ b, b < c → b < cs → fw w cs 0 b < 99) →
    (hgT cs w ∧ fX1_isWhole_L86 n f (nI c) M = some (nI 1, M)) ∨ (¬ hgT cs w ∧ fX1_isWhole_L86 n f (nI c) M = some (nI 0, M)) := by
  have done : ∀ f c, cs ≤ c → c ≤ 7 → (∀ b, b < c → b < cs → fw w cs 0 b < 99) → (hgT cs w ∧ fX1_isWhole_L86 n (f + 1) (nI c) M = some (nI 1, M)) ∨ (¬ hgT cs w ∧ fX1_isWhole_L86 n (f + 1) (nI c) M = some (nI 0, M)) := by
    intro f c hc hc7 hb
    rw [fX1_isWhole_L86, h0, if_pos (by rw [nI_leI (by omega) (by omega)]; exact hc), pn_lit 2]
    by_cases c2 : cs < 2
    · rw [if_pos (by rw [nI_ltI (by omega) (by omega)]; exact c2)]
      exact Or.inr ⟨fun q => by have := q.1; omega, rfl⟩
    · rw [if_neg (by rw [nI_ltI (by omega) (by omega)]; exact c2)]
      exact Or.inl ⟨⟨by omega, fun b hb2 => hb b (by omega) hb2⟩, rfl⟩
  intro d
  induction d with
  | zero =>
    intro f c hc h1 h7 hf hb
    obtain ⟨f, rfl⟩ : ∃ z, f = z + 1 := ⟨f - 1, by omega⟩
    exact done f c (by omega) h7 hb
  | succ d ih =>
    intro f c hc h1 h7 hf hb
    obtain ⟨f, rfl⟩ : ∃ z, f = z + 1 := ⟨f - 1, by omega⟩
    by_cases c1 : cs ≤ c
    · exact done f c c1 h7 hb
    · have l1 := fw_le w 0 c cs
      have e0 : M.1 (n + 8 + 1 + 0) c = nI (fw w cs 0 c) := by rw [hI 0 c (by omega) (by omega), if_neg (by omega)]
      rw [fX1_isWhole_L86, h0, if_neg (by rw [nI_leI (by omega) (by omega)]; exact c1), pn_lit 0, pn_lit 99, pn_lit 1, if_pos (show rm_ib (nI 0) 6 = true by decide), if_pos (by rw [pn_ib (by omega), decide_eq_true_eq]; omega), cl0, nI_clamp (by omega), e0, nI_add]
      by_cases c2 : fw w cs 0 c < 99
      · rw [if_pos (by rw [nI_ltI (by omega) (by omega)]; exact c2)]
        exact ih f (c + 1) (by omega) (by omega) (by omega) (by omega) (fun b h1 h2 => by
          by_cases e : b = c
          · subst e; exact c2
          · exact hb b (by omega) h2)
      · rw [if_neg (by rw [nI_ltI (by omega) (by omega)]; exact c2)]
        exact Or.inr ⟨fun q => c2 (q.2 c (by omega)), rfl⟩
theorem pX1_isWhole {n cs : Nat} {w : Nat → Nat → Nat} (hcs : cs ≤ 6) {M : rm_M} (h0 : M.1 n 0 = nI cs) (hw : ∀ a b, a < 6 → b < 6 → M.1 (n + 8 + 1 + a) b = nI (fw w 0 a b)) :
    ∃ M2, ((hgT cs w ∧ fX1_isWhole n M = some (nI 1, M2)) ∨ (¬ hgT cs w ∧ fX1_isWhole n M = some (nI 0, M2))) ∧ CD M2 n cs (fw w cs) ∧ FR (fun q => n + 9 ≤ q ∧ q < n + 15) M M2 := by
  have hF := pn_F
  unfold fX1_isWhole
  rw [pn_lit 0]
  obtain ⟨M2, f2, g2, r2⟩ := pX1_isWhole_L2 (w := w) hcs cs rm_F 0 M (by omega) (by omega) h0 (fun a b ha hb => by rw [hw a b (by omega) (by omega), if_neg (by omega)])
  rw [f2]
  refine ⟨M2, pX1_isWhole_L86 hcs (by rw [(r2.1 n (by omega)).1]; exact h0) g2 6 rm_F 1 (by omega) (by omega) (by omega) (by omega) (fun b h1 h2 => ?_), fun a b ha hb => ?_, r2⟩
  · have : b = 0 := by omega
    subst this
    rw [fw_self]; omega
  · rw [g2 a b ha hb, if_neg (by omega)]
/-! the model: spreading -/
def hg (w : Nat → Nat → Nat) : Nat → Nat → Nat → Nat
  | 0, _, S => S
  | d + 1, k, S => hg w d (k + 1) (S ||| if 0 < w (k / 6) (k % 6) ∧ S.testBit (k / 6) = true then 2 ^ (k % 6) else 0)
def hgs (w : Nat → Nat → Nat) : Nat → Nat
  | 0 => 1
  | r + 1 => hg w 36 0 (hgs w r)
theorem hg_step_lt {S m : Nat} (c : Prop) [Decidable c] (h : S < 64) (hm : m < 6) : (S ||| if c then 2 ^ m else 0) < 64 := by
  refine Nat.or_lt_two_pow (n := 6) h ?_
  split
  · exact Nat.pow_lt_pow_right (by decide) hm
  · decide
theorem hg_lt (w : Nat → Nat → Nat) : ∀ d k S, S < 64 → hg w d k S < 64
  | 0, _, _, h => h
  | d + 1, k, S, h => hg_lt w d (k + 1) _ (hg_step_lt _ h (Nat.mod_lt _ (by decide)))
theorem hgs_lt (w : Nat → Nat → Nat) : ∀ r, hgs w r < 64
  | 0 => by show 1 < 64; omega
  | r + 1 => hg_lt w 36 0 _ (hgs_lt w r)
theorem hg_mono {w : Nat → Nat → Nat} {b : Nat} : ∀ d k S, S.testBit b = true → (hg w d k S).testBit b = true
  | 0, _, _, h => h
  | d + 1, k, S, h => hg_mono d (k + 1) _ (by rw [Nat.testBit_or, h]; rfl)
theorem hg_hit {w : Nat → Nat → Nat} {m : Nat} (hw : 0 < w (m / 6) (m % 6)) : ∀ d k S, k ≤ m → m < k + d → S.testBit (m / 6) = true → (hg w d k S).testBit (m % 6) = true
  | 0, k, S, h1, h2, _ => by omega
  | d + 1, k, S, h1, h2, h => by
    by_cases e : k = m
    · subst e
      refine hg_mono d (k + 1) _ ?_
      rw [Nat.testBit_or, if_pos ⟨hw, h⟩, (pow_bit _ _).mpr rfl, Bool.or_true]
    · exact hg_hit hw d (k + 1) _ (by omega) (by omega) (by rw [Nat.testBit_or, h]; rfl)
theorem hg_sound {w : Nat → Nat → Nat} {R : Nat → Prop} (hR : ∀ a b, R a → 0 < w a b → R b) : ∀ d k S, (∀ b, S.testBit b = true → R b) → ∀ b, (hg w d k S).testBit b = true → R b
  | 0, _, _, h => h
  | d + 1, k, S, h => hg_sound hR d (k + 1) _ (fun b hb => by
    rw [Nat.testBit_or, Bool.or_eq_true, if_bit] at hb
    rcases hb with hb | ⟨⟨h1, h2⟩, h3⟩
    · exact h b hb
    · rw [(pow_bit _ _).mp h3]
      exact hR _ _ (h _ h2) h1)
theorem hgs_ge {cs : Nat} {w : Nat → Nat → Nat} (hcs : cs ≤ 6) : ∀ r b, (rch cs w 0 r).testBit b = true → (hgs w r).testBit b = true
  | 0, b, h => h
  | r + 1, b, h => by
    rcases nx1_bit.mp h with h1 | ⟨c, h1, h2, h3, h4⟩
    · exact hg_mono 36 0 _ (hgs_ge hcs r b h1)
    · have e1 : (6 * c + b) / 6 = c := by omega
      have e2 : (6 * c + b) % 6 = b := by omega
      have := hg_hit (w := w) (m := 6 * c + b) (by rw [e1, e2]; exact h4) 36 0 (hgs w r) (by omega) (by omega) (by rw [e1]; exact hgs_ge hcs r c h2)
      rw [e2] at this
      exact this
theorem hgs_le {cs : Nat} {w : Nat → Nat → Nat} (hcs : cs ≤ 6) (h1 : 0 < cs) (hw : ∀ a b, 0 < w a b → a < cs ∧ b < cs) : ∀ r b, (hgs w r).testBit b = true → (rch cs w 0 (cs - 1)).testBit b = true
  | 0, b, h => by
    have h9 := rch_step (cs := cs) (w := w) (a := 0) 0 (cs - 1) h
    rw [Nat.zero_add] at h9
    exact h9
  | r + 1, b, h => hg_sound (R := fun b => (rch cs w 0 (cs - 1)).testBit b = true) (fun a b ha hab => by
      have := hw a b hab
      rw [← rch_st1 hcs h1]
      exact nx1_bit.mpr (Or.inr ⟨a, this.1, ha, this.2, hab⟩)) 36 0 _ (fun b hb => hgs_le hcs h1 hw r b hb) b h
theorem hgs_iff {cs : Nat} {w : Nat → Nat → Nat} (hcs : cs ≤ 6) (h1 : 0 < cs) (hw : ∀ a b, 0 < w a b → a < cs ∧ b < cs) : hgs w cs = 2 ^ cs - 1 ↔ ∀ c, c < cs → fw w cs 0 c < 99 := by
  have key : ∀ b, (hgs w cs).testBit b = true ↔ (rch cs w 0 (cs - 1)).testBit b = true := by
    intro b
    refine ⟨hgs_le hcs h1 hw cs b, fun h => hgs_ge hcs cs b ?_⟩
    have := rch_step (cs - 1) 1 h
    rw [show cs - 1 + 1 = cs by omega] at this
    exact this
  constructor
  · intro h c hc
    refine (fw_R hcs h1 hc).mp ((key c).mp ?_)
    rw [h, Nat.testBit_two_pow_sub_one, decide_eq_true_eq]
    exact hc
  · intro h
    apply Nat.eq_of_testBit_eq
    intro b
    rw [Nat.testBit_two_pow_sub_one]
    by_cases hb : b < cs
    · rw [decide_eq_true hb, key]
      exact (fw_R hcs h1 hb).mpr (h b hb)
    · rw [decide_eq_false hb]
      rw [← Bool.not_eq_true, key]
      intro q
      have h9 := Nat.testBit_lt_two_pow (Nat.lt_of_lt_of_le (rch_lt w h1 (cs - 1)) (Nat.pow_le_pow_right (n := 2) (by decide) (show cs ≤ b by omega)))
      rw [q] at h9
      cases h9
theorem hq6 : ∀ k, k < 36 → nI k / nI 6 = nI (k / 6) ∧ nI k - nI k / nI 6 * nI 6 = nI (k % 6) := by decide +kernel
theorem hqE : ∀ c, c < 7 → (nI 1 <<< (nI c &&& nI 31)) - nI 1 = nI (2 ^ c - 1) := by decide +kernel
theorem hqP : ∀ c, c < 7 → 2 ^ c - 1 < 64 := by decide +kernel
theorem pX8_hang_L14 {w : Nat → Nat → Nat} {M : rm_M} (hM : ∀ a b, a < 6 → b < 6 → M.1 85 (6 * a + b) = nI (w a b)) (hw : ∀ a b, w a b ≤ 4) (x2 : Int32) (q4 : Int32 → Int32 → rm_M → Option (Int32 × rm_M)) : ∀ d f k S, k + d = 36 → d < f → S < 64 → fX8_hang_L14 q4 f (nI S) x2 (nI k) M = q4 (nI (hg w d k S)) (x2 + nI 1) M := by
  intro d
  induction d with
  | zero =>
    intro f k S hk hf hS
    obtain ⟨f, rfl⟩ : ∃ z, f = z + 1 := ⟨f - 1, by omega⟩
    rw [fX8_hang_L14, pn_lit 36, if_pos (by rw [nI_leI (by omega) (by omega)]; omega), pn_lit 1, hg]
  | succ d ih =>
    intro f k S hk hf hS
    obtain ⟨f, rfl⟩ : ∃ z, f = z + 1 := ⟨f - 1, by omega⟩
    have m6 : k % 6 < 6 := Nat.mod_lt _ (by decide)
    have d6 : k / 6 < 6 := by omega
    have e85 : M.1 85 k = nI (w (k / 6) (k % 6)) := by
      have := hM (k / 6) (k % 6) d6 m6
      rw [show 6 * (k / 6) + k % 6 = k by omega] at this
      exact this
    have hww := hw (k / 6) (k % 6)
    have hs := hg_step_lt (S := S) (0 < w (k / 6) (k % 6) ∧ S.testBit (k / 6) = true) hS m6
    obtain ⟨q1, q2⟩ := hq6 k (by omega)
    rw [fX8_hang_L14, pn_lit 36, if_neg (by rw [nI_leI (by omega) (by omega)]; omega), if_pos (by rw [pn_ib (by omega), decide_eq_true_eq]; omega), nI_clamp (by omega), e85, pn_lit 0, pn_lit 6, pn_lit 31, pn_lit 1, hg]
    have z6 : ¬ nI 6 = nI 0 := by decide
    by_cases c : 0 < w (k / 6) (k % 6)
    · rw [if_neg (by rw [nI_leI (by omega) (by omega)]; omega), if_neg z6, if_neg z6, q2, q1, pn_tb (by omega) (by omega)]
      by_cases c2 : S.testBit (k / 6) = true
      · rw [if_pos c2, if_pos rfl]
        rw [if_pos ⟨c, c2⟩] at hs ⊢
        unfold fX8_hang_L52
        rw [pn_shl (by omega) (by have : 2 ^ (k % 6) < 2 ^ 6 := Nat.pow_lt_pow_right (by decide) m6; omega), pn_or, rm_lt1, pn_lit 1, nI_add, Nat.one_mul]
        exact ih f (k + 1) _ (by omega) (by omega) hs
      · rw [if_neg c2, if_neg (by decide)]
        rw [if_neg (fun q => c2 q.2), Nat.or_zero]
        unfold fX8_hang_L51 fX8_hang_L52
        rw [pn_lit 0, pn_or, rm_lt1, pn_lit 1, nI_add, Nat.or_zero]
        exact ih f (k + 1) _ (by omega) (by omega) hS
    · rw [if_pos (by rw [nI_leI (by omega) (by omega)]; omega), if_neg (fun q => c q.1), Nat.or_zero]
      unfold fX8_hang_L51 fX8_hang_L52
      rw [pn_lit 0, pn_or, rm_lt1, pn_lit 1, nI_add, Nat.or_zero]
      exact ih f (k + 1) _ (by omega) (by omega) hS
theorem pX8_hang {cs jn : Nat} {w : Nat → Nat → Nat} {pr v : Nat → Nat} {M : rm_M} (hW : WD cs jn w pr v) (hD : DM M cs jn w pr v) : (hgT cs w ∧ fX8_hang M = some (nI 1, M)) ∨ (¬ hgT cs w ∧ fX8_hang M = some (nI 0, M)) := by
  have hF := pn_F
  have hcs : cs ≤ 6 := by have := hW.1; omega
  have key : ∀ d f r, r + d = cs → d < f → (hgT cs w ∧ fX8_hang_L4 f (nI (hgs w r)) (nI r) M = some (nI 1, M)) ∨ (¬ hgT cs w ∧ fX8_hang_L4 f (nI (hgs w r)) (nI r) M = some (nI 0, M)) := by
    intro d
    induction d with
    | zero =>
      intro f r hr hf
      obtain ⟨f, rfl⟩ : ∃ z, f = z + 1 := ⟨f - 1, by omega⟩
      have : r = cs := by omega
      subst this
      have hl := hgs_lt w r
      have hp := hqP r (by omega)
      rw [fX8_hang_L4, hD.1, if_pos (by rw [nI_leI (by omega) (by omega)]; omega), pn_lit 0, pn_lit 1, pn_lit 31, hqE r (by omega)]
      by_cases c0 : r = 0
      · rw [if_pos (by rw [nI_leI (by omega) (by omega)]; omega)]
        exact Or.inr ⟨fun q => by have := q.1; omega, rfl⟩
      · rw [if_neg (by rw [nI_leI (by omega) (by omega)]; omega)]
        have h2 : 2 ≤ r := by have := hW.1; omega
        have hi := hgs_iff (w := w) hcs (by omega) hW.2.2.2.2.1
        by_cases c1 : hgs w r = 2 ^ r - 1
        · rw [if_pos (by rw [c1])]
          exact Or.inl ⟨⟨h2, hi.mp c1⟩, rfl⟩
        · rw [if_neg (by rw [nI_eq (by omega) (by omega)]; exact c1)]
          exact Or.inr ⟨fun q => c1 (hi.mpr q.2), rfl⟩
    | succ d ih =>
      intro f r hr hf
      obtain ⟨f, rfl⟩ : ∃ z, f = z + 1 := ⟨f - 1, by omega⟩
      rw [fX8_hang_L4, hD.1, if_neg (by rw [nI_leI (by omega) (by omega)]; omega), pn_lit 0, pX8_hang_L14 hD.2.2.1 hW.2.1 (nI r) (fX8_hang_L4 f) 36 rm_F 0 (hgs w r) (by omega) (by omega) (hgs_lt w r), nI_add]
      exact ih f (r + 1) (by omega) (by omega)
  unfold fX8_hang
  rw [pn_lit 0, pn_lit 1]
  exact key cs rm_F 0 (by omega) (by omega)
