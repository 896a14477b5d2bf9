/-! ===== THE TEXT, the class ===== -/
def fgB (tl : Nat) (tx : Nat → Nat) (p : Nat) : Bool := decide (p < tl) && decide (48 ≤ tx p) && decide (tx p ≤ 57)
def nE (tl : Nat) (tx : Nat → Nat) (p : Nat) : Nat := if fgB tl tx p = true then (if fgB tl tx (p + 1) = true then p + 2 else p + 1) else p
def nV (tl : Nat) (tx : Nat → Nat) (p : Nat) : Nat := if fgB tl tx p = true then (if fgB tl tx (p + 1) = true then 10 * (tx p - 48) + (tx (p + 1) - 48) else tx p - 48) else 0
def chB (tl : Nat) (tx : Nat → Nat) (p c : Nat) : Bool := decide (p < tl) && decide (tx p = c)
def sy (tl : Nat) (tx : Nat → Nat) : Nat → Nat → Bool
  | 0, _ => true
  | k + 1, p => fgB tl tx p && chB tl tx (nE tl tx p) (if k = 0 then 59 else 44) && sy tl tx k (nE tl tx p + 1)
def pkk (tl : Nat) (tx : Nat → Nat) : Nat → Nat → Nat
  | 0, p => p
  | k + 1, p => pkk tl tx k (nE tl tx p + 1)
def vv (tl : Nat) (tx : Nat → Nat) : Nat → Nat → Nat
  | 0, p => nV tl tx p
  | k + 1, p => vv tl tx k (nE tl tx p + 1)
theorem fg_iff {tl : Nat} {tx : Nat → Nat} {p : Nat} : fgB tl tx p = true ↔ p < tl ∧ 48 ≤ tx p ∧ tx p ≤ 57 := by
  unfold fgB
  simp only [Bool.and_eq_true, decide_eq_true_eq]
  omega
theorem ch_iff {tl : Nat} {tx : Nat → Nat} {p c : Nat} : chB tl tx p c = true ↔ p < tl ∧ tx p = c := by
  unfold chB
  simp only [Bool.and_eq_true, decide_eq_true_eq]
theorem nV_le (tl : Nat) (tx : Nat → Nat) (p : Nat) : nV tl tx p ≤ 99 := by
  unfold nV
  split
  · rename_i h
    have h1 := fg_iff.mp h
    split
    · rename_i h2
      have h3 := fg_iff.mp h2
      omega
    · omega
  · omega
theorem vv_le (tl : Nat) (tx : Nat → Nat) : ∀ k p, vv tl tx k p ≤ 99
  | 0, p => nV_le tl tx p
  | k + 1, p => vv_le tl tx k _
theorem nE_ge (tl : Nat) (tx : Nat → Nat) (p : Nat) : p ≤ nE tl tx p ∧ nE tl tx p ≤ p + 2 := by
  unfold nE
  split
  · split <;> omega
  · omega
theorem pkk_ge (tl : Nat) (tx : Nat → Nat) : ∀ k p, p ≤ pkk tl tx k p
  | 0, p => Nat.le_refl _
  | k + 1, p => by
    have := pkk_ge tl tx k (nE tl tx p + 1)
    have := nE_ge tl tx p
    rw [pkk]; omega
theorem pkk_le {tl : Nat} {tx : Nat → Nat} : ∀ k p, p ≤ tl → sy tl tx k p = true → pkk tl tx k p ≤ tl
  | 0, p, h, _ => h
  | k + 1, p, h, hs => by
    rw [sy, Bool.and_eq_true, Bool.and_eq_true] at hs
    have := (ch_iff.mp hs.1.2).1
    rw [pkk]
    exact pkk_le k _ (by omega) hs.2
/-- letters are small -/
def TB (tl : Nat) (tx : Nat → Nat) : Prop := tl ≤ 200 ∧ ∀ k, k < tl → 32 ≤ tx k ∧ tx k ≤ 126
theorem pX5_letterHere {M : rm_M} {tl p : Nat} {tx : Nat → Nat} (hT : TX M tl tx) (hB : TB tl tx) (hp : M.1 1 2 = nI p) (hp3 : p < 300) : fX5_letterHere M = some (if p < tl then nI (tx p) else -nI 1, M) := by
  have b := hB.1
  unfold fX5_letterHere
  rw [hT.1, hp]
  by_cases c : p < tl
  · rw [if_neg (by rw [nI_leI (by omega) (by omega)]; omega), if_pos (by rw [pn_ib (by omega), decide_eq_true_eq]; omega), nI_clamp (by omega), hT.2 p c, if_pos c]
  · rw [if_pos (by rw [nI_leI (by omega) (by omega)]; omega), if_neg c]; rfl
theorem pX5_figureHere {M : rm_M} {tl p : Nat} {tx : Nat → Nat} (hT : TX M tl tx) (hB : TB tl tx) (hp : M.1 1 2 = nI p) (hp3 : p < 300) : fX5_figureHere M = some (if fgB tl tx p = true then nI (tx p - 48) else -nI 1, M) := by
  have b := hB.1
  unfold fX5_figureHere fX5_figureHere_L43 fX5_figureHere_L44
  rw [hT.1, hp, pn_lit 0, pn_lit 1, pn_lit 48, pn_lit 57, if_pos rfl, if_neg z10]
  by_cases c : p < tl
  · have ht := hB.2 p c
    have hib : rm_ib (nI p) 200 = true := by rw [pn_ib (by omega), decide_eq_true_eq]; omega
    rw [if_neg (by rw [nI_leI (by omega) (by omega)]; omega), if_pos hib, if_pos hib, nI_clamp (by omega), hT.2 p c]
    by_cases c1 : tx p < 48
    · rw [if_pos (by rw [nI_ltI (by omega) (by omega)]; exact c1), if_neg (fun q => by have := fg_iff.mp q; omega)]
    · rw [if_neg (by rw [nI_ltI (by omega) (by omega)]; exact c1)]
      by_cases c2 : 57 < tx p
      · rw [if_pos (by rw [nI_ltI (by omega) (by omega)]; exact c2), if_neg (fun q => by have := fg_iff.mp q; omega)]
      · rw [if_neg (by rw [nI_ltI (by omega) (by omega)]; exact c2), if_pos hib, if_pos (fg_iff.mpr ⟨c, by omega, by omega⟩), pk_sub (by omega)]
  · rw [if_pos (by rw [nI_leI (by omega) (by omega)]; omega), if_neg (fun q => by have := fg_iff.mp q; omega)]
theorem m1neg : ¬ (nI 0 ≤ -nI 1) := by decide
theorem TX.pl {M : rm_M} {tl : Nat} {tx : Nat → Nat} (h : TX M tl tx) {M2 : rm_M} (h1 : ∀ k, k ≠ 2 → M2.1 1 k = M.1 1 k) (h2 : M2.1 2 = M.1 2) : TX M2 tl tx := ⟨by rw [h1 3 (by omega)]; exact h.1, fun k hk => by rw [h2]; exact h.2 k hk⟩
theorem pX5_readNumber {M : rm_M} {tl p : Nat} {tx : Nat → Nat} (hT : TX M tl tx) (hB : TB tl tx) (hp : M.1 1 2 = nI p) (hp3 : p < 290) : ∃ M2, fX5_readNumber M = some (if fgB tl tx p = true then nI (nV tl tx p) else -nI 1, M2) ∧ M2.1 1 2 = nI (nE tl tx p) ∧ (∀ k, k ≠ 2 → M2.1 1 k = M.1 1 k) ∧ FR (fun q => q = 1) M M2 := by
  unfold fX5_readNumber
  rw [pX5_figureHere hT hB hp (by omega), pn_bd, pn_lit 0]
  by_cases c : fgB tl tx p = true
  · have hf := fg_iff.mp c
    have r1 : FR (fun q => q = 1) M (rm_sI M 1 2 (nI (p + 1))) := FR.sI rfl
    have g1 : ∀ k, k ≠ 2 → (rm_sI M 1 2 (nI (p + 1))).1 1 k = M.1 1 k := fun k hk => by rw [pn_sI_eq, pn_upd_ne _ _ hk]
    have hp1 : (rm_sI M 1 2 (nI (p + 1))).1 1 2 = nI (p + 1) := by rw [pn_sI_eq, pn_upd_eq]
    rw [if_pos c, if_pos (by rw [nI_leI (by omega) (by omega)]; omega), if_pos c, hp, pn_lit 1, nI_add, rm_lt1, pX5_figureHere (hT.pl g1 (r1.1 2 (by omega)).1) hB hp1 (by omega), pn_bd]
    by_cases c2 : fgB tl tx (p + 1) = true
    · have hf2 := fg_iff.mp c2
      have r2 : FR (fun q => q = 1) M (rm_sI (rm_sI M 1 2 (nI (p + 1))) 1 2 (nI (p + 2))) := FR.sIr r1 rfl
      refine ⟨rm_sI (rm_sI M 1 2 (nI (p + 1))) 1 2 (nI (p + 2)), ?_, ?_, fun k hk => ?_, r2⟩
      · rw [if_pos c2, if_pos (by rw [nI_leI (by omega) (by omega)]; omega), rm_lt1, hp1, nI_add, pn_lit 10, pk_mul, nI_add]
        unfold nV
        rw [if_pos c, if_pos c2]
      · rw [pn_sI_eq, pn_upd_eq]; unfold nE; rw [if_pos c, if_pos c2]
      · rw [pn_sI_eq, pn_upd_ne _ _ hk]; exact g1 k hk
    · refine ⟨rm_sI M 1 2 (nI (p + 1)), ?_, ?_, g1, r1⟩
      · rw [if_neg c2, if_neg m1neg]
        unfold nV
        rw [if_pos c, if_neg c2]
      · rw [hp1]; unfold nE; rw [if_pos c, if_neg c2]
  · rw [if_neg c, if_neg m1neg, if_neg c]
    refine ⟨M, rfl, ?_, fun k _ => rfl, FR.rf⟩
    rw [hp]; unfold nE; rw [if_neg c]
theorem pX5_readNumbers_L2 {tl K : Nat} {tx : Nat → Nat} (hB : TB tl tx) (hK : K ≤ 4) (hK1 : 1 ≤ K) : ∀ k f i p M, i + k = K → k < f → p ≤ 201 → TX M tl tx → M.1 1 2 = nI p →
    ∃ M2, fX5_readNumbers_L2 (nI K) f (nI i) M = some (nI (if sy tl tx k p = true then 1 else 0), M2) ∧ (sy tl tx k p = true → M2.1 1 2 = nI (pkk tl tx k p) ∧ ∀ j, j < k → M2.1 3 (i + j) = nI (vv tl tx j p)) ∧ (∀ j, j < i → M2.1 3 j = M.1 3 j) ∧ (∀ k, k ≠ 2 → M2.1 1 k = M.1 1 k) ∧ FR (fun q => q = 1 ∨ q = 3) M M2 := by
  have b := hB.1
  intro k
  induction k with
  | zero =>
    intro f i p M hi hf hp hT hpl
    obtain ⟨f, rfl⟩ : ∃ z, f = z + 1 := ⟨f - 1, by omega⟩
    refine ⟨M, ?_, fun _ => ⟨hpl, fun j hj => by omega⟩, fun j _ => rfl, fun k _ => rfl, FR.rf⟩
    rw [fX5_readNumbers_L2, if_pos (by rw [nI_leI (by omega) (by omega)]; omega)]
    unfold fX5_readNumbers_L70
    rw [pn_lit 0, if_neg (by rw [nI_leI (by omega) (by omega)]; omega), sy, if_pos rfl]
    rfl
  | succ k ih =>
    intro f i p M hi hf hp hT hpl
    obtain ⟨f, rfl⟩ : ∃ z, f = z + 1 := ⟨f - 1, by omega⟩
    have hib : rm_ib (nI i) 4 = true := by rw [pn_ib (by omega), decide_eq_true_eq]; omega
    have hnv := nV_le tl tx p
    have hne := nE_ge tl tx p
    obtain ⟨M1, f1, g1, g2, r1⟩ := pX5_readNumber hT hB hpl (by omega)
    rw [fX5_readNumbers_L2, if_neg (by rw [nI_leI (by omega) (by omega)]; omega), pn_lit 4, if_neg (by rw [nI_leI (by omega) (by omega)]; omega), f1, pn_bd, if_pos hib, nI_clamp (by omega), rm_lt1, if_pos hib, pn_sI_eq, pn_upd_eq, pn_lit 0, pn_lit 1, nI_add]
    by_cases c : fgB tl tx p = true
    · rw [if_pos c, if_neg (by rw [nI_ltI (by omega) (by omega)]; omega)]
      have r2 : FR (fun q => q = 1 ∨ q = 3) M (rm_sI M1 3 i (nI (nV tl tx p))) := FR.sIr (r1.mono (fun a ha => Or.inl ha)) (Or.inr rfl)
      have q2 : ∀ k, k ≠ 2 → (rm_sI M1 3 i (nI (nV tl tx p))).1 1 k = M.1 1 k := fun k hk => by rw [pn_sI_ne _ _ _ (by omega)]; exact g2 k hk
      have p2 : (rm_sI M1 3 i (nI (nV tl tx p))).1 1 2 = nI (nE tl tx p) := by rw [pn_sI_ne _ _ _ (by omega)]; exact g1
      have T2 : TX (rm_sI M1 3 i (nI (nV tl tx p))) tl tx := hT.pl q2 (r2.1 2 (by omega)).1
      rw [pX5_letterHere T2 hB p2 (by omega), pn_bd]
      have go : ∀ e, e = (if k = 0 then 59 else 44) → ∃ M2, fX5_readNumbers_L49 (nI K) (fX5_readNumbers_L2 (nI K) f) (nI i) (if nE tl tx p < tl then nI (tx (nE tl tx p)) else -nI 1) (nI e) (rm_sI M1 3 i (nI (nV tl tx p))) = some (nI (if sy tl tx (k + 1) p = true then 1 else 0), M2) ∧ (sy tl tx (k + 1) p = true → M2.1 1 2 = nI (pkk tl tx (k + 1) p) ∧ ∀ j, j < k + 1 → M2.1 3 (i + j) = nI (vv tl tx j p)) ∧ (∀ j, j < i → M2.1 3 j = M.1 3 j) ∧ (∀ k, k ≠ 2 → M2.1 1 k = M.1 1 k) ∧ FR (fun q => q = 1 ∨ q = 3) M M2 := by
        intro e he
        have he2 : e < 100 := by rw [he]; split <;> omega
        unfold fX5_readNumbers_L49
        by_cases c2 : chB tl tx (nE tl tx p) e = true
        · have h2 := ch_iff.mp c2
          rw [if_pos h2.1, h2.2, if_pos rfl, rm_lt1, p2, pn_lit 1, nI_add, nI_add]
          have r3 : FR (fun q => q = 1 ∨ q = 3) M (rm_sI (rm_sI M1 3 i (nI (nV tl tx p))) 1 2 (nI (nE tl tx p + 1))) := FR.sIr r2 (Or.inl rfl)
          have q3 : ∀ k, k ≠ 2 → (rm_sI (rm_sI M1 3 i (nI (nV tl tx p))) 1 2 (nI (nE tl tx p + 1))).1 1 k = M.1 1 k := fun k hk => by rw [pn_sI_eq, pn_upd_ne _ _ hk]; exact q2 k hk
          obtain ⟨M2, f4, s4, j4, q4, r4⟩ := ih f (i + 1) (nE tl tx p + 1) _ (by omega) (by omega) (by omega) (hT.pl q3 (r3.1 2 (by omega)).1) (by rw [pn_sI_eq, pn_upd_eq])
          have esy : sy tl tx (k + 1) p = sy tl tx k (nE tl tx p + 1) := by rw [sy, c, ← he, c2]; rfl
          refine ⟨M2, by rw [f4, esy], fun hs => ?_, fun j hj => ?_, fun k hk => by rw [q4 k hk, q3 k hk], r3.tr r4⟩
          · rw [esy] at hs
            obtain ⟨s5, s6⟩ := s4 hs
            refine ⟨s5, fun j hj => ?_⟩
            cases j with
            | zero =>
              rw [Nat.add_zero, j4 i (by omega), pn_sI_ne _ _ _ (by omega), pn_sI_eq, pn_upd_eq]
              rfl
            | succ j =>
              rw [show i + (j + 1) = i + 1 + j by omega, s6 j (by omega)]
              rfl
          · rw [j4 j (by omega), pn_sI_ne _ _ _ (by omega), pn_sI_eq, pn_upd_ne _ _ (by omega), (r1.1 3 (by omega)).1]
        · have esy : sy tl tx (k + 1) p = false := by
            rw [sy, ← he]
            rw [Bool.not_eq_true] at c2
            rw [c2]
            simp
          have hneq : ¬ (if nE tl tx p < tl then nI (tx (nE tl tx p)) else -nI 1) = nI e := by
            by_cases c3 : nE tl tx p < tl
            · have := hB.2 _ c3
              rw [if_pos c3, nI_eq (by omega) (by omega)]
              intro q
              exact c2 (ch_iff.mpr ⟨c3, q⟩)
            · rw [if_neg c3]
              intro q
              have h9 : (-nI 1 : Int32).toInt = (nI e).toInt := by rw [q]
              rw [nI_toInt (by omega)] at h9
              have : (-nI 1 : Int32).toInt = -1 := rfl
              omega
          rw [if_neg hneq, pn_lit 0, esy]
          refine ⟨_, rfl, fun q => (by cases q), fun j hj => ?_, q2, r2⟩
          rw [pn_sI_eq, pn_upd_ne _ _ (by omega), (r1.1 3 (by omega)).1]
      rw [pn_lit 59, pn_lit 44]
      by_cases k0 : k = 0
      · rw [if_pos (by rw [nI_leI (by omega) (by omega)]; omega)]
        exact go 59 (by rw [if_pos k0])
      · rw [if_neg (by rw [nI_leI (by omega) (by omega)]; omega)]
        exact go 44 (by rw [if_neg k0])
    · have esy : sy tl tx (k + 1) p = false := by
        rw [sy]
        rw [Bool.not_eq_true] at c
        rw [c]
        rfl
      rw [if_neg c, if_pos (by decide), esy]
      refine ⟨_, rfl, fun q => (by cases q), fun j hj => ?_, fun k hk => ?_, FR.sIr (r1.mono (fun a ha => Or.inl ha)) (Or.inr rfl)⟩
      · rw [pn_sI_eq, pn_upd_ne _ _ (by omega), (r1.1 3 (by omega)).1]
      · rw [pn_sI_ne _ _ _ (by omega)]; exact g2 k hk
/-! the net as it is read -/
def netD (M : rm_M) (n : Nat) (w : Nat → Nat → Nat) : Prop := (∀ a b, a < 6 → b < 6 → M.1 (n + 1 + 1 + a) b = nI (w a b)) ∧ (∀ a b, a < 6 → b < 6 → M.1 (n + 8 + 1 + a) b = nI (fw w 0 a b)) ∧ (∀ a, a < 6 → M.1 (n + 15) a = nI (nr 6 w a)) ∧ ∀ a, a < 6 → M.1 (n + 16) a = nI (ou 6 w a)
def w0 : Nat → Nat → Nat := fun _ _ => 0
def prd : Nat → Nat := fun k => if k = 0 then 2 else if k = 1 then 1 else if k = 2 then 5 else 10
theorem nr_w0 (a : Nat) : nr 6 w0 a = 0 := by simp [nr, ro, w0]
theorem netD.fr {S : Nat → Prop} {M M2 : rm_M} {n : Nat} {w : Nat → Nat → Nat} (h : netD M n w) (hF : FR S M M2) (h0 : ∀ a, n + 2 ≤ a → a < n + 17 → ¬ S a) : netD M2 n w := by
  obtain ⟨h1, h2, h3, h4⟩ := h
  refine ⟨fun a b ha hb => ?_, fun a b ha hb => ?_, fun a ha => ?_, fun a ha => ?_⟩
  · rw [(hF.1 _ (h0 _ (by omega) (by omega))).1]; exact h1 a b ha hb
  · rw [(hF.1 _ (h0 _ (by omega) (by omega))).1]; exact h2 a b ha hb
  · rw [(hF.1 _ (h0 _ (by omega) (by omega))).1]; exact h3 a ha
  · rw [(hF.1 _ (h0 _ (by omega) (by omega))).1]; exact h4 a ha
theorem pX1_price {M : rm_M} {n r c u q : Nat} : ∃ M2, fX1_price n (nI r) (nI c) (nI u) (nI q) M = some M2 ∧ (∀ k, k < 2 → M2.1 n k = M.1 n k) ∧ M2.1 n 2 = nI r ∧ M2.1 n 3 = nI c ∧ M2.1 n 4 = nI u ∧ M2.1 n 5 = nI q ∧ FR (fun a => a = n) M M2 := by
  unfold fX1_price
  simp only [rm_lt1]
  refine ⟨_, rfl, fun k hk => ?_, ?_, ?_, ?_, ?_, FR.sIr (FR.sIr (FR.sIr (FR.sIr FR.rf rfl) rfl) rfl) rfl⟩ <;> simp (disch := omega) only [pn_sI_eq, pn_upd_eq, pn_upd_ne]
theorem kdrow {n a : Nat} (hn : n = 14 ∨ n = 33) (ha : a < 6) : (rm_kd (n + 8 + 1 + a)).2 = 6 := by
  rcases hn with rfl | rfl <;> rcases (show a = 0 ∨ a = 1 ∨ a = 2 ∨ a = 3 ∨ a = 4 ∨ a = 5 by omega) with rfl | rfl | rfl | rfl | rfl | rfl <;> rfl
theorem pX1_begin_L34 {n i : Nat} (hn : n = 14 ∨ n = 33) (hi : i < 6) (a1 : Int32) (q12 : Int32 → rm_M → Option rm_M) : ∀ d f j M, j + d = 6 → d < f → (∀ b, b < j → M.1 (n + 1 + 1 + i) b = nI 0 ∧ M.1 (n + 8 + 1 + i) b = nI (fw w0 0 i b)) → ∃ M2, fX1_begin_L34 n a1 q12 f (nI i) (nI j) M = q12 (nI (i + 1)) M2 ∧ (∀ b, b < 6 → M2.1 (n + 1 + 1 + i) b = nI 0 ∧ M2.1 (n + 8 + 1 + i) b = nI (fw w0 0 i b)) ∧ FR (fun q => q = n + 1 + 1 + i ∨ q = n + 8 + 1 + i) M M2 := by
  intro d
  induction d with
  | zero =>
    intro f j M hj hf h0
    obtain ⟨f, rfl⟩ : ∃ z, f = z + 1 := ⟨f - 1, by omega⟩
    refine ⟨M, ?_, fun b hb => h0 b (by omega), FR.rf⟩
    rw [fX1_begin_L34, pn_lit 6, if_pos (by rw [nI_leI (by omega) (by omega)]; omega), pn_lit 1, nI_add]
  | succ d ih =>
    intro f j M hj hf h0
    obtain ⟨f, rfl⟩ : ∃ z, f = z + 1 := ⟨f - 1, by omega⟩
    have hib : rm_ib (nI i) 6 = true := by rw [pn_ib (by omega), decide_eq_true_eq]; omega
    have hib2 : rm_ib (nI j) 6 = true := by rw [pn_ib (by omega), decide_eq_true_eq]; omega
    have go : ∀ y, y = fw w0 0 i j → ∃ M2, fX1_begin_L67 n a1 q12 (fX1_begin_L34 n a1 q12 f) (nI i) (nI j) (n + 8 + 1 + i) (nI j) (nI y) (rm_sI M (n + 1 + 1 + i) j (nI 0)) = q12 (nI (i + 1)) M2 ∧ (∀ b, b < 6 → M2.1 (n + 1 + 1 + i) b = nI 0 ∧ M2.1 (n + 8 + 1 + i) b = nI (fw w0 0 i b)) ∧ FR (fun q => q = n + 1 + 1 + i ∨ q = n + 8 + 1 + i) M M2 := by
      intro y hy
      unfold fX1_begin_L67
      rw [kdrow hn hi, if_pos hib2, rm_lt1, nI_clamp (by omega), pn_lit 1, nI_add]
      obtain ⟨M2, f2, g2, r2⟩ := ih f (j + 1) (rm_sI (rm_sI M (n + 1 + 1 + i) j (nI 0)) (n + 8 + 1 + i) j (nI y)) (by omega) (by omega) (fun b hb => by
        rw [pn_sI_ne _ _ _ (by omega), pn_sI_eq, pn_sI_eq, pn_sI_ne _ _ _ (by omega)]
        by_cases e : b = j
        · subst e; rw [pn_upd_eq, pn_upd_eq, hy]; exact ⟨rfl, rfl⟩
        · rw [pn_upd_ne _ _ e, pn_upd_ne _ _ e]; exact h0 b (by omega))
      exact ⟨M2, f2, g2, FR.tr (FR.sIr (FR.sIr FR.rf (Or.inl rfl)) (Or.inr rfl)) r2⟩
    rw [fX1_begin_L34, pn_lit 6, if_neg (by rw [nI_leI (by omega) (by omega)]; omega), if_pos hib, if_pos hib2, rm_lt1, if_pos hib, nI_clamp (by omega), nI_clamp (by omega), pn_lit 0, pn_lit 99]
    by_cases e : i = j
    · rw [if_pos (by rw [e])]
      exact go 0 (by unfold fw; rw [if_pos e])
    · rw [if_neg (by rw [nI_eq (by omega) (by omega)]; exact e)]
      exact go 99 (by unfold fw w0; rw [if_neg e, if_neg (by omega)])
theorem pX1_begin {n c : Nat} (hn : n = 14 ∨ n = 33) {M : rm_M} : ∃ M2, fX1_begin n (nI c) M = some M2 ∧ M2.1 n 0 = nI c ∧ M2.1 n 1 = nI 0 ∧ netD M2 n w0 ∧ CPr M2 n prd ∧ FR (fun q => n ≤ q ∧ q < n + 17) M M2 := by
  have hF := pn_F
  have key : ∀ d f i M, i + d = 6 → d < f → M.1 n 0 = nI c → M.1 n 1 = nI 0 → (∀ a, a < i → (∀ b, b < 6 → M.1 (n + 1 + 1 + a) b = nI 0 ∧ M.1 (n + 8 + 1 + a) b = nI (fw w0 0 a b)) ∧ M.1 (n + 15) a = nI 0 ∧ M.1 (n + 16) a = nI 0) → ∃ M2, fX1_begin_L12 n (nI c) f (nI i) M = some M2 ∧ M2.1 n 0 = nI c ∧ M2.1 n 1 = nI 0 ∧ netD M2 n w0 ∧ CPr M2 n prd ∧ FR (fun q => n ≤ q ∧ q < n + 17) M M2 := by
    intro d
    induction d with
    | zero =>
      intro f i M hi hf h0 h1 hr
      obtain ⟨f, rfl⟩ : ∃ z, f = z + 1 := ⟨f - 1, by omega⟩
      obtain ⟨M2, f2, g0, g2, g3, g4, g5, r2⟩ := pX1_price (M := M) (n := n) (r := 2) (c := 1) (u := 5) (q := 10)
      rw [fX1_begin_L12, pn_lit 6, if_pos (by rw [nI_leI (by omega) (by omega)]; omega), pn_lit 2, pn_lit 1, pn_lit 5, pn_lit 10, f2, pn_bv]
      refine ⟨M2, rfl, by rw [g0 0 (by omega)]; exact h0, by rw [g0 1 (by omega)]; exact h1, ?_, fun k hk => ?_, r2.mono (fun a ha => by omega)⟩
      · refine ⟨fun a b ha hb => ?_, fun a b ha hb => ?_, fun a ha => ?_, fun a ha => ?_⟩
        · rw [(r2.1 _ (by omega)).1]; exact ((hr a (by omega)).1 b hb).1
        · rw [(r2.1 _ (by omega)).1]; exact ((hr a (by omega)).1 b hb).2
        · rw [(r2.1 _ (by omega)).1, nr_w0]; exact (hr a (by omega)).2.1
        · rw [(r2.1 _ (by omega)).1]; exact (hr a (by omega)).2.2
      · rcases (show k = 0 ∨ k = 1 ∨ k = 2 ∨ k = 3 by omega) with rfl | rfl | rfl | rfl
        · exact g2
        · exact g3
        · exact g4
        · exact g5
    | succ d ih =>
      intro f i M hi hf h0 h1 hr
      obtain ⟨f, rfl⟩ : ∃ z, f = z + 1 := ⟨f - 1, by omega⟩
      have hib : rm_ib (nI i) 6 = true := by rw [pn_ib (by omega), decide_eq_true_eq]; omega
      have r1 : FR (fun q => n ≤ q ∧ q < n + 17) M (rm_sI (rm_sI M (n + 15) i (nI 0)) (n + 16) i (nI 0)) := FR.sIr (FR.sIr FR.rf (by omega)) (by omega)
      rw [fX1_begin_L12, pn_lit 6, if_neg (by rw [nI_leI (by omega) (by omega)]; omega), if_pos hib, rm_lt1, if_pos hib, rm_lt1, nI_clamp (by omega), pn_lit 0]
      obtain ⟨M2, f2, g2, r2⟩ := pX1_begin_L34 hn (show i < 6 by omega) (nI c) (fX1_begin_L12 n (nI c) f) 6 rm_F 0 (rm_sI (rm_sI M (n + 15) i (nI 0)) (n + 16) i (nI 0)) (by omega) (by omega) (fun b hb => by omega)
      rw [f2]
      have r12 : FR (fun q => n ≤ q ∧ q < n + 17) M M2 := r1.tr (r2.mono (fun a ha => by omega))
      obtain ⟨M3, f3, a1, a2, a3, a4, r3⟩ := ih f (i + 1) M2 (by omega) (by omega) (by rw [(r2.1 n (by omega)).1, pn_sI_ne _ _ _ (by omega), pn_sI_ne _ _ _ (by omega)]; exact h0) (by rw [(r2.1 n (by omega)).1, pn_sI_ne _ _ _ (by omega), pn_sI_ne _ _ _ (by omega)]; exact h1) (fun a ha => by
        by_cases e : a = i
        · subst e
          refine ⟨g2, ?_, ?_⟩
          · rw [(r2.1 _ (by omega)).1, pn_sI_ne _ _ _ (by omega), pn_sI_eq, pn_upd_eq]
          · rw [(r2.1 _ (by omega)).1, pn_sI_eq, pn_upd_eq]
        · have hra := hr a (by omega)
          refine ⟨fun b hb => ?_, ?_, ?_⟩
          · rw [(r2.1 _ (by omega)).1, (r2.1 _ (by omega)).1, pn_sI_ne _ _ _ (by omega), pn_sI_ne _ _ _ (by omega), pn_sI_ne _ _ _ (by omega), pn_sI_ne _ _ _ (by omega)]; exact hra.1 b hb
          · rw [(r2.1 _ (by omega)).1, pn_sI_ne _ _ _ (by omega), pn_sI_eq, pn_upd_ne _ _ e]; exact hra.2.1
          · rw [(r2.1 _ (by omega)).1, pn_sI_eq, pn_upd_ne _ _ e, pn_sI_ne _ _ _ (by omega)]; exact hra.2.2)
      exact ⟨M3, f3, a1, a2, a3, a4, r12.tr r3⟩
  unfold fX1_begin
  rw [rm_lt1, rm_lt1, pn_lit 0]
  have r0 : FR (fun q => n ≤ q ∧ q < n + 17) M (rm_sI (rm_sI M n 0 (nI c)) n 1 (nI 0)) := FR.sIr (FR.sIr FR.rf (by omega)) (by omega)
  obtain ⟨M2, f2, a1, a2, a3, a4, r2⟩ := key 6 rm_F 0 (rm_sI (rm_sI M n 0 (nI c)) n 1 (nI 0)) (by omega) (by omega) (by simp (disch := omega) only [pn_sI_eq, pn_upd_eq, pn_upd_ne]) (by simp (disch := omega) only [pn_sI_eq, pn_upd_eq]) (fun a ha => by omega)
  exact ⟨M2, f2, a1, a2, a3, a4, r0.tr r2⟩
