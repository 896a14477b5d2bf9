/-! ===== cuts, the model ===== -/
theorem pX8_bits {b : Nat} (hb : b < 64) (M : rm_M) : fX8_bits (nI b) M = some (nI (pop b), M) := by
  have hF := pn_F
  have key : ∀ d f i acc, i + d = 6 → d < f → fX8_bits_L4 (nI b) f (nI acc) (nI i) M = some (nI (acc + rs (fun c => if b.testBit c then 1 else 0) i d), M) := by
    intro d
    induction d with
    | zero =>
      intro f i acc hi hf
      obtain ⟨f, rfl⟩ : ∃ z, f = z + 1 := ⟨f - 1, by omega⟩
      rw [fX8_bits_L4, pn_lit 6, if_pos (by rw [nI_leI (by omega) (by omega)]; omega), rs, Nat.add_zero]
    | succ d ih =>
      intro f i acc hi hf
      obtain ⟨f, rfl⟩ : ∃ z, f = z + 1 := ⟨f - 1, by omega⟩
      rw [fX8_bits_L4, pn_lit 6, if_neg (by rw [nI_leI (by omega) (by omega)]; omega), rm_lt1, pn_lit 1, pn_lit 31, pn_tb (by omega) (by omega), nI_add, nI_add, ih f _ _ (by omega) (by omega), rs, Nat.add_assoc]
  unfold fX8_bits
  rw [pn_lit 0, key 6 rm_F 0 0 (by omega) (by omega), Nat.zero_add]
  rfl
theorem p64 {n x : Nat} (hn : n < 6) (hx : x < 2 ^ n) : 2 ^ n + x < 64 := by
  have := p32 hn hx
  have h2 : 2 ^ n ≤ 32 := Nat.pow_le_pow_right (n := 2) (by decide) (show n ≤ 5 by omega)
  omega
theorem pX8_paged {M : rm_M} {n x cs : Nat} {r : Nat → Nat} {w : Nat → Nat → Nat} {v : Nat → Nat} (hW : WN cs w) (hv : ∀ c, c < 6 → v c ≤ 9) (hn : n < 6) (hx : x < 2 ^ n) (hM : MW M cs w) (hS : MV M 83 v) (hT : MT M cs w) (h23 : M.1 79 23 = nI (n + 1)) (h94 : ∀ j, j ≤ n → M.1 94 j = nI (r j)) (hr : ∀ j, j ≤ n → r j < cs) : fX8_paged (nI (2 ^ n + x)) M = some (J (mnF n x r (aI cs w v)), M) := by
  have hF := pn_F
  have h2 := hW.2.1
  have hc64 := p64 hn hx
  have eA : ∀ c, c < cs → J (trI cs w c) * (nI (ou cs w c + v c)).toInt64 = J (aI cs w v c) := by
    intro c hc
    have ho := ou_le hW hc
    have := hv c (by omega)
    rw [nI_J (by omega), J_mul, Int.mul_comm]
    rfl
  have inner : ∀ k, k ≤ n → ∀ (q5 : Int64 → Int32 → rm_M → Option (Int64 × rm_M)) acc d f to, to + d = n → d < f → fX8_paged_L18 (nI (2 ^ n + x)) q5 f (J acc) (nI k) (nI to) M = q5 (J (acc + ((ne x to d + 1 : Nat) : Int) * aI cs w v (r k))) (nI (k + 1)) M := by
    intro k hk q5 acc d
    induction d with
    | zero =>
      intro f to ht hf
      obtain ⟨f, rfl⟩ : ∃ z, f = z + 1 := ⟨f - 1, by omega⟩
      have hrk := hr k hk
      rw [fX8_paged_L18, pn_lit 1, pn_lit 31, pn_lit 0, pn_tb (by omega) (by omega), tbT hn hx (by omega), decide_eq_true (show to = n by omega), Bool.true_or, if_pos rfl, if_neg z10, if_pos (by rw [pn_ib (by omega), decide_eq_true_eq]; omega), nI_clamp (by omega), h94 k hk, if_pos (by rw [pn_ib (by omega), decide_eq_true_eq]; omega), if_pos (by rw [pn_ib (by omega), decide_eq_true_eq]; omega), pX8_sum hM hS h2 (by omega), pn_bd, rm_lt1, nI_clamp (by omega), hT _ hrk, eA _ hrk, nI_add, nI_add, nI_J (by omega), J_mul, J_add, ne, Int.mul_comm]
    | succ d ih =>
      intro f to ht hf
      obtain ⟨f, rfl⟩ : ∃ z, f = z + 1 := ⟨f - 1, by omega⟩
      have hrk := hr k hk
      rw [fX8_paged_L18, pn_lit 1, pn_lit 31, pn_lit 0, pn_tb (by omega) (by omega), tbT hn hx (by omega), decide_eq_false (show ¬ to = n by omega), Bool.false_or, ne]
      by_cases c : x.testBit to = true
      · rw [if_pos c, if_neg z10, if_pos c, if_pos (by rw [pn_ib (by omega), decide_eq_true_eq]; omega), nI_clamp (by omega), h94 k hk, if_pos (by rw [pn_ib (by omega), decide_eq_true_eq]; omega), if_pos (by rw [pn_ib (by omega), decide_eq_true_eq]; omega), pX8_sum hM hS h2 (by omega), pn_bd, rm_lt1, nI_clamp (by omega), hT _ hrk, eA _ hrk, nI_add, nI_add, nI_J (by omega), J_mul, J_add, Int.mul_comm]
      · rw [if_neg c, if_pos rfl, if_neg c, nI_add]
        exact ih f (to + 1) (by omega) (by omega)
  have key : ∀ d f i acc, i + d = n + 1 → d < f → fX8_paged_L5 (nI (2 ^ n + x)) f (J acc) (nI i) M = some (J (acc + isu (mf n x r (aI cs w v)) i d), M) := by
    intro d
    induction d with
    | zero =>
      intro f i acc hi hf
      obtain ⟨f, rfl⟩ : ∃ z, f = z + 1 := ⟨f - 1, by omega⟩
      rw [fX8_paged_L5, h23, if_pos (by rw [nI_leI (by omega) (by omega)]; omega), isu, Int.add_zero]
    | succ d ih =>
      intro f i acc hi hf
      obtain ⟨f, rfl⟩ : ∃ z, f = z + 1 := ⟨f - 1, by omega⟩
      rw [fX8_paged_L5, h23, if_neg (by rw [nI_leI (by omega) (by omega)]; omega), inner i (by omega) (fX8_paged_L5 (nI (2 ^ n + x)) f) acc (n - i) rm_F i (by omega) (by omega), ih f (i + 1) _ (by omega) (by omega), isu, Int.add_assoc]
      rfl
  unfold fX8_paged
  rw [J_lit 0, pn_lit 0, key (n + 1) rm_F 0 _ (by omega) (by omega), show ((0 : Nat) : Int) = 0 from rfl, Int.zero_add]
  rfl
theorem pX8_isFirst {n x y : Nat} (hn : n < 6) (hx : x < 2 ^ n) (hy : y < 2 ^ n) (M : rm_M) : fX8_isFirst (nI (2 ^ n + x)) (nI (2 ^ n + y)) M = some (nI (if rv n y < rv n x then 1 else 0), M) := by
  have h := fsC hn hx hy
  unfold fX8_isFirst
  rw [rm_lt1, rm_lt1]
  show (if fsI (nI (2 ^ n + x)) (nI (2 ^ n + y)) = 0 then _ else _) = _
  rw [pn_lit 0]
  by_cases c : rv n y < rv n x
  · rw [if_neg (fun q => h.mp q c), if_pos c]; rfl
  · rw [if_pos (h.mpr c), if_neg c]; rfl
theorem pX8_splits_L29 {n cs : Nat} {r : Nat → Nat} {w : Nat → Nat → Nat} {v pr : Nat → Nat} (hW : WN cs w) (hv : ∀ c, c < 6 → v c ≤ 9) (hn : n < 6) (hr : ∀ j, j ≤ n → r j < cs) (hp1 : 1 ≤ pr 0) (hp2 : pr 0 ≤ 4) : ∀ d f i xb M, i + d = 2 ^ n → d < f → 1 ≤ i → MW M cs w → MV M 83 v → MT M cs w → MPr M pr → M.1 79 23 = nI (n + 1) → (∀ j, j ≤ n → M.1 94 j = nI (r j)) → xb < i → pop xb + 1 ≤ pr 0 → M.1 79 24 = nI (2 ^ n + xb) → (∀ x, x < i → pop x + 1 ≤ pr 0 → x = xb ∨ bt (mnF n xb r (aI cs w v)) (mnF n x r (aI cs w v)) (pop xb + 1) (pop x + 1) (rv n xb) (rv n x)) →
    ∃ M2 y, fX8_splits_L29 f (nI (2 ^ n)) (J (mnF n xb r (aI cs w v))) (nI (2 ^ n + i)) M = some M2 ∧ y < 2 ^ n ∧ pop y + 1 ≤ pr 0 ∧ M2.1 79 24 = nI (2 ^ n + y) ∧ (∀ k, k ≠ 24 → M2.1 79 k = M.1 79 k) ∧ (∀ x, x < 2 ^ n → pop x + 1 ≤ pr 0 → x = y ∨ bt (mnF n y r (aI cs w v)) (mnF n x r (aI cs w v)) (pop y + 1) (pop x + 1) (rv n y) (rv n x)) ∧ FR (fun q => q = 79) M M2 := by
  have hbd : ∀ x, 0 ≤ mnF n x r (aI cs w v) ∧ mnF n x r (aI cs w v) ≤ 400896000000 := fun x => mnF_bd hn (fun j hj => by have := aI_bd hW hv (hr j hj); omega)
  have hq : 2 ^ n ≤ 32 := Nat.pow_le_pow_right (n := 2) (by decide) (show n ≤ 5 by omega)
  intro d
  induction d with
  | zero =>
    intro f i xb M hi hf h1 hM hS hT hP h23 h94 hxb hvb h24 hall
    obtain ⟨f, rfl⟩ : ∃ z, f = z + 1 := ⟨f - 1, by omega⟩
    refine ⟨M, xb, ?_, by omega, hvb, h24, fun k _ => rfl, fun x hx hvx => hall x (by omega) hvx, FR.rf⟩
    rw [fX8_splits_L29, pn_lit 2, pk_mul, if_pos (by rw [nI_leI (by omega) (by omega)]; omega)]
  | succ d ih =>
    intro f i xb M hi hf h1 hM hS hT hP h23 h94 hxb hvb h24 hall
    obtain ⟨f, rfl⟩ : ∃ z, f = z + 1 := ⟨f - 1, by omega⟩
    have hi2 : i < 2 ^ n := by omega
    have hx2 : xb < 2 ^ n := by omega
    obtain ⟨v1, v2, v3, v4, v5⟩ := rvA hn hi2
    obtain ⟨u1, u2, u3, u4, u5⟩ := rvA hn hx2
    have bi := hbd i
    have bx := hbd xb
    have hb1 := pX8_bits (p64 hn hi2) M
    have hb2 := pX8_bits (p64 hn hx2) M
    have hpg := pX8_paged hW hv hn hi2 hM hS hT h23 h94 hr
    have eP : M.1 82 (nI 0).toNatClampNeg = nI (pr 0) := by rw [nI_clamp (by omega)]; exact hP 0 (by omega)
    have step : ∀ y, y < i + 1 → pop y + 1 ≤ pr 0 → (∀ x, x < i + 1 → pop x + 1 ≤ pr 0 → x = y ∨ bt (mnF n y r (aI cs w v)) (mnF n x r (aI cs w v)) (pop y + 1) (pop x + 1) (rv n y) (rv n x)) →
        ∃ M2 y2, fX8_splits_L155 (fX8_splits_L29 f) (nI (2 ^ n)) (J (mnF n y r (aI cs w v))) (nI (2 ^ n + i)) (nI (2 ^ n + y)) M = some M2 ∧ y2 < 2 ^ n ∧ pop y2 + 1 ≤ pr 0 ∧ M2.1 79 24 = nI (2 ^ n + y2) ∧ (∀ k, k ≠ 24 → M2.1 79 k = M.1 79 k) ∧ (∀ x, x < 2 ^ n → pop x + 1 ≤ pr 0 → x = y2 ∨ bt (mnF n y2 r (aI cs w v)) (mnF n x r (aI cs w v)) (pop y2 + 1) (pop x + 1) (rv n y2) (rv n x)) ∧ FR (fun q => q = 79) M M2 := by
      intro y hy hvy hally
      unfold fX8_splits_L155
      rw [rm_lt1, pn_lit 1, nI_add, Nat.add_assoc]
      have r1 : FR (fun q => q = 79) M (rm_sI M 79 24 (nI (2 ^ n + y))) := FR.sI rfl
      have g : ∀ k, k ≠ 24 → (rm_sI M 79 24 (nI (2 ^ n + y))).1 79 k = M.1 79 k := fun k hk => by rw [pn_sI_eq, pn_upd_ne _ _ hk]
      obtain ⟨M2, y2, f2, c1, c2, c3, c4, c5, r2⟩ := ih f (i + 1) y (rm_sI M 79 24 (nI (2 ^ n + y))) (by omega) (by omega) (by omega) ⟨by rw [g 2 (by omega)]; exact hM.1, fun a b ha hb => by rw [(r1.1 81 (by omega)).1]; exact hM.2 a b ha hb⟩ (hS.fr r1 (by omega)) (hT.fr r1 (by omega)) (hP.fr r1 (by omega)) (by rw [g 23 (by omega)]; exact h23) (fun j hj => by rw [(r1.1 94 (by omega)).1]; exact h94 j hj) hy hvy (by rw [pn_sI_eq, pn_upd_eq]) hally
      exact ⟨M2, y2, f2, c1, c2, c3, fun k hk => by rw [c4 k hk, g k hk], c5, r1.tr r2⟩
    have keep : (∀ x, x < i + 1 → pop x + 1 ≤ pr 0 → x = xb ∨ bt (mnF n xb r (aI cs w v)) (mnF n x r (aI cs w v)) (pop xb + 1) (pop x + 1) (rv n xb) (rv n x)) → ∀ s0,
        ∃ M2 y2, fX8_splits_L125 (fX8_splits_L29 f) (nI (2 ^ n)) (J (mnF n xb r (aI cs w v))) (nI (2 ^ n + i)) s0 M = some M2 ∧ y2 < 2 ^ n ∧ pop y2 + 1 ≤ pr 0 ∧ M2.1 79 24 = nI (2 ^ n + y2) ∧ (∀ k, k ≠ 24 → M2.1 79 k = M.1 79 k) ∧ (∀ x, x < 2 ^ n → pop x + 1 ≤ pr 0 → x = y2 ∨ bt (mnF n y2 r (aI cs w v)) (mnF n x r (aI cs w v)) (pop y2 + 1) (pop x + 1) (rv n y2) (rv n x)) ∧ FR (fun q => q = 79) M M2 := by
      intro hall2 s0
      unfold fX8_splits_L125 fX8_splits_L126 fX8_splits_L139
      rw [pn_lit 0, if_pos rfl, if_pos rfl, h24]
      exact step xb (by omega) hvb hall2
    have take : pop i + 1 ≤ pr 0 → (∀ x, x < i + 1 → pop x + 1 ≤ pr 0 → x = i ∨ bt (mnF n i r (aI cs w v)) (mnF n x r (aI cs w v)) (pop i + 1) (pop x + 1) (rv n i) (rv n x)) →
        ∃ M2 y2, fX8_splits_L121 (fX8_splits_L29 f) (nI (2 ^ n)) (J (mnF n xb r (aI cs w v))) (nI (2 ^ n + i)) (J (mnF n i r (aI cs w v))) M = some M2 ∧ y2 < 2 ^ n ∧ pop y2 + 1 ≤ pr 0 ∧ M2.1 79 24 = nI (2 ^ n + y2) ∧ (∀ k, k ≠ 24 → M2.1 79 k = M.1 79 k) ∧ (∀ x, x < 2 ^ n → pop x + 1 ≤ pr 0 → x = y2 ∨ bt (mnF n y2 r (aI cs w v)) (mnF n x r (aI cs w v)) (pop y2 + 1) (pop x + 1) (rv n y2) (rv n x)) ∧ FR (fun q => q = 79) M M2 := by
      intro hvi hall2
      unfold fX8_splits_L121 fX8_splits_L126 fX8_splits_L139
      rw [pn_lit 0, pn_lit 1, if_neg z10, if_neg z10]
      exact step i (by omega) hvi hall2
    rw [fX8_splits_L29, pn_lit 2, pk_mul, if_neg (by rw [nI_leI (by omega) (by omega)]; omega), hb1, pn_bd, pn_lit 0, if_pos (by decide), eP, v4]
    by_cases hvi : pop i + 1 ≤ pr 0
    · rw [if_neg (by rw [nI_ltI (by omega) (by omega)]; omega), hpg, pn_bd]
      unfold fX8_splits_L63
      rw [pn_lit 0]
      by_cases c1 : mnF n i r (aI cs w v) < mnF n xb r (aI cs w v)
      · rw [if_pos (by rw [lgl, J_lt (by omega) (by omega) (by omega) (by omega)]; exact c1)]
        refine take hvi (fun x hx hvx => ?_)
        by_cases e : x = i
        · exact Or.inl e
        · right
          rcases hall x (by omega) hvx with e2 | e2
          · subst e2; exact Or.inl c1
          · unfold bt at *; omega
      · rw [if_neg (by rw [lgl, J_lt (by omega) (by omega) (by omega) (by omega)]; exact c1)]
        by_cases c2 : mnF n i r (aI cs w v) = mnF n xb r (aI cs w v)
        · rw [if_pos (by rw [lgz, c2]), hb1, pn_bd, h24, hb2, pn_bd, v4, u4]
          by_cases c3 : pop i < pop xb
          · rw [if_pos (by rw [nI_ltI (by omega) (by omega)]; omega)]
            refine take hvi (fun x hx hvx => ?_)
            by_cases e : x = i
            · exact Or.inl e
            · right
              rcases hall x (by omega) hvx with e2 | e2
              · subst e2; unfold bt; omega
              · unfold bt at *; omega
          · rw [if_neg (by rw [nI_ltI (by omega) (by omega)]; omega), hb1, pn_bd, h24, hb2, pn_bd, v4, u4]
            by_cases c4 : pop i = pop xb
            · rw [if_pos (by rw [c4]), h24, pX8_isFirst hn hi2 hx2, pn_bd]
              by_cases c5 : rv n xb < rv n i
              · rw [if_pos c5, if_neg z10]
                refine take hvi (fun x hx hvx => ?_)
                by_cases e : x = i
                · exact Or.inl e
                · right
                  rcases hall x (by omega) hvx with e2 | e2
                  · subst e2; unfold bt; omega
                  · unfold bt at *; omega
              · rw [if_neg c5, if_pos rfl]
                refine keep (fun x hx hvx => ?_) _
                by_cases e : x = i
                · subst e
                  right
                  have hne : rv n x ≠ rv n xb := by
                    intro q
                    have h3 : rv n (rv n x) = rv n (rv n xb) := by rw [q]
                    rw [v2, u2] at h3
                    omega
                  unfold bt
                  omega
                · exact hall x (by omega) hvx
            · rw [if_neg (by rw [nI_eq (by omega) (by omega)]; omega)]
              refine keep (fun x hx hvx => ?_) _
              by_cases e : x = i
              · subst e; right; unfold bt; omega
              · exact hall x (by omega) hvx
        · rw [if_neg (by rw [lgz, J_inj (by omega) (by omega) (by omega) (by omega)]; exact c2)]
          refine keep (fun x hx hvx => ?_) _
          by_cases e : x = i
          · subst e; right; unfold bt; omega
          · exact hall x (by omega) hvx
    · rw [if_pos (by rw [nI_ltI (by omega) (by omega)]; omega)]
      unfold fX8_splits_L63
      rw [pn_lit 0, J_lit 1, J_add, if_neg (by rw [lgl, J_lt (by omega) (by omega) (by omega) (by omega)]; omega), if_neg (by rw [lgz, J_inj (by omega) (by omega) (by omega) (by omega)]; omega)]
      refine keep (fun x hx hvx => ?_) _
      by_cases e : x = i
      · subst e; exact absurd hvx hvi
      · exact hall x (by omega) hvx
/-- the row; its length less one; the way to cut it that the document asks for, as the model's bits -/
theorem pX8_splits {cs : Nat} {w : Nat → Nat → Nat} {v pr : Nat → Nat} {M : rm_M} (hW : WN cs w) (hV : WV cs v) (h17 : v 17 < 1000) (hM : MW M cs w) (hS : MV M 83 v) (hP : MPr M pr) (hp1 : 1 ≤ pr 0) (hp2 : pr 0 ≤ 4) {n : Nat} {r : Nat → Nat} (hn : n < 6) (hL : (lin (aI cs w v) (whr cs w v) cs 0 0 (fun _ => 0)).1 = n + 1) (hrr : (lin (aI cs w v) (whr cs w v) cs 0 0 (fun _ => 0)).2 = r) (hr : ∀ j, j ≤ n → r j < cs) :
    ∃ M2 y, fX8_splits M = some M2 ∧ y < 2 ^ n ∧ pop y + 1 ≤ pr 0 ∧ M2.1 79 24 = nI (2 ^ n + y) ∧ M2.1 79 23 = nI (n + 1) ∧ (∀ j, j ≤ n → M2.1 94 j = nI (r j)) ∧ (∀ k, k ≠ 23 → k ≠ 24 → M2.1 79 k = M.1 79 k) ∧ (∀ x, x < 2 ^ n → pop x + 1 ≤ pr 0 → x = y ∨ bt (mnF n y r (aI cs w v)) (mnF n x r (aI cs w v)) (pop y + 1) (pop x + 1) (rv n y) (rv n x)) ∧ FR (fun q => q = 79 ∨ 85 ≤ q) M M2 := by
  have hF := pn_F
  have hv9 : ∀ c, c < 6 → v c ≤ 9 := fun c hc => (hV.2.1 c hc).1
  obtain ⟨M1, f1, g1, g2, g3, g4, r1⟩ := pX8_ranks hW hV h17 hM hS
  rw [hL] at g1 g2
  rw [hrr] at g2
  have hq : 2 ^ n ≤ 32 := Nat.pow_le_pow_right (n := 2) (by decide) (show n ≤ 5 by omega)
  have hq0 := Nat.two_pow_pos n
  have r2 : FR (fun q => q = 79) M1 (rm_sI M1 79 24 (nI (2 ^ n))) := FR.sI rfl
  have gk : ∀ k, k ≠ 24 → (rm_sI M1 79 24 (nI (2 ^ n))).1 79 k = M1.1 79 k := fun k hk => by rw [pn_sI_eq, pn_upd_ne _ _ hk]
  have hM2 : MW (rm_sI M1 79 24 (nI (2 ^ n))) cs w := ⟨by rw [gk 2 (by omega), g3 2 (by omega)]; exact hM.1, fun a b ha hb => by rw [(r2.1 81 (by omega)).1, (r1.1 81 (by omega)).1]; exact hM.2 a b ha hb⟩
  have hS2 : MV (rm_sI M1 79 24 (nI (2 ^ n))) 83 v := (hS.fr r1 (by omega)).fr r2 (by omega)
  have hT2 : MT (rm_sI M1 79 24 (nI (2 ^ n))) cs w := g4.fr r2 (by omega)
  have hP2 : MPr (rm_sI M1 79 24 (nI (2 ^ n))) pr := (hP.fr r1 (by omega)).fr r2 (by omega)
  have h23 : (rm_sI M1 79 24 (nI (2 ^ n))).1 79 23 = nI (n + 1) := by rw [gk 23 (by omega)]; exact g1
  have h94 : ∀ j, j ≤ n → (rm_sI M1 79 24 (nI (2 ^ n))).1 94 j = nI (r j) := fun j hj => by rw [(r2.1 94 (by omega)).1]; exact g2 j (by omega)
  have hpg := pX8_paged hW hv9 hn hq0 hM2 hS2 hT2 h23 h94 hr
  rw [Nat.add_zero] at hpg
  obtain ⟨M3, y, f3, c1, c2, c3, c4, c5, r3⟩ := pX8_splits_L29 hW hv9 hn hr hp1 hp2 (2 ^ n - 1) rm_F 1 0 _ (by omega) (by omega) (by omega) hM2 hS2 hT2 hP2 h23 h94 (by omega) (by show 0 + 1 ≤ pr 0; omega) (by rw [pn_sI_eq, pn_upd_eq, Nat.add_zero]) (fun x hx _ => Or.inl (by omega))
  refine ⟨M3, y, ?_, c1, c2, c3, by rw [c4 23 (by omega)]; exact h23, fun j hj => by rw [(r3.1 94 (by omega)).1]; exact h94 j hj, fun k h1 h2 => by rw [c4 k h2, gk k h2, g3 k h1], c5, r1.tr ((r2.mono (fun a ha => Or.inl ha)).tr (r3.mono (fun a ha => Or.inl ha)))⟩
  unfold fX8_splits
  rw [f1, pn_bv, g1, pn_lit 1, pn_lit 31, pk_sub (by omega), Nat.add_sub_cancel, sh1 (by omega), rm_lt1, rm_lt1, hpg, pn_bd, rm_lt1, nI_add, f3]
theorem bt_eq {n mo b y : Nat} {F : Nat → Int} (hn : n < 6) (hb : b < 2 ^ n) (hy : y < 2 ^ n) (vb : pop b + 1 ≤ mo) (vy : pop y + 1 ≤ mo) (h1 : ∀ t, t < 2 ^ n → pop t + 1 ≤ mo → t = b ∨ bt (F (rv n b)) (F (rv n t)) (pop b + 1) (pop t + 1) b t) (h2 : ∀ x, x < 2 ^ n → pop x + 1 ≤ mo → x = y ∨ bt (F y) (F x) (pop y + 1) (pop x + 1) (rv n y) (rv n x)) : b = rv n y := by
  obtain ⟨u1, u2, u3, u4, u5⟩ := rvA hn hy
  obtain ⟨v1, v2, v3, v4, v5⟩ := rvA hn hb
  rcases h1 (rv n y) u1 (by omega) with e1 | e1
  · exact e1.symm
  · rcases h2 (rv n b) v1 (by omega) with e2 | e2
    · rw [← e2, v2]
    · rw [u2] at e1
      rw [v2] at e2
      unfold bt at e1 e2
      omega
