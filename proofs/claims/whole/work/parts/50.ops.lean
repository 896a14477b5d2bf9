/-! ===== calls that change nothing, and the text's ===== -/
theorem natOr (a : Int32) {n : Nat} (hn : n < 2 ^ 31) : (∃ k, k < n ∧ a = nI k) ∨ (a < nI 0 ∨ nI n ≤ a) := by
  by_cases h : a < nI 0
  · exact Or.inr (Or.inl h)
  · by_cases h2 : nI n ≤ a
    · exact Or.inr (Or.inr h2)
    · rw [pn_ltT, nI_toInt (by omega)] at h
      rw [pn_leT, nI_toInt hn] at h2
      refine Or.inl ⟨a.toInt.toNat, by omega, ?_⟩
      apply Int32.toInt_inj.1
      rw [nI_toInt (by omega)]
      omega
theorem pX8_isIn_yes {lo hi k : Nat} (h1 : lo ≤ k) (h2 : k ≤ hi) (h3 : hi < 2 ^ 31) (M : rm_M) : fX8_isIn (nI k) (nI lo) (nI hi) M = some (nI 1, M) := by
  unfold fX8_isIn
  rw [if_neg (by rw [nI_ltI (by omega) (by omega)]; omega), if_neg (by rw [nI_ltI (by omega) (by omega)]; omega)]
  rfl
theorem pX8_isIn_no {a : Int32} {lo hi : Nat} (h : a < nI lo ∨ nI (hi + 1) ≤ a) (h3 : hi + 1 < 2 ^ 31) (M : rm_M) : fX8_isIn a (nI lo) (nI hi) M = some (nI 0, M) := by
  unfold fX8_isIn
  by_cases c : a < nI lo
  · rw [if_pos c]; rfl
  · rw [if_neg c, if_pos]
    · rfl
    · have h2 := h.resolve_left c
      rw [pn_leT, nI_toInt h3] at h2
      rw [pn_ltT, nI_toInt (by omega)]
      omega
theorem z10 : ¬ nI 1 = nI 0 := by decide
theorem Inv.ro {S : Nat → Prop} {t : Nat} {M M2 : rm_M} (h : Inv t M) (hF : FR S M M2) (hS : ∀ a, S a → scr a ∧ (a < 79 ∨ 85 ≤ a)) : Inv (t + 1) M2 := by
  obtain ⟨n, s, tl, tx, cs, jn, w, pr, v, hc, nx, hv, hC, hM, hA⟩ := h
  exact ⟨n, s, tl, tx, cs, jn, w, pr, v, hc, nx, hv, hC.fr hA.2.2.1.2.1 hF (fun a ha => (hS a ha).1), hM.fr2 hF (fun a ha => (hS a ha).2), hA.up⟩
theorem op_write {t : Nat} {M : rm_M} (h : Inv t M) (a : Int32) : ∃ r M1 M2, fX7_write a M = some (r, M1) ∧ fX8_write a M1 = some (r, M2) ∧ Inv (t + 1) M2 := by
  obtain ⟨n, s, tl, tx, cs, jn, w, pr, v, hc, nx, hv, hC, hM, hA⟩ := h
  obtain ⟨c1, c2, c3, c4, c5, c6⟩ := hC
  have hn := c1.1
  have hs := c1.2.1
  obtain ⟨M1, f1, r1, e1, g1⟩ := pX7_write c2.1 c2.2 hA.1 a
  have hM1 := hM.fr2 r1 (fun a ha => by omega)
  obtain ⟨M2, f2, r2, e2, g2⟩ := pX8_write hM1.1 hM1.2.1 hA.1 a
  refine ⟨_, M1, M2, f1, f2, ?_⟩
  by_cases k : wk a tl = 2
  · obtain ⟨g1a, g1b, g1c⟩ := g1 k
    obtain ⟨g2a, g2b, g2c, g2d⟩ := g2 k
    obtain ⟨x, hx1, hx2, hx3⟩ : ∃ x, a = nI x ∧ 32 ≤ x ∧ x ≤ 126 := by
      unfold wk at k
      by_cases q : a < nI 32 ∨ nI 126 < a
      · rw [if_pos q] at k; omega
      · have q1 : ¬ a < nI 32 := fun z => q (Or.inl z)
        have q2 : ¬ nI 126 < a := fun z => q (Or.inr z)
        rw [pn_ltT, nI_toInt (by omega)] at q1 q2
        refine ⟨a.toInt.toNat, ?_, by omega, by omega⟩
        apply Int32.toInt_inj.1
        rw [nI_toInt (by omega)]
        omega
    have htl : tl < 200 := by
      unfold wk at k
      split at k
      · omega
      · split at k
        · omega
        · have := hA.1; omega
    have r12 : FR (fun q => q = 1 ∨ q = 2 ∨ q = 79 ∨ q = 80) M M2 := (r1.mono (fun a ha => by omega)).tr (r2.mono (fun a ha => by omega))
    refine ⟨n, s, tl + 1, vu tx tl x, cs, jn, w, pr, v, hc, nx, hv, ⟨c1.fr r12, ⟨?_, fun k hk => ?_⟩, c3.fr hA.2.2.1.2.1 r12 (fun a ha hb => by omega), c4.fr r12 (by omega) (by omega) (by omega), c5.fr r12 (by omega) (fun a ha hb => by omega), c6.fr r12 (by omega) (by omega) (by omega)⟩, ?_, ?_⟩
    · rw [(r2.1 1 (by omega)).1]; exact g1a
    · rw [(r2.1 2 (by omega)).1]
      by_cases e : k = tl
      · subst e; rw [vu_eq, g1c, hx1]
      · rw [vu_ne _ _ e]; exact g1b k (by omega)
    · obtain ⟨m1, m2, m3, m4, m5, m6, m7⟩ := hM1
      refine ⟨g2a, fun k hk => ?_, ⟨by rw [g2b 2 (by omega)]; exact m3.1, fun a b ha hb => by rw [(r2.1 81 (by omega)).1]; exact m3.2 a b ha hb⟩, by rw [g2b 3 (by omega)]; exact m4, m5.fr r2 (by omega), m6.fr r2 (by omega), by rw [g2b 8 (by omega)]; exact m7.1, fun i k hi hk => by rw [(r2.1 84 (by omega)).1]; exact m7.2 i k hi hk⟩
      by_cases e : k = tl
      · subst e; rw [vu_eq, g2d, hx1]
      · rw [vu_ne _ _ e]; exact g2c k (by omega)
    · obtain ⟨a1, a2, a3⟩ := hA.up
      refine ⟨by omega, fun k hk => ?_, a3⟩
      by_cases e : k = tl
      · subst e; rw [vu_eq]; omega
      · rw [vu_ne _ _ e]; exact a2 k (by omega)
  · rw [e2 k, e1 k]
    exact ⟨n, s, tl, tx, cs, jn, w, pr, v, hc, nx, hv, ⟨c1, c2, c3, c4, c5, c6⟩, hM, hA.up⟩
theorem op_wipe {t : Nat} {M : rm_M} (h : Inv t M) : ∃ r M1 M2, fX7_wipe M = some (r, M1) ∧ fX8_wipe M1 = some (r, M2) ∧ Inv (t + 1) M2 := by
  obtain ⟨n, s, tl, tx, cs, jn, w, pr, v, hc, nx, hv, hC, hM, hA⟩ := h
  obtain ⟨c1, c2, c3, c4, c5, c6⟩ := hC
  have hn := c1.1
  have hs := c1.2.1
  have r1 : FR (fun q => q = 1) M (rm_sI M 1 3 (nI 0)) := FR.sI rfl
  have r2 : FR (fun q => q = 79) (rm_sI M 1 3 (nI 0)) (rm_sI (rm_sI M 1 3 (nI 0)) 79 0 (nI 0)) := FR.sI rfl
  have r12 : FR (fun q => q = 1 ∨ q = 79) M (rm_sI (rm_sI M 1 3 (nI 0)) 79 0 (nI 0)) := FR.sIr (FR.sIr FR.rf (Or.inl rfl)) (Or.inr rfl)
  refine ⟨nI tl, rm_sI M 1 3 (nI 0), rm_sI (rm_sI M 1 3 (nI 0)) 79 0 (nI 0), ?_, ?_, ?_⟩
  · unfold fX7_wipe; simp only [rm_lt1, pn_lit, c2.1]
  · unfold fX8_wipe
    simp only [rm_lt1, pn_lit]
    rw [(r1.1 79 (by omega)).1, hM.1]
  · obtain ⟨m1, m2, m3, m4, m5, m6, m7⟩ := hM.fr2 r1 (fun a ha => by omega)
    refine ⟨n, s, 0, tx, cs, jn, w, pr, v, hc, nx, hv, ⟨c1.fr r12, ⟨?_, fun k hk => by omega⟩, c3.fr hA.2.2.1.2.1 r12 (fun a ha hb => by omega), c4.fr r12 (by omega) (by omega) (by omega), c5.fr r12 (by omega) (fun a ha hb => by omega), c6.fr r12 (by omega) (by omega) (by omega)⟩, ?_, ?_⟩
    · rw [pn_sI_ne _ _ _ (by omega), pn_sI_eq, pn_upd_eq]
    · have g : ∀ k, k ≠ 0 → (rm_sI (rm_sI M 1 3 (nI 0)) 79 0 (nI 0)).1 79 k = (rm_sI M 1 3 (nI 0)).1 79 k := fun k hk => by rw [pn_sI_eq, pn_upd_ne _ _ hk]
      refine ⟨by rw [pn_sI_eq, pn_upd_eq], fun k hk => by omega, ⟨by rw [g 2 (by omega)]; exact m3.1, fun a b ha hb => by rw [(r2.1 81 (by omega)).1]; exact m3.2 a b ha hb⟩, by rw [g 3 (by omega)]; exact m4, m5.fr r2 (by omega), m6.fr r2 (by omega), by rw [g 8 (by omega)]; exact m7.1, fun i k hi hk => by rw [(r2.1 84 (by omega)).1]; exact m7.2 i k hi hk⟩
    · obtain ⟨a1, a2, a3⟩ := hA.up
      exact ⟨by omega, fun k hk => by omega, a3⟩
theorem pX8_likeArea {M : rm_M} {cs c : Nat} {v : Nat → Nat} (h79 : M.1 79 2 = nI cs) (hcs : cs ≤ 6) (hV : MV M 83 v) (hv : ∀ c, c < 6 → v (6 + c) ≤ 5) (hc : c < cs) : fX8_likeArea (nI (v (6 + c))) M = some (nI (cnt cs (fun d => v (6 + d)) c), M) := by
  have hF := pn_F
  have key : ∀ d f i acc, i + d = cs → d < f → fX8_likeArea_L4 (nI (v (6 + c))) f (nI acc) (nI i) M = some (nI (acc + rs (fun d => if v (6 + d) = v (6 + c) then 1 else 0) i d), M) := by
    intro d
    induction d with
    | zero =>
      intro f i acc hi hf
      obtain ⟨f, rfl⟩ : ∃ z, f = z + 1 := ⟨f - 1, by omega⟩
      rw [fX8_likeArea_L4]
      simp (disch := omega) only [h79, nI_leI, rs, Nat.add_zero]
      rw [if_pos (by omega)]
    | succ d ih =>
      intro f i acc hi hf
      obtain ⟨f, rfl⟩ : ∃ z, f = z + 1 := ⟨f - 1, by omega⟩
      have b1 := hv i (by omega)
      have b2 := hv c (by omega)
      rw [fX8_likeArea_L4]
      simp (disch := omega) only [h79, nI_leI, pn_lit, nI_add, pn_ib, nI_clamp, hV (6 + i) (by omega), nI_eq, fX8_likeArea_L31, rm_lt1, decide_eq_true_eq]
      rw [if_neg (by omega), if_pos (by omega)]
      by_cases e : v (6 + i) = v (6 + c)
      · rw [if_pos e, ih f (i + 1) _ (by omega) (by omega), rs, if_pos e, Nat.add_assoc]
      · rw [if_neg e, ih f (i + 1) _ (by omega) (by omega), rs, if_neg e, Nat.add_zero, Nat.zero_add]
  unfold fX8_likeArea
  simp only [pn_lit]
  rw [key cs rm_F 0 0 (by omega) (by omega), Nat.zero_add]
  rfl
theorem op_cell {t : Nat} {M : rm_M} (h : Inv t M) (a b : Int32) : ∃ r M1 M2, fX7_cell a b M = some (r, M1) ∧ fX8_cell a b M1 = some (r, M2) ∧ Inv (t + 1) M2 := by
  have h0 := h.ro FR.rf (fun a (ha : False) => ha.elim)
  obtain ⟨n, s, tl, tx, cs, jn, w, pr, v, hc, nx, hv, hC, hM, hA⟩ := h
  obtain ⟨⟨hn, hs, p6, p7, p8, p9⟩, c2, ⟨c31, c32, c33, c34, c35, c36⟩, ⟨c4a, c4b, c4c⟩, c5, c6⟩ := hC
  obtain ⟨m1, m2, m3, m4, m5, m6, m7⟩ := hM
  obtain ⟨a1, a2, hW, a4, a5, a6, a7, a8⟩ := hA
  have h1 := hW.1
  have h2 := hW.2.1
  have kn := pn_net hn
  have ks := pn_sta (s := s) (by omega)
  have hv2 := a7.1.2.1
  have hAR : AR M (s + 2) 0 cs (fun d => v (6 + d)) := by
    refine ⟨?_, ?_, fun c hc => ?_, fun c hc => by rw [Nat.zero_add]; exact c4b c (by omega)⟩
    · rcases hs with rfl | rfl <;> (show 0 + cs ≤ 6; omega)
    · rcases hs with rfl | rfl <;> decide
    · have := (hv2 c (by omega)).2; show v (6 + c) < 100; omega
  unfold fX7_cell fX8_cell
  rcases natOr a (n := cs) (by omega) with ⟨k, hk, rfl⟩ | hno
  · rw [pX7_isCell_yes p6 hn c31.1 h2 hk, pn_bd]
    simp (disch := omega) only [pn_lit, rm_lt1, p6, p7, kn, ks, ↓reduceIte, pn_ib, nI_clamp, nI_add, if_neg z10, decide_eq_true_eq, c4a k (by omega), c4b k (by omega), c31.1, c31.2.2 k hk, c33 k hk, pX7_sameArea hAR h2 hk, pn_bd]
    by_cases b0 : b = nI 0
    · rw [if_pos b0, if_pos (by omega)]
      refine ⟨_, _, M, rfl, ?_, h0⟩
      rw [pX8_isCell_yes m3.1 h2 hk, pn_bd, if_neg z10, if_pos b0]
      rw [if_pos (by omega), m6 k (by omega)]
    · rw [if_neg b0]
      by_cases b1 : b = nI 1
      · rw [if_pos b1, if_pos (by omega)]
        refine ⟨_, _, M, rfl, ?_, h0⟩
        rw [pX8_isCell_yes m3.1 h2 hk, pn_bd, if_neg z10, if_neg b0, if_pos b1]
        rw [if_pos (by omega), m6 (6 + k) (by omega)]
      · rw [if_neg b1]
        by_cases b2 : b = nI 2
        · rw [if_pos b2, if_pos (by omega), if_pos (by omega)]
          refine ⟨_, _, M, rfl, ?_, h0⟩
          rw [pX8_isCell_yes m3.1 h2 hk, pn_bd, if_neg z10, if_neg b0, if_neg b1, if_pos b2, pX8_sum m3 m6 h2 (by omega), pn_bd, Nat.add_comm]
        · rw [if_neg b2]
          by_cases b3 : b = nI 3
          · rw [if_pos b3, if_pos (by omega)]
            refine ⟨_, _, M, rfl, ?_, h0⟩
            rw [pX8_isCell_yes m3.1 h2 hk, pn_bd, if_neg z10, if_neg b0, if_neg b1, if_neg b2, if_pos b3, pX8_joined m3 h2 (by omega) hW.lt, pn_bd]
          · rw [if_neg b3]
            by_cases b4 : b = nI 4
            · rw [if_pos b4]
              refine ⟨_, _, M, rfl, ?_, h0⟩
              rw [pX8_isCell_yes m3.1 h2 hk, pn_bd, if_neg z10, if_neg b0, if_neg b1, if_neg b2, if_neg b3, if_pos b4]
              rw [if_pos (by omega), m6 (6 + k) (by omega), pX8_likeArea m3.1 h2 m6 (fun c hc => (hv2 c hc).2) hk, pn_bd]
            · rw [if_neg b4]
              refine ⟨_, _, M, rfl, ?_, h0⟩
              rw [pX8_isCell_yes m3.1 h2 hk, pn_bd, if_neg z10, if_neg b0, if_neg b1, if_neg b2, if_neg b3, if_neg b4]
  · rw [pX7_isCell_no p6 hn c31.1 hno, pn_bd]
    simp only [pn_lit, ↓reduceIte]
    refine ⟨_, _, M, rfl, ?_, h0⟩
    rw [pX8_isCell_no m3.1 h2 (by omega) hno, pn_bd, if_pos rfl]
theorem op_weight {t : Nat} {M : rm_M} (h : Inv t M) (a b : Int32) : ∃ r M1 M2, fX7_weight a b M = some (r, M1) ∧ fX8_weight a b M1 = some (r, M2) ∧ Inv (t + 1) M2 := by
  have h0 := h.ro FR.rf (fun a (ha : False) => ha.elim)
  obtain ⟨n, s, tl, tx, cs, jn, w, pr, v, hc, nx, hv, hC, hM, hA⟩ := h
  obtain ⟨⟨hn, hs, p6, p7, p8, p9⟩, c2, ⟨c31, c32, c33, c34, c35, c36⟩, ⟨c4a, c4b, c4c⟩, c5, c6⟩ := hC
  obtain ⟨m1, m2, m3, m4, m5, m6, m7⟩ := hM
  obtain ⟨a1, a2, hW, a4, a5, a6, a7, a8⟩ := hA
  have h1 := hW.1
  have h2 := hW.2.1
  have kn := pn_net hn
  unfold fX7_weight fX8_weight
  rcases natOr a (n := cs) (by omega) with ⟨k, hk, rfl⟩ | hno
  · rw [pX7_isCell_yes p6 hn c31.1 h2 hk, pn_bd]
    rcases natOr b (n := cs) (by omega) with ⟨j, hj, rfl⟩ | hno
    · rw [pX7_isCell_yes p6 hn c31.1 h2 hj, pn_bd]
      simp (disch := omega) only [pn_lit, rm_lt1, p6, kn, ↓reduceIte, pn_ib, nI_clamp, nI_add, pk_mul, if_neg z10, decide_eq_true_eq, c31.2.1 k j (by omega) (by omega)]
      by_cases e : nI k = nI j
      · rw [if_pos e]
        refine ⟨_, _, M, rfl, ?_, h0⟩
        rw [pX8_isCell_yes m3.1 h2 hk, pn_bd, if_neg z10, pX8_isCell_yes m3.1 h2 hj, pn_bd, if_neg z10, if_pos e]
      · rw [if_neg e, if_pos (by omega), if_pos (by omega)]
        refine ⟨_, _, M, rfl, ?_, h0⟩
        rw [pX8_isCell_yes m3.1 h2 hk, pn_bd, if_neg z10, pX8_isCell_yes m3.1 h2 hj, pn_bd, if_neg z10, if_neg e]
        rw [if_pos (by omega), m3.2 k j (by omega) (by omega)]
    · rw [pX7_isCell_no p6 hn c31.1 hno, pn_bd]
      simp only [pn_lit, ↓reduceIte, if_neg z10]
      refine ⟨_, _, M, rfl, ?_, h0⟩
      rw [pX8_isCell_yes m3.1 h2 hk, pn_bd, if_neg z10, pX8_isCell_no m3.1 h2 (by omega) hno, pn_bd, if_pos rfl]
  · rw [pX7_isCell_no p6 hn c31.1 hno, pn_bd]
    simp only [pn_lit, ↓reduceIte]
    refine ⟨_, _, M, rfl, ?_, h0⟩
    rw [pX8_isCell_no m3.1 h2 (by omega) hno, pn_bd, if_pos rfl]
theorem op_wide {t : Nat} {M : rm_M} (h : Inv t M) (a b : Int32) : ∃ r M1 M2, fX7_wide a b M = some (r, M1) ∧ fX8_wide a b M1 = some (r, M2) ∧ Inv (t + 1) M2 := by
  have h0 := h.ro FR.rf (fun a (ha : False) => ha.elim)
  obtain ⟨n, s, tl, tx, cs, jn, w, pr, v, hc, nx, hv, hC, hM, hA⟩ := h
  obtain ⟨⟨hn, hs, p6, p7, p8, p9⟩, c2, ⟨c31, c32, c33, c34, c35, c36⟩, ⟨c4a, c4b, c4c⟩, c5, c6⟩ := hC
  obtain ⟨m1, m2, m3, m4, m5, m6, m7⟩ := hM
  obtain ⟨a1, a2, hW, a4, a5, a6, a7, a8⟩ := hA
  have h1 := hW.1
  have h2 := hW.2.1
  have kn := pn_net hn
  unfold fX7_wide fX8_wide
  rcases natOr a (n := cs) (by omega) with ⟨k, hk, rfl⟩ | hno
  · rw [pX7_isCell_yes p6 hn c31.1 h2 hk, pn_bd]
    rcases natOr b (n := cs) (by omega) with ⟨j, hj, rfl⟩ | hno
    · rw [pX7_isCell_yes p6 hn c31.1 h2 hj, pn_bd]
      simp (disch := omega) only [pn_lit, rm_lt1, p6, kn, ↓reduceIte, pn_ib, nI_clamp, if_neg z10, decide_eq_true_eq, c34 k j hk hj]
      rw [if_pos (by omega), if_pos (by omega)]
      refine ⟨_, _, M, rfl, ?_, h0⟩
      rw [pX8_isCell_yes m3.1 h2 hk, pn_bd, if_neg z10, pX8_isCell_yes m3.1 h2 hj, pn_bd, if_neg z10, pX8_far m3 h2 hW.lt hk hj (hW.2.2.2.2.2 k j hk hj), pn_bd]
    · rw [pX7_isCell_no p6 hn c31.1 hno, pn_bd]
      simp only [pn_lit, ↓reduceIte, if_neg z10]
      refine ⟨_, _, M, rfl, ?_, h0⟩
      rw [pX8_isCell_yes m3.1 h2 hk, pn_bd, if_neg z10, pX8_isCell_no m3.1 h2 (by omega) hno, pn_bd, if_pos rfl]
  · rw [pX7_isCell_no p6 hn c31.1 hno, pn_bd]
    simp only [pn_lit, ↓reduceIte]
    refine ⟨_, _, M, rfl, ?_, h0⟩
    rw [pX8_isCell_no m3.1 h2 (by omega) hno, pn_bd, if_pos rfl]
