/-! joins, prices, cells -/
theorem pX8_joinOf {M : rm_M} {a b x y jn cs : Nat} {w : Nat → Nat → Nat} {pr v : Nat → Nat} (ha : a < 6) (hb : b < 6) (hab : a ≠ b) (hD : DM M cs jn w pr v) : ∃ M2, fX8_joinOf (nI a) (nI b) (nI x) (nI y) M = some M2 ∧ DM M2 cs (jn + 1) (jW w a b x y) pr v ∧ M2.1 79 15 = M.1 79 15 ∧ mF M M2 := by
  obtain ⟨h1, h2, h3, h4, h5⟩ := hD
  have hib : rm_ib (nI 6 * nI a + nI b) 36 = true := by rw [pk_mul, nI_add, pn_ib (by omega), decide_eq_true_eq]; omega
  have hcl : (nI 6 * nI a + nI b).toNatClampNeg = 6 * a + b := by rw [pk_mul, nI_add, nI_clamp (by omega)]
  have hib2 : rm_ib (nI 6 * nI b + nI a) 36 = true := by rw [pk_mul, nI_add, pn_ib (by omega), decide_eq_true_eq]; omega
  have hcl2 : (nI 6 * nI b + nI a).toNatClampNeg = 6 * b + a := by rw [pk_mul, nI_add, nI_clamp (by omega)]
  unfold fX8_joinOf
  rw [pn_lit 6, pn_lit 1, if_pos hib, rm_lt1, if_pos hib2, rm_lt1, rm_lt1, hcl, hcl2, pn_sI_ne _ _ _ (by omega), pn_sI_ne _ _ _ (by omega), h2, nI_add]
  refine ⟨_, rfl, ⟨?_, ?_, fun i j hi hj => ?_, fun k hk => ?_, fun k hk => ?_⟩, ?_, fun k a1 a2 a3 a4 => ?_, FR.sIr (FR.sIr (FR.sIr FR.rf (by omega)) (by omega)) (Or.inl rfl)⟩
  · rw [pn_sI_eq, pn_upd_ne _ _ (by omega), pn_sI_ne _ _ _ (by omega), pn_sI_ne _ _ _ (by omega)]; exact h1
  · rw [pn_sI_eq, pn_upd_eq]
  · rw [pn_sI_ne _ _ _ (by omega), pn_sI_eq]
    unfold jW
    by_cases q2 : i = b ∧ j = a
    · rw [q2.1, q2.2, pn_upd_eq, ws_eq]
    · rw [pn_upd_ne _ _ (by omega), pn_sI_eq, ws_ne _ _ q2]
      by_cases q1 : i = a ∧ j = b
      · rw [q1.1, q1.2, pn_upd_eq, ws_eq]
      · rw [pn_upd_ne _ _ (by omega), ws_ne _ _ q1]; exact h3 i j hi hj
  · rw [pn_sI_ne _ _ _ (by omega), pn_sI_ne _ _ _ (by omega), pn_sI_ne _ _ _ (by omega)]; exact h4 k hk
  · rw [pn_sI_ne _ _ _ (by omega), pn_sI_ne _ _ _ (by omega), pn_sI_ne _ _ _ (by omega)]; exact h5 k hk
  · rw [pn_sI_eq, pn_upd_ne _ _ (by omega), pn_sI_ne _ _ _ (by omega), pn_sI_ne _ _ _ (by omega)]
  · rw [pn_sI_eq, pn_upd_ne _ _ (by omega), pn_sI_ne _ _ _ (by omega), pn_sI_ne _ _ _ (by omega)]
theorem pX8_readsJoin {M : rm_M} {tl q cs jn : Nat} {tx : Nat → Nat} {w : Nat → Nat → Nat} {pr v : Nat → Nat} (hT : MX M tl tx) (hB : TB tl tx) (hq : q ≤ 200) (hcs : 2 ≤ cs ∧ cs ≤ 6) (hw4 : ∀ a b, w a b ≤ 4) (hD : DM M cs jn w pr v) :
    (¬ (sy tl tx 4 q = true ∧ jB cs w (fun j => vv tl tx j q) = true) ∧ mdN M tl tx (fX8_readsJoin (nI q) M)) ∨ ((sy tl tx 4 q = true ∧ jB cs w (fun j => vv tl tx j q) = true) ∧ mdY M tl tx (fX8_readsJoin (nI q) M) (pkk tl tx 4 q) cs (jn + 1) (jW w (vv tl tx 0 q) (vv tl tx 1 q) (vv tl tx 2 q) (vv tl tx 3 q)) pr v) := by
  have b := hB.1
  have hne := nE_ge tl tx q
  have hjb : jB cs w (fun j => vv tl tx j q) = true → nV tl tx q < cs ∧ nV tl tx (nE tl tx q + 1) < cs ∧ nV tl tx q ≠ nV tl tx (nE tl tx q + 1) ∧ w (nV tl tx q) (nV tl tx (nE tl tx q + 1)) = 0 ∧ (1 ≤ nV tl tx (nE tl tx (nE tl tx q + 1) + 1) ∧ nV tl tx (nE tl tx (nE tl tx q + 1) + 1) ≤ 4) ∧ (1 ≤ nV tl tx (nE tl tx (nE tl tx (nE tl tx q + 1) + 1) + 1) ∧ nV tl tx (nE tl tx (nE tl tx (nE tl tx q + 1) + 1) + 1) ≤ 4) := fun h => jB_iff.mp h
  have hsy : sy tl tx 4 q = true → (fgB tl tx q = true ∧ chB tl tx (nE tl tx q) 44 = true) ∧ (fgB tl tx (nE tl tx q + 1) = true ∧ chB tl tx (nE tl tx (nE tl tx q + 1)) 44 = true) ∧ (fgB tl tx (nE tl tx (nE tl tx q + 1) + 1) = true ∧ chB tl tx (nE tl tx (nE tl tx (nE tl tx q + 1) + 1)) 44 = true) ∧ (fgB tl tx (nE tl tx (nE tl tx (nE tl tx q + 1) + 1) + 1) = true ∧ chB tl tx (nE tl tx (nE tl tx (nE tl tx (nE tl tx q + 1) + 1) + 1)) 59 = true) := by
    intro h
    rw [sy4, sy3, sy2, sy1] at h
    simp only [Bool.and_eq_true] at h
    exact ⟨h.1, h.2.1, h.2.2.1, h.2.2.2⟩
  obtain ⟨M1, f1, g1, g2, n1⟩ := pX8_number (p := q) (lo := 0) (hi := cs - 1) hT hB (by omega) (by omega) (by omega)
  have T1 := hT.fr n1.m
  have D1 := hD.n n1
  unfold fX8_readsJoin
  rw [hD.1, pn_lit 0, pn_lit 1, pn_lit 4, pn_lit 6, pk_sub (by omega), f1, pn_bd]
  by_cases c : fgB tl tx q = true ∧ 0 ≤ nV tl tx q ∧ nV tl tx q ≤ cs - 1
  · rw [if_pos c, if_neg z10, rm_lt1, g1, D1.1, pk_sub (by omega)]
    rcases pX8_more (lo := 0) (hi := cs - 1) T1 hB g2 (by omega) (by omega) (by omega) with ⟨c1, M2, f2, k1, k2, n2⟩ | ⟨c1, f2⟩
    · have hne1 := nE_ge tl tx (nE tl tx q + 1)
      have hlt1 := (ch_iff.mp c1).1
      have T2 := T1.fr n2.m
      have D2 := D1.n n2
      have n12 := n1.tr n2
      rw [f2, pn_bd]
      by_cases z : fgB tl tx (nE tl tx q + 1) = true ∧ 0 ≤ nV tl tx (nE tl tx q + 1) ∧ nV tl tx (nE tl tx q + 1) ≤ cs - 1
      · rw [if_pos z, if_neg z10, rm_lt1, k1]
        by_cases c2 : nV tl tx q = nV tl tx (nE tl tx q + 1)
        · rw [if_pos (by rw [c2])]
          exact Or.inl ⟨fun q2 => (hjb q2.2).2.2.1 c2, mdN.of0 n12.m rfl⟩
        · have hib : rm_ib (nI 6 * nI (nV tl tx q) + nI (nV tl tx (nE tl tx q + 1))) 36 = true := by rw [pk_mul, nI_add, pn_ib (by omega), decide_eq_true_eq]; omega
          have hcl : (nI 6 * nI (nV tl tx q) + nI (nV tl tx (nE tl tx q + 1))).toNatClampNeg = 6 * nV tl tx q + nV tl tx (nE tl tx q + 1) := by rw [pk_mul, nI_add, nI_clamp (by omega)]
          have hww := hw4 (nV tl tx q) (nV tl tx (nE tl tx q + 1))
          rw [if_neg (by rw [nI_eq (by omega) (by omega)]; exact c2), if_pos hib, hcl, D2.2.2.1 _ _ (by omega) (by omega)]
          by_cases c3 : 0 < w (nV tl tx q) (nV tl tx (nE tl tx q + 1))
          · rw [if_pos (by rw [nI_ltI (by omega) (by omega)]; exact c3)]
            exact Or.inl ⟨fun q2 => by have := (hjb q2.2).2.2.2.1; omega, mdN.of0 n12.m rfl⟩
          · rw [if_neg (by rw [nI_ltI (by omega) (by omega)]; exact c3)]
            rcases pX8_more (lo := 1) (hi := 4) T2 hB k2 (by omega) (by omega) (by omega) with ⟨c4, M3, f3, l1, l2, n3⟩ | ⟨c4, f3⟩
            · have hne2 := nE_ge tl tx (nE tl tx (nE tl tx q + 1) + 1)
              have hlt2 := (ch_iff.mp c4).1
              have T3 := T2.fr n3.m
              have D3 := D2.n n3
              have n13 := n12.tr n3
              rw [f3, pn_bd]
              by_cases z3 : fgB tl tx (nE tl tx (nE tl tx q + 1) + 1) = true ∧ 1 ≤ nV tl tx (nE tl tx (nE tl tx q + 1) + 1) ∧ nV tl tx (nE tl tx (nE tl tx q + 1) + 1) ≤ 4
              · rw [if_pos z3, if_neg z10, rm_lt1, l1]
                rcases pX8_more (lo := 1) (hi := 4) T3 hB l2 (by omega) (by omega) (by omega) with ⟨c5, M4, f4, o1, o2, n4⟩ | ⟨c5, f4⟩
                · have hne3 := nE_ge tl tx (nE tl tx (nE tl tx (nE tl tx q + 1) + 1) + 1)
                  have D4 := D3.n n4
                  have n14 := n13.tr n4
                  rw [f4, pn_bd]
                  by_cases z4 : fgB tl tx (nE tl tx (nE tl tx (nE tl tx q + 1) + 1) + 1) = true ∧ 1 ≤ nV tl tx (nE tl tx (nE tl tx (nE tl tx q + 1) + 1) + 1) ∧ nV tl tx (nE tl tx (nE tl tx (nE tl tx q + 1) + 1) + 1) ≤ 4
                  · rw [if_pos z4, if_neg z10, o1]
                    obtain ⟨M5, f5, D5, e5, m5⟩ := pX8_joinOf (a := nV tl tx q) (b := nV tl tx (nE tl tx q + 1)) (x := nV tl tx (nE tl tx (nE tl tx q + 1) + 1)) (y := nV tl tx (nE tl tx (nE tl tx (nE tl tx q + 1) + 1) + 1)) (by omega) (by omega) c2 D4
                    rw [f5, pn_bv]
                    have m15 := n14.m.tr m5
                    by_cases z5 : chB tl tx (nE tl tx (nE tl tx (nE tl tx (nE tl tx q + 1) + 1) + 1)) 59 = true
                    · right
                      refine ⟨⟨?_, jB_iff.mpr ?_⟩, M5, _, m15, rfl, by rw [e5]; exact o2, rfl, z5, D5⟩
                      · rw [sy4, sy3, sy2, sy1, c.1, c1, z.1, c4, z3.1, c5, z4.1, z5]; rfl
                      · exact ⟨show nV tl tx q < cs by omega, show nV tl tx (nE tl tx q + 1) < cs by omega, c2, show w (nV tl tx q) (nV tl tx (nE tl tx q + 1)) = 0 by omega, z3.2, z4.2⟩
                    · exact Or.inl ⟨fun q2 => z5 (hsy q2.1).2.2.2.2, M5, m15, Or.inr ⟨_, rfl, by rw [e5]; exact o2, by omega, Bool.not_eq_true _ ▸ z5⟩⟩
                  · rw [if_neg z4, if_pos rfl]
                    exact Or.inl ⟨fun q2 => z4 ⟨(hsy q2.1).2.2.2.1, (hjb q2.2).2.2.2.2.2⟩, mdN.of0 n14.m rfl⟩
                · rw [f4, pn_bd, if_pos rfl]
                  exact Or.inl ⟨fun q2 => (by have h9 := (hsy q2.1).2.2.1.2; rw [c5] at h9; cases h9), mdN.of0 n13.m rfl⟩
              · rw [if_neg z3, if_pos rfl]
                exact Or.inl ⟨fun q2 => z3 ⟨(hsy q2.1).2.2.1.1, (hjb q2.2).2.2.2.2.1⟩, mdN.of0 n13.m rfl⟩
            · rw [f3, pn_bd, if_pos rfl]
              exact Or.inl ⟨fun q2 => (by have h9 := (hsy q2.1).2.1.2; rw [c4] at h9; cases h9), mdN.of0 n12.m rfl⟩
      · rw [if_neg z, if_pos rfl]
        exact Or.inl ⟨fun q2 => z ⟨(hsy q2.1).2.1.1, Nat.zero_le _, by have := (hjb q2.2).2.1; omega⟩, mdN.of0 n12.m rfl⟩
    · rw [f2, pn_bd, if_pos rfl]
      exact Or.inl ⟨fun q2 => (by have h9 := (hsy q2.1).1.2; rw [c1] at h9; cases h9), mdN.of0 n1.m rfl⟩
  · rw [if_neg c, if_pos rfl]
    exact Or.inl ⟨fun q2 => c ⟨(hsy q2.1).1.1, Nat.zero_le _, by have := (hjb q2.2).1; omega⟩, mdN.of0 n1.m rfl⟩
/-- prices are read up to the k-th -/
theorem pX8_readsPrice {M : rm_M} {tl q cs jn : Nat} {tx : Nat → Nat} {w : Nat → Nat → Nat} {pr v : Nat → Nat} (hT : MX M tl tx) (hB : TB tl tx) (hq : q ≤ 200) (hD : DM M cs jn w pr v) :
    (¬ (sy tl tx 4 q = true ∧ 1 ≤ vv tl tx 0 q ∧ vv tl tx 0 q ≤ 4) ∧ mdN M tl tx (fX8_readsPrice (nI q) M)) ∨ ((sy tl tx 4 q = true ∧ 1 ≤ vv tl tx 0 q ∧ vv tl tx 0 q ≤ 4) ∧ mdY M tl tx (fX8_readsPrice (nI q) M) (pkk tl tx 4 q) cs jn w (fun k => vv tl tx k q) v) := by
  have hF := pn_F
  have b := hB.1
  have hne := nE_ge tl tx q
  have hsy : sy tl tx 4 q = true → (fgB tl tx q = true ∧ chB tl tx (nE tl tx q) 44 = true) ∧ (fgB tl tx (nE tl tx q + 1) = true ∧ chB tl tx (nE tl tx (nE tl tx q + 1)) 44 = true) ∧ (fgB tl tx (nE tl tx (nE tl tx q + 1) + 1) = true ∧ chB tl tx (nE tl tx (nE tl tx (nE tl tx q + 1) + 1)) 44 = true) ∧ (fgB tl tx (nE tl tx (nE tl tx (nE tl tx q + 1) + 1) + 1) = true ∧ chB tl tx (nE tl tx (nE tl tx (nE tl tx (nE tl tx q + 1) + 1) + 1)) 59 = true) := by
    intro h
    rw [sy4, sy3, sy2, sy1] at h
    simp only [Bool.and_eq_true] at h
    exact ⟨h.1, h.2.1, h.2.2.1, h.2.2.2⟩
  -- a step for k > 0
  have step : ∀ k f e M', 1 ≤ k → k < 4 → MX M' tl tx → mF M M' → M'.1 79 15 = nI e → e ≤ 205 →
      (∃ M2, fX8_readsPrice_L2 (nI q) (f + 1) (nI k) M' = some (nI 0, M2) ∧ mF M M2 ∧ ¬ (chB tl tx e 44 = true ∧ fgB tl tx (e + 1) = true)) ∨ (∃ M2, fX8_readsPrice_L2 (nI q) (f + 1) (nI k) M' = fX8_readsPrice_L2 (nI q) f (nI (k + 1)) (rm_sI M2 86 k (nI (nV tl tx (e + 1)))) ∧ mF M (rm_sI M2 86 k (nI (nV tl tx (e + 1)))) ∧ nF M' M2 ∧ M2.1 79 15 = nI (nE tl tx (e + 1)) ∧ chB tl tx e 44 = true ∧ fgB tl tx (e + 1) = true) := by
    intro k f e M' h1 h4 hT' hm he he2
    have hk0 : ¬ nI k = nI 0 := by rw [nI_eq (by omega) (by omega)]; omega
    rw [fX8_readsPrice_L2, pn_lit 4, pn_lit 0, if_neg (by rw [nI_leI (by omega) (by omega)]; omega), if_neg hk0]
    unfold fX8_readsPrice_L16
    rw [pn_lit 0, pn_lit 99, if_neg hk0]
    unfold fX8_readsPrice_L27
    rw [pn_lit 0, if_neg hk0]
    rcases pX8_more (lo := 0) (hi := 99) hT' hB he (by omega) (by omega) (by omega) with ⟨c1, M2, f2, k1, k2, n2⟩ | ⟨c1, f2⟩
    · rw [f2, pn_bd]
      have hnv := nV_le tl tx (e + 1)
      by_cases z : fgB tl tx (e + 1) = true
      · have zz : fgB tl tx (e + 1) = true ∧ 0 ≤ nV tl tx (e + 1) ∧ nV tl tx (e + 1) ≤ 99 := ⟨z, Nat.zero_le _, hnv⟩
        rw [if_pos zz, if_neg z10]
        right
        unfold fX8_readsPrice_L59
        rw [if_pos (by rw [pn_ib (by omega), decide_eq_true_eq]; omega), rm_lt1, nI_clamp (by omega), k1, pn_lit 1, nI_add]
        refine ⟨M2, rfl, hm.tr (n2.m.tr ⟨fun k a1 a2 a3 a4 => by rw [pn_sI_ne _ _ _ (by omega)], FR.sI (by omega)⟩), n2, k2, c1, z⟩
      · have zz : ¬ (fgB tl tx (e + 1) = true ∧ 0 ≤ nV tl tx (e + 1) ∧ nV tl tx (e + 1) ≤ 99) := fun q => z q.1
        rw [if_neg zz, if_pos rfl]
        exact Or.inl ⟨M2, rfl, hm.tr n2.m, fun q => z q.2⟩
    · rw [f2, pn_bd, if_pos rfl]
      exact Or.inl ⟨M', rfl, hm, fun q => (by rw [c1] at q; cases q.1)⟩
  have fin : ∀ f M', fX8_readsPrice_L2 (nI q) (f + 1) (nI 4) M' = some (nI 1, M') := by
    intro f M'
    rw [fX8_readsPrice_L2, pn_lit 4, if_pos (by decide)]
    rfl
  have putm : ∀ M' k x, mF M M' → MX M' tl tx → MX (rm_sI M' 86 k (nI x)) tl tx := fun M' k x hm hX => hX.fr ⟨fun k a1 a2 a3 a4 => by rw [pn_sI_ne _ _ _ (by omega)], FR.sI (by omega)⟩
  obtain ⟨F, hFF⟩ : ∃ F, rm_F = F + 1 + 1 + 1 + 1 + 1 := ⟨rm_F - 5, by omega⟩
  have main : ∀ G, G = F + 1 + 1 + 1 + 1 + 1 → (¬ (sy tl tx 4 q = true ∧ 1 ≤ vv tl tx 0 q ∧ vv tl tx 0 q ≤ 4) ∧ mdN M tl tx (fX8_readsPrice_L2 (nI q) G (nI 0) M)) ∨ ((sy tl tx 4 q = true ∧ 1 ≤ vv tl tx 0 q ∧ vv tl tx 0 q ≤ 4) ∧ mdY M tl tx (fX8_readsPrice_L2 (nI q) G (nI 0) M) (pkk tl tx 4 q) cs jn w (fun k => vv tl tx k q) v) := by
    intro G hG
    subst hG
    obtain ⟨M1, f1, g1, g2, n1⟩ := pX8_number (p := q) (lo := 1) (hi := 4) hT hB (by omega) (by omega) (by omega)
    rw [fX8_readsPrice_L2, pn_lit 4, pn_lit 0, pn_lit 1, if_neg (by decide), if_pos rfl]
    unfold fX8_readsPrice_L16
    rw [pn_lit 0, pn_lit 4, if_pos rfl]
    unfold fX8_readsPrice_L27
    rw [pn_lit 0, if_pos rfl, f1, pn_bd]
    by_cases c : fgB tl tx q = true ∧ 1 ≤ nV tl tx q ∧ nV tl tx q ≤ 4
    · rw [if_pos c, if_neg z10]
      unfold fX8_readsPrice_L59
      rw [if_pos ib40, rm_lt1, cl0, g1, pn_lit 1, nI_add]
      have m1 : mF M (rm_sI M1 86 0 (nI (nV tl tx q))) := n1.m.tr ⟨fun k a1 a2 a3 a4 => by rw [pn_sI_ne _ _ _ (by omega)], FR.sI (by omega)⟩
      have X1 := putm M1 0 (nV tl tx q) n1.m (hT.fr n1.m)
      rcases step 1 (F + 1 + 1 + 1) (nE tl tx q) _ (by omega) (by omega) X1 m1 (by rw [pn_sI_ne _ _ _ (by omega)]; exact g2) (by omega) with ⟨M2, f2, m2, no⟩ | ⟨M2, f2, m2, n2, e2, c2, z2⟩
      · exact Or.inl ⟨fun q2 => no ⟨(hsy q2.1).1.2, (hsy q2.1).2.1.1⟩, mdN.of0 m2 f2⟩
      · have hne1 := nE_ge tl tx (nE tl tx q + 1)
        have hl1 := (ch_iff.mp c2).1
        have X2 := hT.fr m2
        rcases step 2 (F + 1 + 1) (nE tl tx (nE tl tx q + 1)) _ (by omega) (by omega) X2 m2 (by rw [pn_sI_ne _ _ _ (by omega)]; exact e2) (by omega) with ⟨M3, f3, m3, no⟩ | ⟨M3, f3, m3, n3, e3, c3, z3⟩
        · exact Or.inl ⟨fun q2 => no ⟨(hsy q2.1).2.1.2, (hsy q2.1).2.2.1.1⟩, mdN.of0 m3 (by rw [f2, f3])⟩
        · have hne2 := nE_ge tl tx (nE tl tx (nE tl tx q + 1) + 1)
          have hl2 := (ch_iff.mp c3).1
          have X3 := hT.fr m3
          rcases step 3 (F + 1) (nE tl tx (nE tl tx (nE tl tx q + 1) + 1)) _ (by omega) (by omega) X3 m3 (by rw [pn_sI_ne _ _ _ (by omega)]; exact e3) (by omega) with ⟨M4, f4, m4, no⟩ | ⟨M4, f4, m4, n4, e4, c4, z4⟩
          · exact Or.inl ⟨fun q2 => no ⟨(hsy q2.1).2.2.1.2, (hsy q2.1).2.2.2.1⟩, mdN.of0 m4 (by rw [f2, f3, f4])⟩
          · have hne3 := nE_ge tl tx (nE tl tx (nE tl tx (nE tl tx q + 1) + 1) + 1)
            have hl3 := (ch_iff.mp c4).1
            have ft := fin F (rm_sI M4 86 3 (nI (nV tl tx (nE tl tx (nE tl tx (nE tl tx q + 1) + 1) + 1))))
            have e15 : (rm_sI M4 86 3 (nI (nV tl tx (nE tl tx (nE tl tx (nE tl tx q + 1) + 1) + 1)))).1 79 15 = nI (nE tl tx (nE tl tx (nE tl tx (nE tl tx q + 1) + 1) + 1)) := by rw [pn_sI_ne _ _ _ (by omega)]; exact e4
            by_cases z5 : chB tl tx (nE tl tx (nE tl tx (nE tl tx (nE tl tx q + 1) + 1) + 1)) 59 = true
            · right
              refine ⟨⟨?_, c.2⟩, _, _, m4, by rw [f2, f3, f4, ft], e15, rfl, z5, ?_⟩
              · rw [sy4, sy3, sy2, sy1, c.1, c2, z2, c3, z3, c4, z4, z5]; rfl
              · have D1 := hD.n n1
                refine ⟨?_, ?_, fun a b ha hb => ?_, fun k hk => ?_, fun k hk => ?_⟩
                · rw [pn_sI_ne _ _ _ (by omega), n4.1 9 (by omega) (by omega), pn_sI_ne _ _ _ (by omega), n3.1 9 (by omega) (by omega), pn_sI_ne _ _ _ (by omega), n2.1 9 (by omega) (by omega), pn_sI_ne _ _ _ (by omega)]; exact D1.1
                · rw [pn_sI_ne _ _ _ (by omega), n4.1 10 (by omega) (by omega), pn_sI_ne _ _ _ (by omega), n3.1 10 (by omega) (by omega), pn_sI_ne _ _ _ (by omega), n2.1 10 (by omega) (by omega), pn_sI_ne _ _ _ (by omega)]; exact D1.2.1
                · rw [pn_sI_ne _ _ _ (by omega), (n4.2.1 85 (by omega)).1, pn_sI_ne _ _ _ (by omega), (n3.2.1 85 (by omega)).1, pn_sI_ne _ _ _ (by omega), (n2.2.1 85 (by omega)).1, pn_sI_ne _ _ _ (by omega)]; exact D1.2.2.1 a b ha hb
                · rw [pn_sI_eq]
                  rcases (show k = 3 ∨ k = 2 ∨ k = 1 ∨ k = 0 by omega) with rfl | rfl | rfl | rfl
                  · rw [pn_upd_eq]; rfl
                  · rw [pn_upd_ne _ _ (by omega), (n4.2.1 86 (by omega)).1, pn_sI_eq, pn_upd_eq]; rfl
                  · rw [pn_upd_ne _ _ (by omega), (n4.2.1 86 (by omega)).1, pn_sI_eq, pn_upd_ne _ _ (by omega), (n3.2.1 86 (by omega)).1, pn_sI_eq, pn_upd_eq]; rfl
                  · rw [pn_upd_ne _ _ (by omega), (n4.2.1 86 (by omega)).1, pn_sI_eq, pn_upd_ne _ _ (by omega), (n3.2.1 86 (by omega)).1, pn_sI_eq, pn_upd_ne _ _ (by omega), (n2.2.1 86 (by omega)).1, pn_sI_eq, pn_upd_eq]; rfl
                · rw [pn_sI_ne _ _ _ (by omega), (n4.2.1 87 (by omega)).1, pn_sI_ne _ _ _ (by omega), (n3.2.1 87 (by omega)).1, pn_sI_ne _ _ _ (by omega), (n2.2.1 87 (by omega)).1, pn_sI_ne _ _ _ (by omega)]; exact D1.2.2.2.2 k hk
            · exact Or.inl ⟨fun q2 => z5 (hsy q2.1).2.2.2.2, _, m4, Or.inr ⟨_, by rw [f2, f3, f4, ft], e15, by omega, Bool.not_eq_true _ ▸ z5⟩⟩
    · rw [if_neg c, if_pos rfl]
      exact Or.inl ⟨fun q2 => c ⟨(hsy q2.1).1.1, q2.2⟩, mdN.of0 n1.m rfl⟩
  unfold fX8_readsPrice
  rw [pn_lit 0]
  exact main rm_F hFF
