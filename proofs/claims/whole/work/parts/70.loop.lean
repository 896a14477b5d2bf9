/-! ===== the law's loop ===== -/
set_option maxHeartbeats 4000000 in
theorem law_loop {L : Nat} {xs : Nat → Int32} (hL : L ≤ 2048) : ∀ d f j M, L < 4 * j + 4 * d + 4 → 4 * j ≤ L → d < f → Inv j M → ∃ M2, fL_law_L18 L xs f (nI (4 * j)) M = some (nI 1, M2) := by
  have stop : ∀ f j M, L < 4 * j + 4 → 4 * j ≤ L → fL_law_L18 L xs (f + 1) (nI (4 * j)) M = some (nI 1, M) := by
    intro f j M h1 h2
    have hc : nI L - (4 : Int32) < nI (4 * j) := by
      rw [pn_lit 4]
      by_cases c : L < 4
      · have : j = 0 := by omega
        subst this
        rcases (show L = 0 ∨ L = 1 ∨ L = 2 ∨ L = 3 by omega) with rfl | rfl | rfl | rfl <;> decide
      · rw [pk_sub (by omega), nI_ltI (by omega) (by omega)]; omega
    rw [fL_law_L18, if_pos hc]
    rfl
  intro d
  induction d with
  | zero =>
    intro f j M h1 h2 hf hI
    obtain ⟨f, rfl⟩ : ∃ z, f = z + 1 := ⟨f - 1, by omega⟩
    exact ⟨M, stop f j M (by omega) h2⟩
  | succ d ih =>
    intro f j M h1 h2 hf hI
    obtain ⟨f, rfl⟩ : ∃ z, f = z + 1 := ⟨f - 1, by omega⟩
    by_cases c : L < 4 * j + 4
    · exact ⟨M, stop f j M c h2⟩
    · have hc : ¬ nI L - (4 : Int32) < nI (4 * j) := by
        rw [pn_lit 4, pk_sub (by omega), nI_ltI (by omega) (by omega)]; omega
      have b0 : rm_ib (nI (4 * j)) L = true := by rw [pn_ib (by omega), decide_eq_true_eq]; omega
      have b1 : rm_ib (nI (4 * j) + (1 : Int32)) L = true := by rw [pn_lit 1, nI_add, pn_ib (by omega), decide_eq_true_eq]; omega
      have b2 : rm_ib (nI (4 * j) + (2 : Int32)) L = true := by rw [pn_lit 2, nI_add, pn_ib (by omega), decide_eq_true_eq]; omega
      have b3 : rm_ib (nI (4 * j) + (3 : Int32)) L = true := by rw [pn_lit 3, nI_add, pn_ib (by omega), decide_eq_true_eq]; omega
      have e4 : nI (4 * j) + (4 : Int32) = nI (4 * (j + 1)) := by rw [pn_lit 4, nI_add, show 4 * j + 4 = 4 * (j + 1) by omega]
      have go : ∀ M2, Inv (j + 1) M2 → ∃ M3, fL_law_L18 L xs f (nI (4 * j) + (4 : Int32)) M2 = some (nI 1, M3) := by
        intro M2 h
        rw [e4]
        exact ih f (j + 1) M2 (by omega) (by omega) (by omega) h
      have z0 : ∀ x : Int64, lg_cmp x x = 0 := fun x => (lgz x x).mpr rfl
      have ht : j < 1000 := by omega
      generalize hK : fL_law_L18 L xs f = K at go
      rw [fL_law_L18, if_neg hc, if_pos b0, rm_lt1, hK, e4]
      rw [e4] at go
      generalize xs (nI (4 * j)).toNatClampNeg &&& (31 : Int32) = v3
      generalize xs (nI (4 * j) + (1 : Int32)).toNatClampNeg = y1
      generalize xs (nI (4 * j) + (2 : Int32)).toNatClampNeg = y2
      generalize xs (nI (4 * j) + (3 : Int32)).toNatClampNeg = y3
      generalize nI (4 * (j + 1)) = x4 at go ⊢
      by_cases c0 : v3 = 0
      · obtain ⟨r, M1, M2, f1, f2, hI2⟩ := op_write hI y1
        rw [if_pos c0, if_pos b1, f1, pn_bd, if_pos b1, f2, pn_bd, if_pos rfl]
        exact go M2 hI2
      · rw [if_neg c0]
        by_cases c1 : v3 = 1
        · obtain ⟨r, M1, M2, f1, f2, hI2⟩ := op_wipe hI
          rw [if_pos c1, f1, pn_bd, f2, pn_bd, if_pos rfl]
          exact go M2 hI2
        · rw [if_neg c1]
          by_cases c2 : v3 = 2
          · obtain ⟨r, M1, M2, f1, f2, hI2⟩ := op_fault hI
            rw [if_pos c2, f1, pn_bd, f2, pn_bd, if_pos rfl]
            exact go M2 hI2
          · rw [if_neg c2]
            by_cases c3 : v3 = 3
            · obtain ⟨r, M1, M2, f1, f2, hI2⟩ := op_lay hI
              rw [if_pos c3, f1, pn_bd, f2, pn_bd, if_pos rfl]
              exact go M2 hI2
            · rw [if_neg c3]
              by_cases c4 : v3 = 4
              · obtain ⟨r, M1, M2, f1, f2, hI2⟩ := op_set hI y1 y2 y3
                rw [if_pos c4, if_pos b1, if_pos b2, if_pos b3, f1, pn_bd, if_pos b1, if_pos b2, if_pos b3, f2, pn_bd, if_pos rfl]
                exact go M2 hI2
              · rw [if_neg c4]
                by_cases c5 : v3 = 5
                · obtain ⟨r, M1, M2, f1, f2, hI2⟩ := op_law hI y1 y2
                  rw [if_pos c5, if_pos b1, if_pos b2, f1, pn_bd, if_pos b1, if_pos b2, f2, pn_bd, if_pos rfl]
                  exact go M2 hI2
                · rw [if_neg c5]
                  by_cases c6 : v3 = 6
                  · obtain ⟨r, M1, M2, f1, f2, hI2⟩ := op_give hI
                    rw [if_pos c6, f1, pn_bd, f2, pn_bd, if_pos rfl]
                    exact go M2 hI2
                  · rw [if_neg c6]
                    by_cases c7 : v3 = 7
                    · obtain ⟨r, M1, M2, f1, f2, hI2⟩ := op_undo hI
                      rw [if_pos c7, f1, pn_bd, f2, pn_bd, if_pos rfl]
                      exact go M2 hI2
                    · rw [if_neg c7]
                      by_cases c8 : v3 = 8
                      · obtain ⟨r, M1, M2, f1, f2, hI2⟩ := op_cell hI y1 y2
                        rw [if_pos c8, if_pos b1, if_pos b2, f1, pn_bd, if_pos b1, if_pos b2, f2, pn_bd, if_pos rfl]
                        exact go M2 hI2
                      · rw [if_neg c8]
                        by_cases c9 : v3 = 9
                        · obtain ⟨r, M1, M2, f1, f2, hI2⟩ := op_weight hI y1 y2
                          rw [if_pos c9, if_pos b1, if_pos b2, f1, pn_bd, if_pos b1, if_pos b2, f2, pn_bd, if_pos rfl]
                          exact go M2 hI2
                        · rw [if_neg c9]
                          by_cases c10 : v3 = 10
                          · obtain ⟨r, M1, M2, f1, f2, hI2⟩ := op_wide hI y1 y2
                            rw [if_pos c10, if_pos b1, if_pos b2, f1, pn_bd, if_pos b1, if_pos b2, f2, pn_bd, if_pos rfl]
                            exact go M2 hI2
                          · rw [if_neg c10]
                            by_cases c11 : v3 = 11
                            · obtain ⟨r, M1, M2, f1, f2, hI2⟩ := op_tick hI ht y1
                              rw [if_pos c11, if_pos b1, f1, pn_bd, if_pos b1, f2, pn_bd, if_pos rfl]
                              exact go M2 hI2
                            · rw [if_neg c11]
                              by_cases c12 : v3 = 12
                              · obtain ⟨r, M1, M2, f1, f2, hI2⟩ := op_page hI ht
                                rw [if_pos c12, f1, pn_bd, f2, pn_bd, if_pos rfl]
                                exact go M2 hI2
                              · rw [if_neg c12]
                                by_cases c13 : v3 = 13
                                · obtain ⟨r, M1, M2, f1, f2, hI2⟩ := op_handset hI y1
                                  rw [if_pos c13, if_pos b1, f1, pn_bd, if_pos b1, f2, pn_bd, if_pos rfl]
                                  exact go M2 hI2
                                · rw [if_neg c13]
                                  by_cases c14 : v3 = 14
                                  · obtain ⟨r, M1, M2, f1, f2, hI2⟩ := op_where hI ht
                                    rw [if_pos c14, f1, pn_bd, f2, pn_bd, if_pos rfl]
                                    exact go M2 hI2
                                  · rw [if_neg c14]
                                    by_cases c15 : v3 = 15
                                    · obtain ⟨r, M1, M2, f1, f2, hI2⟩ := op_round hI ht y1
                                      rw [if_pos c15, if_pos b1, f1, pn_bd, if_pos b1, f2, pn_bd, if_pos rfl]
                                      exact go M2 hI2
                                    · rw [if_neg c15]
                                      by_cases c16 : v3 = 16
                                      · obtain ⟨r, M1, M2, f1, f2, hI2⟩ := op_chance hI y1 y2
                                        rw [if_pos c16, if_pos b1, if_pos b2, f1, pn_bd, if_pos b1, if_pos b2, f2, pn_bd, if_pos (z0 r)]
                                        exact go M2 hI2
                                      · rw [if_neg c16]
                                        by_cases c17 : v3 = 17
                                        · obtain ⟨r, M1, M2, f1, f2, hI2⟩ := op_mean hI y1 y2
                                          rw [if_pos c17, if_pos b1, if_pos b2, f1, pn_bd, if_pos b1, if_pos b2, f2, pn_bd, if_pos (z0 r)]
                                          exact go M2 hI2
                                        · rw [if_neg c17]
                                          by_cases c18 : v3 = 18
                                          · obtain ⟨r, M1, M2, f1, f2, hI2⟩ := op_best hI y1
                                            rw [if_pos c18, if_pos b1, f1, pn_bd, if_pos b1, f2, pn_bd, if_pos rfl]
                                            exact go M2 hI2
                                          · rw [if_neg c18]
                                            by_cases c19 : v3 = 19
                                            · obtain ⟨r, M1, M2, f1, f2, hI2⟩ := op_least hI y1
                                              rw [if_pos c19, if_pos b1, f1, pn_bd, if_pos b1, f2, pn_bd, if_pos (z0 r)]
                                              exact go M2 hI2
                                            · rw [if_neg c19]
                                              by_cases c20 : v3 = 20
                                              · obtain ⟨r, M1, M2, f1, f2, hI2⟩ := op_walk hI ht y1 y2 y3
                                                rw [if_pos c20, if_pos b1, if_pos b2, if_pos b3, f1, pn_bd, if_pos b1, if_pos b2, if_pos b3, f2, pn_bd, if_pos rfl]
                                                exact go M2 hI2
                                              · rw [if_neg c20]
                                                by_cases c21 : v3 = 21
                                                · obtain ⟨r, M1, M2, f1, f2, hI2⟩ := op_count hI y1
                                                  rw [if_pos c21, if_pos b1, f1, pn_bd, if_pos b1, f2, pn_bd, if_pos rfl]
                                                  exact go M2 hI2
                                                · rw [if_neg c21]
                                                  exact go M (hI.ro (S := fun _ => False) FR.rf (fun a ha => ha.elim))
