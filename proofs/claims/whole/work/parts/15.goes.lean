/-! ===== the model goes ===== -/
theorem pX8_isDue {M : rm_M} {q cs : Nat} {h v : Nat → Nat} {ds : Nat → Nat → Nat} (hk : (rm_kd q).2 = 20) (hh : MV M q h) (hv : MV M 83 v) (he : ∀ k, k < 14 → h k = v k) (hw : WV cs h) (hcs : cs ≤ 6)
    (hfar : ∀ a b, a < cs → b < cs → fX8_far (nI a) (nI b) M = some (nI (ds b a), M)) (hds : ∀ a b, a < cs → b < cs → ds a b < 2 ^ 31) : fX8_isDue q M = some (nI (if due ds h = true then 1 else 0), M) := by
  obtain ⟨w1, w2, w3, w4, w5, w6, w7⟩ := hw
  have b13 := w1 13 (by omega)
  have b16 := w1 16 (by omega)
  have b17 := w1 17 (by omega)
  have k1 := (w2 (h 14) (by omega)).2
  have k2 := (w2 (h 15) (by omega)).2
  have e12 : M.1 83 12 = nI (h 12) := by rw [hv 12 (by omega), he 12 (by omega)]
  have e13 : M.1 83 13 = nI (h 13) := by rw [hv 13 (by omega), he 13 (by omega)]
  have ea : M.1 83 (6 + h 14) = nI (h (6 + h 14)) := (hv _ (by omega)).trans (congrArg nI (he _ (by omega)).symm)
  have eb : M.1 83 (6 + h 15) = nI (h (6 + h 15)) := (hv _ (by omega)).trans (congrArg nI (he _ (by omega)).symm)
  have bd := hds _ _ w7 w6
  unfold fX8_isDue due
  simp (disch := omega) only [rm_lt1, pn_lit, hk, pn_ib, nI_clamp, e12, e13, hh 14 (by omega), hh 15 (by omega), hh 16 (by omega), hh 17 (by omega), nI_add, ea, eb, nI_eq, nI_ltI, hfar _ _ w6 w7, pn_bd, decide_eq_true_eq]
  by_cases c0 : h 12 = 0
  · rw [if_pos c0, if_pos c0, if_pos (by omega), if_pos (by omega), if_pos (by omega), if_pos (by omega), if_pos (by omega)]
    by_cases c4 : h (6 + h 14) = h (6 + h 15)
    · rw [if_pos c4]; simp [c4]; rfl
    · rw [if_neg c4]; simp [c4]; rfl
  · rw [if_pos (by omega), if_neg c0, if_neg c0]
    by_cases c1 : h 12 = 1
    · rw [if_pos c1, if_pos c1, if_pos (by omega), if_pos (by omega)]
      by_cases c2 : h 16 < h 13
      · rw [if_pos c2]; simp [show ¬ h 13 ≤ h 16 by omega]; rfl
      · rw [if_neg c2]; simp [show h 13 ≤ h 16 by omega]; rfl
    · rw [if_neg c1, if_neg c1]
      by_cases c2 : h 12 = 2
      · rw [if_pos c2, if_pos c2, if_pos (by omega), if_pos (by omega)]
        by_cases c3 : h 17 < h 13
        · rw [if_pos c3]; simp [show ¬ h 13 ≤ h 17 by omega]; rfl
        · rw [if_neg c3]; simp [show h 13 ≤ h 17 by omega]; rfl
      · rw [if_neg c2, if_neg c2, if_pos (by omega), if_pos (by omega), if_pos (by omega)]
        by_cases c4 : ds (h 15) (h 14) < h 13
        · rw [if_pos c4]; simp [show ¬ h 13 ≤ ds (h 15) (h 14) by omega]; rfl
        · rw [if_neg c4]; simp [show h 13 ≤ ds (h 15) (h 14) by omega]; rfl
theorem pX8_goes {M : rm_M} {q cs c : Nat} {h v : Nat → Nat} {ds : Nat → Nat → Nat} (hk : (rm_kd q).2 = 20) (hq1 : q ≠ 79) (hq2 : q ≠ 81) (hh : MV M q h) (hv : q = 83 ∨ MV M 83 v) (he : ∀ k, k < 14 → h k = v k) (hw : WV cs h) (hcs : cs ≤ 6) (hc : c < cs) (h16 : h 16 + 1 < 2 ^ 31) (h17 : h 17 + 1 < 2 ^ 31)
    (hfar : ∀ M', M'.1 79 = M.1 79 → M'.1 81 = M.1 81 → ∀ a b, a < cs → b < cs → fX8_far (nI a) (nI b) M' = some (nI (ds b a), M')) (hds : ∀ a b, a < cs → b < cs → ds a b < 2 ^ 31) :
    ∃ M2, fX8_goes q (nI c) M = some (nI (if due ds (mv1 c h) = true then 1 else 0), M2) ∧ MV M2 q (goV ds c h) ∧ FR (fun a => a = q) M M2 := by
  have b14 := hw.1 14 (by omega)
  have step : ∀ y, y = (if c = h 14 then 0 else 1) → ∃ M2, fX8_goes_L18 q (nI c) (nI 16) (nI (h 16)) (nI y) M = some (nI (if due ds (mv1 c h) = true then 1 else 0), M2) ∧ MV M2 q (goV ds c h) ∧ FR (fun a => a = q) M M2 := by
    intro y hy
    unfold fX8_goes_L18
    have hF1 : FR (fun a => a = q) M (rm_sI (rm_sI (rm_sI M q 16 (nI (h 16 + y))) q 14 (nI c)) q 17 (nI (h 17 + 1))) := FR.sIr (FR.sIr (FR.sIr FR.rf rfl) rfl) rfl
    have hm : MV (rm_sI (rm_sI (rm_sI M q 16 (nI (h 16 + y))) q 14 (nI c)) q 17 (nI (h 17 + 1))) q (mv1 c h) := by
      have h3 := ((hh.put (j := 16) (h 16 + y)).put (j := 14) c).put (j := 17) (h 17 + 1)
      have ev : vu (vu (vu h 16 (h 16 + y)) 14 c) 17 (h 17 + 1) = mv1 c h := by
        unfold mv1
        rw [← hy]
        funext k
        by_cases k14 : k = 14
        · subst k14; simp [vu]
        · by_cases k17 : k = 17
          · subst k17; simp [vu]
          · by_cases k16 : k = 16
            · subst k16; simp [vu]
            · simp [vu, k14, k16, k17]
      rw [ev] at h3
      exact h3
    have h17r : (rm_sI (rm_sI M q 16 (nI (h 16 + y))) q 14 (nI c)).1 q 17 = nI (h 17) := by
      simp (disch := omega) only [pn_sI_eq, pn_upd_ne, hh 17 (by omega)]
    have hdue : fX8_isDue q (rm_sI (rm_sI (rm_sI M q 16 (nI (h 16 + y))) q 14 (nI c)) q 17 (nI (h 17 + 1))) = some (nI (if due ds (mv1 c h) = true then 1 else 0), rm_sI (rm_sI (rm_sI M q 16 (nI (h 16 + y))) q 14 (nI c)) q 17 (nI (h 17 + 1))) := by
      have hfar2 := hfar _ (hF1.1 79 (Ne.symm hq1)).1 (hF1.1 81 (Ne.symm hq2)).1
      rcases hv with hv | hv
      · subst hv
        exact pX8_isDue hk hm hm (fun k _ => rfl) (hw.mv1 hc hcs h16 h17) hcs hfar2 hds
      · by_cases q83 : q = 83
        · subst q83
          exact pX8_isDue hk hm hm (fun k _ => rfl) (hw.mv1 hc hcs h16 h17) hcs hfar2 hds
        · exact pX8_isDue hk hm (hv.fr hF1 (Ne.symm q83)) (fun k hk2 => by rw [mv1_lo hk2]; exact he k hk2) (hw.mv1 hc hcs h16 h17) hcs hfar2 hds
    simp (disch := omega) only [rm_lt1, pn_lit, hk, pn_ib, nI_clamp, nI_add, h17r, hdue, pn_bd, decide_eq_true_eq]
    rw [if_pos (by omega), if_pos (by omega), if_pos (by omega), if_pos (by omega)]
    by_cases c1 : due ds (mv1 c h) = true
    · rw [if_pos c1, if_neg (by rw [nI_eq (by omega) (by omega)]; omega), if_pos (by omega), if_pos (by omega)]
      rw [hm 18 (by omega), nI_add, mv1_18 (by omega)]
      obtain ⟨M3, f3, s3, r3⟩ := pX8_registers hk (hm.put (j := 18) (h 18 + 1))
      rw [f3]
      refine ⟨M3, rfl, ?_, FR.tr (FR.sIr hF1 rfl) r3⟩
      unfold goV
      rw [if_pos c1]
      exact s3
    · rw [if_neg c1, if_pos rfl]
      refine ⟨_, rfl, ?_, hF1⟩
      unfold goV
      rw [if_neg c1]
      exact hm
  unfold fX8_goes
  simp (disch := omega) only [pn_lit, hk, pn_ib, nI_clamp, hh 14 (by omega), hh 16 (by omega), nI_eq, decide_eq_true_eq]
  rw [if_pos (by omega), if_pos (by omega)]
  by_cases c1 : c = h 14
  · rw [if_pos c1]
    exact step 0 (by rw [if_pos c1])
  · rw [if_neg c1]
    exact step 1 (by rw [if_neg c1])
