/-! ===== LAID ===== -/
theorem rdF_lt {tl : Nat} {tx : Nat → Nat} : ∀ g p R q, p ≤ tl → WDr R → rdF tl tx g p R = .inl q → q < tl := by
  intro g
  induction g with
  | zero => intro p R q hp hW h; rw [rdF] at h; cases h
  | succ g ih =>
    intro p R q hp hW h
    rw [rdF] at h
    by_cases c : tl ≤ p
    · rw [if_pos c] at h; cases h
    · rw [if_neg c] at h
      split at h
      · injection h with h; omega
      · rename_i Q e
        obtain ⟨p', cs', jn', w', pr', v'⟩ := Q
        obtain ⟨k1, k2, k3, k4, k5⟩ := itm_ok hW e (by omega)
        exact ih p' (cs', jn', w', pr', v') q k3 k1 h
theorem rs_app (f : Nat → Nat) : ∀ d e i, rs f i (d + e) = rs f i d + rs f (i + d) e
  | 0, e, i => by rw [Nat.zero_add, Nat.add_zero, rs, Nat.zero_add]
  | d + 1, e, i => by
    rw [show d + 1 + e = (d + e) + 1 by omega, rs, rs, rs_app f d e (i + 1), show i + 1 + d = i + (d + 1) by omega, Nat.add_assoc]
theorem ou_6 {cs : Nat} {w : Nat → Nat → Nat} (hcs : cs ≤ 6) (hw : ∀ a b, 0 < w a b → a < cs ∧ b < cs) (c : Nat) : ou 6 w c = ou cs w c := by
  obtain ⟨e, he⟩ : ∃ e, 6 = cs + e := ⟨6 - cs, by omega⟩
  unfold ou
  have hz : rs (w c) (0 + cs) e ≤ e * 0 := rs_le (m := 0) e (0 + cs) (fun j h1 h2 => by
    rcases Nat.eq_zero_or_pos (w c j) with q | q
    · omega
    · have := (hw c j q).2; omega)
  have h6 : rs (w c) 0 6 = rs (w c) 0 (cs + e) := by rw [he]
  rw [h6, rs_app]
  omega
theorem nr_6 {cs : Nat} {w : Nat → Nat → Nat} (hcs : cs ≤ 6) (hw : ∀ a b, 0 < w a b → a < cs ∧ b < cs) (c : Nat) : nr 6 w c = nr cs w c := by
  apply Nat.eq_of_testBit_eq
  intro b
  rw [Bool.eq_iff_iff, nr_bit, nr_bit]
  constructor
  · rintro ⟨h1, h2⟩
    exact ⟨(hw c b h2).2, h2⟩
  · rintro ⟨h1, h2⟩
    exact ⟨by omega, h2⟩
theorem m4ne {p : Nat} (hp : p < 1000) : ¬ nI p = (-4 : Int32) := by
  intro q
  have h9 : (nI p).toInt = (-4 : Int32).toInt := by rw [q]
  rw [nI_toInt (by omega)] at h9
  have : (-4 : Int32).toInt = -4 := rfl
  omega
theorem pX7_layText {M : rm_M} {n s tl nx : Nat} {tx : Nat → Nat} (hPT : PT M n s) (hT : TX M tl tx) (hB : TB tl tx) (hx : M.1 4 1 = nI nx) (hnx : nx < 6) :
    (∃ M2, fX7_layText M = some (nI 0, M2) ∧ (∀ R, rdF tl tx 200 0 RD0 = .inr R → ¬ hgT R.1 R.2.2.1) ∧ (∀ k, k ≠ 2 → M2.1 1 k = M.1 1 k) ∧ FR (rdS (47 - n) (113 - s)) M M2) ∨
    (∃ M2 R, rdF tl tx 200 0 RD0 = .inr R ∧ hgT R.1 R.2.2.1 ∧ fX7_layText M = some (nI 1, M2) ∧ (∀ hv, CI M2 (47 - n) (113 - s) tl tx R.1 R.2.1 R.2.2.1 R.2.2.2.1 R.2.2.2.2 0 nx hv) ∧ ∀ a, 79 ≤ a → M2.1 a = M.1 a ∧ M2.2.1 a = M.2.1 a) := by
  have b := hB.1
  obtain ⟨hn, hs, p6, p7, p8, p9⟩ := hPT
  have hn2 : 47 - n = 14 ∨ 47 - n = 33 := by omega
  have hs2 : 113 - s = 55 ∨ 113 - s = 58 := by omega
  have kn2 : rm_kd (47 - n) = (1, 0) := pn_net hn2
  have ks2 : rm_kd (113 - s) = (4, 0) := pn_sta (by omega)
  have kn : rm_kd n = (1, 0) := pn_net hn
  have ks : rm_kd s = (4, 0) := pn_sta (by omega)
  obtain ⟨M1, f1, g1, j1, r1⟩ := pX5_readInto hn2 hs2 hB hT
  unfold fX7_layText
  rw [p8, p9, rm_lt1, if_pos kn2, rm_lt1, if_pos ks2, f1, pn_bd]
  cases hr : rdF tl tx 200 0 RD0 with
  | inl p =>
    have hp := rdF_lt 200 0 RD0 p (by omega) WD0 hr
    left
    refine ⟨M1, ?_, fun R q => (by cases q), j1, r1⟩
    rw [show rdR (.inl p) = nI p from rfl, if_neg (m4ne (by omega))]
    rfl
  | inr R =>
    have hW := rdF_ok 200 0 RD0 R (by omega) WD0 hr
    obtain ⟨cs, jn, w, pr, v⟩ := R
    have hW : WD cs jn w pr v := hW
    have D1 : DC M1 (47 - n) (113 - s) cs jn w pr v := g1 _ hr
    have hcs : cs ≤ 6 := by have := hW.1; omega
    obtain ⟨M2, f2, c2, r2⟩ := pX1_isWhole (w := w) hcs D1.1 D1.2.2.1.2.1
    have e8 : M1.2.2 8 = 47 - n := by rw [r1.2]; exact p8
    rw [show rdR (.inr (cs, jn, w, pr, v)) = (-4 : Int32) from rfl, if_pos rfl, e8, rm_lt1, if_pos kn2]
    have r12 : FR (rdS (47 - n) (113 - s)) M M2 := r1.tr (r2.mono (fun a ha => by unfold rdS; omega))
    rcases f2 with ⟨hg, f2⟩ | ⟨hg, f2⟩
    · right
      have hN : WN cs w := WN.of hW hg.1 hg.2
      have q6 : M2.2.2 6 = n := by rw [r12.2]; exact p6
      have q7 : M2.2.2 7 = s := by rw [r12.2]; exact p7
      have q8 : M2.2.2 8 = 47 - n := by rw [r12.2]; exact p8
      have q9 : M2.2.2 9 = 113 - s := by rw [r12.2]; exact p9
      rw [f2, pn_bd, pn_lit 0, if_neg z10, q6, rm_lt1, if_pos kn, q7, rm_lt1, if_pos ks, q8, rm_lt1, if_pos kn2, rm_lt1]
      rw [show (rm_sR M2 6 (47 - n)).2.2 9 = 113 - s by rw [pn_sR_ne _ _ (by omega)]; exact q9, rm_lt1, if_pos ks2, rm_lt1, rm_lt1, rm_lt1]
      generalize hM3 : rm_sR (rm_sR (rm_sR (rm_sR M2 6 (47 - n)) 7 (113 - s)) 8 n) 9 s = M3
      have a1 : M3.1 = M2.1 := by rw [← hM3]; rfl
      have a2 : M3.2.1 = M2.2.1 := by rw [← hM3]; rfl
      have a6 : M3.2.2 6 = 47 - n := by rw [← hM3, pn_sR_ne _ _ (by omega), pn_sR_ne _ _ (by omega), pn_sR_ne _ _ (by omega), pn_sR_eq]
      have a7 : M3.2.2 7 = 113 - s := by rw [← hM3, pn_sR_ne _ _ (by omega), pn_sR_ne _ _ (by omega), pn_sR_eq]
      have a8 : M3.2.2 8 = n := by rw [← hM3, pn_sR_ne _ _ (by omega), pn_sR_eq]
      have a9 : M3.2.2 9 = s := by rw [← hM3, pn_sR_eq]
      have cn3 : CN M3 (47 - n) cs w := by
        unfold CN
        rw [a1]
        refine ⟨by rw [(r2.1 _ (by omega)).1]; exact D1.1, fun a b ha hb => by rw [(r2.1 _ (by omega)).1]; exact D1.2.2.1.1 a b ha hb, fun c hc => ?_⟩
        rw [(r2.1 _ (by omega)).1, D1.2.2.1.2.2.2 c (by omega), ou_6 hcs hW.2.2.2.2.1]
      obtain ⟨M4, f4, t4, r4, e4⟩ := pX1_growTrees hN cn3
      rw [a6, rm_lt1, if_pos kn2, f4, pn_bv, rm_lt1]
      have R4 : M4.2.2 = M3.2.2 := r4.2
      rw [show (rm_sI M4 4 2 (nI 0)).2.2 6 = 47 - n by rw [pn_sI2, R4]; exact a6, rm_lt1, if_pos kn2, show (rm_sI M4 4 2 (nI 0)).2.2 7 = 113 - s by rw [pn_sI2, R4]; exact a7, rm_lt1, if_pos ks2]
      have b1 : ∀ q, q ≠ 4 → (rm_sI M4 4 2 (nI 0)).1 q = M2.1 q := fun q hq => by rw [pn_sI_ne _ _ _ hq, e4, a1]
      have C0 : ∀ hv, CI0 (rm_sI M4 4 2 (nI 0)) (47 - n) (113 - s) tl tx cs jn w pr v 0 nx hv := by
        intro hv
        refine ⟨⟨hn2, hs2, ?_, ?_, ?_, ?_⟩, ⟨?_, fun k hk => ?_⟩, ⟨⟨?_, fun a b ha hb => ?_, fun c hc => ?_⟩, ?_, fun c hc => ?_, fun a b ha hb => ?_, fun c hc => ?_, fun k hk => ?_⟩, ⟨fun c hc => ?_, fun c hc => ?_, fun j h1 h2 => ?_⟩, ?_, ?_, by omega, hnx, fun i hi => by omega⟩
        · rw [pn_sI2, R4]; exact a6
        · rw [pn_sI2, R4]; exact a7
        · rw [pn_sI2, R4, a8]; omega
        · rw [pn_sI2, R4, a9]; omega
        · rw [b1 1 (by omega), (r2.1 1 (by omega)).1, j1 3 (by omega)]; exact hT.1
        · rw [b1 2 (by omega), (r12.1 2 (by unfold rdS; omega)).1]; exact hT.2 k hk
        · rw [b1 _ (by omega), ← a1]; exact cn3.1
        · rw [b1 _ (by omega), ← a1]; exact cn3.2.1 a b ha hb
        · rw [b1 _ (by omega), ← a1]; exact cn3.2.2 c hc
        · rw [b1 _ (by omega), (r2.1 _ (by omega)).1]; exact D1.2.1
        · rw [b1 _ (by omega), (r2.1 _ (by omega)).1, D1.2.2.1.2.2.1 c (by omega), nr_6 hcs hW.2.2.2.2.1]
        · rw [b1 _ (by omega)]; exact c2 a b ha hb
        · exact t4 c hc
        · rw [b1 _ (by omega), (r2.1 _ (by omega)).1]; exact D1.2.2.2.1 k hk
        · rw [b1 _ (by omega), (r2.1 _ (by omega)).1]; exact D1.2.2.2.2.1 c hc
        · rw [b1 _ (by omega), (r2.1 _ (by omega)).1]; exact D1.2.2.2.2.2.1 c hc
        · rw [b1 _ (by omega), (r2.1 _ (by omega)).1]; exact D1.2.2.2.2.2.2 j h1 h2
        · rw [pn_sI_eq, pn_upd_eq]
        · rw [pn_sI_eq, pn_upd_ne _ _ (by omega), e4, a1, (r12.1 4 (by unfold rdS; omega)).1]; exact hx
      have hv9 : ∀ c, c < 6 → v c ≤ 9 := fun c hc => (hW.2.2.2.2.2.2.2.1 c hc).1
      obtain ⟨M5, f5, C5, r5⟩ := (C0 (fun _ _ => 0)).rk hN hv9
      rw [f5, pn_bv]
      refine ⟨M5, (cs, jn, w, pr, v), rfl, hg, rfl, fun hv => ?_, fun a ha => ?_⟩
      · obtain ⟨c1, c2, c3, c4, c5, c6⟩ := C5
        exact ⟨c1, c2, c3, c4, ⟨c5.1, c5.2.1, c5.2.2.1, c5.2.2.2.1, fun i hi => by omega⟩, c6⟩
      · constructor
        · rw [(r5.1 a (by omega)).1, b1 a (by omega), (r12.1 a (by unfold rdS; omega)).1]
        · rw [(r5.1 a (by omega)).2, show (rm_sI M4 4 2 (nI 0)).2.1 a = M4.2.1 a from rfl, (r4.1 a (by omega)).2, a2, (r12.1 a (by unfold rdS; omega)).2]
    · left
      rw [f2, pn_bd, pn_lit 0, if_pos rfl]
      refine ⟨M2, rfl, fun R q => by injection q with q; rw [← q]; exact hg, fun k hk => by rw [(r2.1 1 (by omega)).1]; exact j1 k hk, r12⟩
/-! the model takes what was read -/
theorem pX8_takes {M : rm_M} {cs jn : Nat} {w : Nat → Nat → Nat} {pr v : Nat → Nat} (hD : DM M cs jn w pr v) : ∃ M2, fX8_takes M = some M2 ∧ MW M2 cs w ∧ M2.1 79 3 = nI jn ∧ MPr M2 pr ∧ MV M2 83 v ∧ M2.1 79 8 = nI 0 ∧ M2.1 79 0 = M.1 79 0 ∧ FR (fun q => q = 79 ∨ (81 ≤ q ∧ q ≤ 83)) M M2 := by
  have hF := pn_F
  have k70 : ∀ d f i M, i + d = 4 → d < f → (∀ k, k < i → M.1 82 k = M.1 86 k) → ∃ M2, fX8_takes_L70 f (nI i) M = some (rm_sI M2 79 8 (nI 0)) ∧ (∀ k, k < 4 → M2.1 82 k = M.1 86 k) ∧ FR (fun q => q = 82) M M2 := by
    intro d
    induction d with
    | zero =>
      intro f i M hi hf h0
      obtain ⟨f, rfl⟩ : ∃ z, f = z + 1 := ⟨f - 1, by omega⟩
      rw [fX8_takes_L70, pn_lit 4, if_pos (by rw [nI_leI (by omega) (by omega)]; omega), rm_lt1, pn_lit 0]
      exact ⟨M, rfl, fun k hk => h0 k (by omega), FR.rf⟩
    | succ d ih =>
      intro f i M hi hf h0
      obtain ⟨f, rfl⟩ : ∃ z, f = z + 1 := ⟨f - 1, by omega⟩
      have hib : rm_ib (nI i) 4 = true := by rw [pn_ib (by omega), decide_eq_true_eq]; omega
      rw [fX8_takes_L70, pn_lit 4, if_neg (by rw [nI_leI (by omega) (by omega)]; omega), if_pos hib, if_pos hib, rm_lt1, nI_clamp (by omega), pn_lit 1, nI_add]
      obtain ⟨M2, f2, g2, r2⟩ := ih f (i + 1) (rm_sI M 82 i (M.1 86 i)) (by omega) (by omega) (fun k hk => by
        rw [pn_sI_eq, pn_sI_ne _ _ _ (by omega)]
        by_cases e : k = i
        · subst e; rw [pn_upd_eq]
        · rw [pn_upd_ne _ _ e]; exact h0 k (by omega))
      exact ⟨M2, f2, fun k hk => by rw [g2 k hk, pn_sI_ne _ _ _ (by omega)], FR.tr (FR.sI rfl) r2⟩
  have k44 : ∀ d f i M, i + d = 20 → d < f → (∀ k, k < i → M.1 83 k = M.1 87 k) → ∃ M2, fX8_takes_L44 f (nI i) M = fX8_takes_L70 rm_F (nI 0) M2 ∧ (∀ k, k < 20 → M2.1 83 k = M.1 87 k) ∧ FR (fun q => q = 83) M M2 := by
    intro d
    induction d with
    | zero =>
      intro f i M hi hf h0
      obtain ⟨f, rfl⟩ : ∃ z, f = z + 1 := ⟨f - 1, by omega⟩
      rw [fX8_takes_L44, pn_lit 20, if_pos (by rw [nI_leI (by omega) (by omega)]; omega), pn_lit 0]
      exact ⟨M, rfl, fun k hk => h0 k (by omega), FR.rf⟩
    | succ d ih =>
      intro f i M hi hf h0
      obtain ⟨f, rfl⟩ : ∃ z, f = z + 1 := ⟨f - 1, by omega⟩
      have hib : rm_ib (nI i) 20 = true := by rw [pn_ib (by omega), decide_eq_true_eq]; omega
      rw [fX8_takes_L44, pn_lit 20, if_neg (by rw [nI_leI (by omega) (by omega)]; omega), if_pos hib, if_pos hib, rm_lt1, nI_clamp (by omega), pn_lit 1, nI_add]
      obtain ⟨M2, f2, g2, r2⟩ := ih f (i + 1) (rm_sI M 83 i (M.1 87 i)) (by omega) (by omega) (fun k hk => by
        rw [pn_sI_eq, pn_sI_ne _ _ _ (by omega)]
        by_cases e : k = i
        · subst e; rw [pn_upd_eq]
        · rw [pn_upd_ne _ _ e]; exact h0 k (by omega))
      exact ⟨M2, f2, fun k hk => by rw [g2 k hk, pn_sI_ne _ _ _ (by omega)], FR.tr (FR.sI rfl) r2⟩
  have k18 : ∀ d f i M, i + d = 36 → d < f → (∀ k, k < i → M.1 81 k = M.1 85 k) → ∃ M2, fX8_takes_L18 f (nI i) M = fX8_takes_L44 rm_F (nI 0) M2 ∧ (∀ k, k < 36 → M2.1 81 k = M.1 85 k) ∧ FR (fun q => q = 81) M M2 := by
    intro d
    induction d with
    | zero =>
      intro f i M hi hf h0
      obtain ⟨f, rfl⟩ : ∃ z, f = z + 1 := ⟨f - 1, by omega⟩
      rw [fX8_takes_L18, pn_lit 36, if_pos (by rw [nI_leI (by omega) (by omega)]; omega), pn_lit 0]
      exact ⟨M, rfl, fun k hk => h0 k (by omega), FR.rf⟩
    | succ d ih =>
      intro f i M hi hf h0
      obtain ⟨f, rfl⟩ : ∃ z, f = z + 1 := ⟨f - 1, by omega⟩
      have hib : rm_ib (nI i) 36 = true := by rw [pn_ib (by omega), decide_eq_true_eq]; omega
      rw [fX8_takes_L18, pn_lit 36, if_neg (by rw [nI_leI (by omega) (by omega)]; omega), if_pos hib, if_pos hib, rm_lt1, nI_clamp (by omega), pn_lit 1, nI_add]
      obtain ⟨M2, f2, g2, r2⟩ := ih f (i + 1) (rm_sI M 81 i (M.1 85 i)) (by omega) (by omega) (fun k hk => by
        rw [pn_sI_eq, pn_sI_ne _ _ _ (by omega)]
        by_cases e : k = i
        · subst e; rw [pn_upd_eq]
        · rw [pn_upd_ne _ _ e]; exact h0 k (by omega))
      exact ⟨M2, f2, fun k hk => by rw [g2 k hk, pn_sI_ne _ _ _ (by omega)], FR.tr (FR.sI rfl) r2⟩
  obtain ⟨h1, h2, h3, h4, h5⟩ := hD
  unfold fX8_takes
  rw [rm_lt1, h1, rm_lt1, pn_lit 0, show (rm_sI M 79 2 (nI cs)).1 79 10 = nI jn by rw [pn_sI_eq, pn_upd_ne _ _ (by omega)]; exact h2]
  generalize hM0 : rm_sI (rm_sI M 79 2 (nI cs)) 79 3 (nI jn) = M0
  have r0 : FR (fun q => q = 79) M M0 := by rw [← hM0]; exact FR.sIr (FR.sIr FR.rf rfl) rfl
  have z2 : M0.1 79 2 = nI cs := by rw [← hM0]; simp (disch := omega) only [pn_sI_eq, pn_upd_eq, pn_upd_ne]
  have z3 : M0.1 79 3 = nI jn := by rw [← hM0]; simp (disch := omega) only [pn_sI_eq, pn_upd_eq]
  have z0 : M0.1 79 0 = M.1 79 0 := by rw [← hM0]; simp (disch := omega) only [pn_sI_eq, pn_upd_ne]
  obtain ⟨M1, f1, g1, r1⟩ := k18 36 rm_F 0 M0 (by omega) (by omega) (fun k hk => by omega)
  obtain ⟨M2, f2, g2, r2⟩ := k44 20 rm_F 0 M1 (by omega) (by omega) (fun k hk => by omega)
  obtain ⟨M3, f3, g3, r3⟩ := k70 4 rm_F 0 M2 (by omega) (by omega) (fun k hk => by omega)
  rw [f1, f2, f3]
  have r13 : FR (fun q => 81 ≤ q ∧ q ≤ 83) M0 M3 := (r1.mono (fun a ha => by omega)).tr ((r2.mono (fun a ha => by omega)).tr (r3.mono (fun a ha => by omega)))
  have e79 : M3.1 79 = M0.1 79 := (r13.1 79 (by omega)).1
  refine ⟨_, rfl, ⟨?_, fun a b ha hb => ?_⟩, ?_, fun k hk => ?_, fun k hk => ?_, ?_, ?_, FR.sIr ((r0.mono (fun a ha => Or.inl ha)).tr (r13.mono (fun a ha => Or.inr ha))) (Or.inl rfl)⟩
  · rw [pn_sI_eq, pn_upd_ne _ _ (by omega), e79]; exact z2
  · rw [pn_sI_ne _ _ _ (by omega), (r3.1 81 (by omega)).1, (r2.1 81 (by omega)).1, g1 _ (by omega), (r0.1 85 (by omega)).1]; exact h3 a b ha hb
  · rw [pn_sI_eq, pn_upd_ne _ _ (by omega), e79]; exact z3
  · rw [pn_sI_ne _ _ _ (by omega), g3 k hk, (r2.1 86 (by omega)).1, (r1.1 86 (by omega)).1, (r0.1 86 (by omega)).1]; exact h4 k hk
  · rw [pn_sI_ne _ _ _ (by omega), (r3.1 83 (by omega)).1, g2 k hk, (r1.1 87 (by omega)).1, (r0.1 87 (by omega)).1]; exact h5 k hk
  · rw [pn_sI_eq, pn_upd_eq]
  · rw [pn_sI_eq, pn_upd_ne _ _ (by omega), e79]; exact z0
theorem AI.lay {t tl cs jn : Nat} {tx : Nat → Nat} {w : Nat → Nat → Nat} {pr v : Nat → Nat} (hB : TB tl tx) (hW : WD cs jn w pr v) (hg : hgT cs w) (hv : Nat → Nat → Nat) : AI t tl tx cs w pr v 0 hv := by
  have hN : WN cs w := WN.of hW hg.1 hg.2
  have hcs := hN.1
  obtain ⟨h1, h2, h3, h4, h5, h6, h7, h8⟩ := hW
  obtain ⟨v1, v2, v3, v4, v5⟩ := h8
  have e14 := v5 14 (by omega) (by omega)
  have e15 := v5 15 (by omega) (by omega)
  have e16 := v5 16 (by omega) (by omega)
  have e17 := v5 17 (by omega) (by omega)
  have e18 := v5 18 (by omega) (by omega)
  have e19 := v5 19 (by omega) (by omega)
  refine ⟨hB.1, hB.2, hN, h6, h7.1, h7.2, ⟨⟨fun k hk => ?_, v1, v2, v3, v4, by omega, by omega⟩, by omega, by omega, by omega, by omega, ?_, fun q => ?_⟩, fun i hi => by omega⟩
  · rcases (show k < 6 ∨ (6 ≤ k ∧ k < 12) ∨ k = 12 ∨ k = 13 ∨ 14 ≤ k by omega) with h | h | h | h | h
    · have := (v1 k h).1; omega
    · have := (v1 (k - 6) (by omega)).2
      rw [show 6 + (k - 6) = k by omega] at this
      omega
    · subst h; omega
    · subst h
      by_cases c : v 12 = 0
      · have := v3 c; omega
      · have := v4 c; omega
    · rw [v5 k h hk]; omega
  · rw [e17, e16, e14]
    refine ⟨?_, e15.symm⟩
    split <;> rfl
  · have := v4 (by omega); omega
theorem op_lay {t : Nat} {M : rm_M} (h : Inv t M) : ∃ r M1 M2, fX7_lay M = some (r, M1) ∧ fX8_lay M1 = some (r, M2) ∧ Inv (t + 1) M2 := by
  obtain ⟨n, s, tl, tx, cs, jn, w, pr, v, hc, nx, hv, hC, hM, hA⟩ := h
  have c1 := hC.1
  have hn := c1.1
  have hs := c1.2.1
  have hcs := hA.2.2.1.2.1
  have hB : TB tl tx := ⟨hA.1, hA.2.1⟩
  have hCP := hC.2.2.2.2.1
  have hn2 : 47 - n = 14 ∨ 47 - n = 33 := by omega
  unfold fX7_lay
  rcases pX7_layText c1 hC.2.1 hB hCP.2.1 hCP.2.2.2.1 with ⟨M1, f1, no, j1, r1⟩ | ⟨M1, R, hr, hg, f1, C1, fr1⟩
  · have hM1 : MI M1 tl tx cs jn w pr v hc hv := hM.fr2 r1 (fun a ha => by unfold rdS at ha; omega)
    obtain ⟨M2, f2, g2, m2⟩ := pX8_reads hB (M := M1) ⟨hM1.1, hM1.2.1⟩
    refine ⟨-2, M1, M2, ?_, ?_, n, s, tl, tx, cs, jn, w, pr, v, hc, nx, hv, (hC.rd hcs j1 r1).fr hcs m2.2 (fun a ha => by unfold scr; omega), hM1.md m2, hA.up⟩
    · rw [f1, pn_bd, pn_lit 0, if_pos rfl]
    · unfold fX8_lay
      rw [f2, pn_bd]
      cases hr : rdF tl tx 200 0 RD0 with
      | inl p =>
        have hp := rdF_lt 200 0 RD0 p (by omega) WD0 hr
        have b := hB.1
        rw [show rdR (.inl p) = nI p from rfl, if_neg (m4ne (by omega))]
      | inr R =>
        have hW := rdF_ok 200 0 RD0 R (by omega) WD0 hr
        rw [show rdR (.inr R) = (-4 : Int32) from rfl, if_pos rfl]
        rcases pX8_hang hW (g2 R hr) with ⟨q, f3⟩ | ⟨q, f3⟩
        · exact absurd q (no R hr)
        · rw [f3, pn_bd, pn_lit 0, if_pos rfl]
  · have hW := rdF_ok 200 0 RD0 R (by omega) WD0 hr
    have hM1 : ∀ a, 79 ≤ a → M1.1 a = M.1 a := fun a ha => (fr1 a ha).1
    have hX1 : MX M1 tl tx := ⟨by rw [hM1 79 (by omega)]; exact hM.1, fun k hk => by rw [hM1 80 (by omega)]; exact hM.2.1 k hk⟩
    obtain ⟨M2, f2, g2, m2⟩ := pX8_reads hB hX1
    have D2 := g2 R hr
    obtain ⟨M3, f3, t1, t2, t3, t4, t5, t6, r3⟩ := pX8_takes D2
    have X2 := hX1.fr m2
    have hcs2 : R.1 ≤ 6 := by have := hW.1; omega
    refine ⟨nI R.1, M1, M3, ?_, ?_, 47 - n, 113 - s, tl, tx, R.1, R.2.1, R.2.2.1, R.2.2.2.1, R.2.2.2.2, 0, nx, fun _ _ => 0, ?_, ⟨?_, ?_, t1, t2, t3, t4, t5, fun i k hi hk => by omega⟩, AI.lay hB hW hg _⟩
    · have c := C1 (fun _ _ => 0)
      rw [f1, pn_bd, pn_lit 0, if_neg z10, c.1.2.2.1, rm_lt1, if_pos (pn_net hn2), c.2.2.1.1.1]
    · unfold fX8_lay
      rw [f2, pn_bd, hr, show rdR (.inr R) = (-4 : Int32) from rfl, if_pos rfl]
      rcases pX8_hang hW D2 with ⟨q, f4⟩ | ⟨q, f4⟩
      · rw [f4, pn_bd, pn_lit 0, if_neg z10, f3, pn_bv, t1.1]
      · exact absurd hg q
    · exact ((C1 (fun _ _ => 0)).fr hcs2 m2.2 (fun a ha => by unfold scr; omega)).fr hcs2 r3 (fun a ha => by unfold scr; omega)
    · rw [t6]; exact X2.1
    · intro k hk
      rw [(r3.1 80 (by omega)).1]
      exact X2.2 k hk
