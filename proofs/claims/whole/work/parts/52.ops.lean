/-! ===== changes ===== -/
def CI0 (M : rm_M) (n s tl : Nat) (tx : Nat → Nat) (cs jn : Nat) (w : Nat → Nat → Nat) (pr v : Nat → Nat) (hc nx : Nat) (hv : Nat → Nat → Nat) : Prop := PT M n s ∧ TX M tl tx ∧ NI M n cs jn w pr ∧ SV M s v ∧ CP M hc nx hv
theorem CI.z {M : rm_M} {n s tl : Nat} {tx : Nat → Nat} {cs jn : Nat} {w : Nat → Nat → Nat} {pr v : Nat → Nat} {hc nx : Nat} {hv : Nat → Nat → Nat} (h : CI M n s tl tx cs jn w pr v hc nx hv) : CI0 M n s tl tx cs jn w pr v hc nx hv := ⟨h.1, h.2.1, h.2.2.1, h.2.2.2.1, h.2.2.2.2.1⟩
theorem CI.keep {M : rm_M} {n s tl : Nat} {tx : Nat → Nat} {cs jn : Nat} {w : Nat → Nat → Nat} {pr v : Nat → Nat} {hc nx : Nat} {hv : Nat → Nat → Nat} (h : CI M n s tl tx cs jn w pr v hc nx hv) (hcs : cs ≤ 6) : ∃ M2 nx2, fX2_keep s M = some M2 ∧ CI M2 n s tl tx cs jn w pr v (kpN hc) nx2 (kpV hc hv v) ∧ FR (fun q => q < 79) M M2 := by
  obtain ⟨c1, c2, c3, c4, c5, c6⟩ := h
  have hn := c1.1
  have hs := c1.2.1
  obtain ⟨M2, nx2, f2, p2, r2⟩ := pX2_keep c5 c4 hs
  exact ⟨M2, nx2, f2, ⟨c1.fr r2, c2.fr r2 (by omega) (by omega), c3.fr hcs r2 (fun a ha hb => by omega), c4.fr r2 (by omega) (by omega) (by omega), p2, c6.fr r2 (by omega) (by omega) (by omega)⟩, r2.mono (fun a ha => by omega)⟩
theorem CI0.st {M M2 : rm_M} {n s tl : Nat} {tx : Nat → Nat} {cs jn : Nat} {w : Nat → Nat → Nat} {pr v u : Nat → Nat} {hc nx : Nat} {hv : Nat → Nat → Nat} (h : CI0 M n s tl tx cs jn w pr v hc nx hv) (hcs : cs ≤ 6) (hF : FR (fun q => q = s ∨ q = s + 1 ∨ q = s + 2) M M2) (hS : SV M2 s u) : CI0 M2 n s tl tx cs jn w pr u hc nx hv := by
  obtain ⟨c1, c2, c3, c4, c5⟩ := h
  have hn := c1.1
  have hs := c1.2.1
  exact ⟨c1.fr hF, c2.fr hF (by omega) (by omega), c3.fr hcs hF (fun a ha hb => by omega), hS, c5.fr hF (by omega) (fun a ha hb => by omega)⟩
theorem CI.st {M M2 : rm_M} {n s tl : Nat} {tx : Nat → Nat} {cs jn : Nat} {w : Nat → Nat → Nat} {pr v u : Nat → Nat} {hc nx : Nat} {hv : Nat → Nat → Nat} (h : CI M n s tl tx cs jn w pr v hc nx hv) (hcs : cs ≤ 6) (hF : FR (fun q => q = s ∨ q = s + 1 ∨ q = s + 2) M M2) (hS : SV M2 s u) (hu : ∀ c, c < 6 → u c = v c) : CI M2 n s tl tx cs jn w pr u hc nx hv := by
  have hs := h.1.2.1
  obtain ⟨d1, d2, d3, d4, d5⟩ := h.z.st hcs hF hS
  exact ⟨d1, d2, d3, d4, d5, (h.2.2.2.2.2.fr hF (by omega) (by omega) (by omega)).cong hcs hu⟩
theorem CI0.rk {M : rm_M} {n s tl : Nat} {tx : Nat → Nat} {cs jn : Nat} {w : Nat → Nat → Nat} {pr v : Nat → Nat} {hc nx : Nat} {hv : Nat → Nat → Nat} (h : CI0 M n s tl tx cs jn w pr v hc nx hv) (hW : WN cs w) (hv9 : ∀ c, c < 6 → v c ≤ 9) : ∃ M2, fX0_reckon n s M = some M2 ∧ CI M2 n s tl tx cs jn w pr v hc nx hv ∧ FR (fun q => q < 79) M M2 := by
  obtain ⟨c1, c2, c3, c4, c5⟩ := h
  have hn := c1.1
  have hs := c1.2.1
  obtain ⟨M2, f2, g1, g2, g3, r2⟩ := pX0_reckon hW hn hs hv9 c3.1 c3.2.2.2.2.1 c4
  exact ⟨M2, f2, ⟨c1.fr r2, c2.fr r2 (by omega) (by omega), c3.fr hW.2.1 r2 (fun a ha hb => by omega), c4.fr r2 (by omega) (by omega) (by omega), c5.fr r2 (by omega) (fun a ha hb => by omega), ⟨g1, g2, Or.inl g3⟩⟩, r2.mono (fun a ha => by omega)⟩
theorem CI.reg {M : rm_M} {n s tl : Nat} {tx : Nat → Nat} {cs jn : Nat} {w : Nat → Nat → Nat} {pr v : Nat → Nat} {hc nx : Nat} {hv : Nat → Nat → Nat} (h : CI M n s tl tx cs jn w pr v hc nx hv) (hcs : cs ≤ 6) : ∃ M2, fX4_register s M = some M2 ∧ CI M2 n s tl tx cs jn w pr (reg v) hc nx hv ∧ FR (fun q => q < 79) M M2 := by
  have hs := h.1.2.1
  obtain ⟨M2, f2, s2, r2⟩ := pX4_register h.2.2.2.1
  exact ⟨M2, f2, h.st hcs (r2.mono (fun a ha => by omega)) s2 (fun c hc => reg_lo (by omega)), r2.mono (fun a ha => by omega)⟩
theorem MI.keep {M : rm_M} {tl : Nat} {tx : Nat → Nat} {cs jn : Nat} {w : Nat → Nat → Nat} {pr v : Nat → Nat} {hc : Nat} {hv : Nat → Nat → Nat} (h : MI M tl tx cs jn w pr v hc hv) (hh : hc ≤ 6) : ∃ M2, fX8_keeps M = some M2 ∧ MI M2 tl tx cs jn w pr v (kpN hc) (kpV hc hv v) ∧ FR (fun q => 79 ≤ q) M M2 := by
  obtain ⟨m1, m2, m3, m4, m5, m6, m7⟩ := h
  obtain ⟨M2, f2, p2, g2, r2⟩ := pX8_keeps m7 hh m6
  refine ⟨M2, f2, ⟨by rw [g2 0 (by omega)]; exact m1, fun k hk => by rw [(r2.1 80 (by omega)).1]; exact m2 k hk, ⟨by rw [g2 2 (by omega)]; exact m3.1, fun a b ha hb => by rw [(r2.1 81 (by omega)).1]; exact m3.2 a b ha hb⟩, by rw [g2 3 (by omega)]; exact m4, m5.fr r2 (by omega), m6.fr r2 (by omega), p2⟩, r2.mono (fun a ha => by omega)⟩
theorem MI.st {M M2 : rm_M} {tl : Nat} {tx : Nat → Nat} {cs jn : Nat} {w : Nat → Nat → Nat} {pr v u : Nat → Nat} {hc : Nat} {hv : Nat → Nat → Nat} (h : MI M tl tx cs jn w pr v hc hv) (hF : FR (fun q => q = 83) M M2) (hS : MV M2 83 u) : MI M2 tl tx cs jn w pr u hc hv := by
  obtain ⟨m1, m2, m3, m4, m5, m6, m7⟩ := h
  exact ⟨by rw [(hF.1 79 (by omega)).1]; exact m1, fun k hk => by rw [(hF.1 80 (by omega)).1]; exact m2 k hk, m3.fr hF (by omega) (by omega), by rw [(hF.1 79 (by omega)).1]; exact m4, m5.fr hF (by omega), hS, by rw [(hF.1 79 (by omega)).1]; exact m7.1, fun i k hi hk => by rw [(hF.1 84 (by omega)).1]; exact m7.2 i k hi hk⟩
theorem MI.reg {M : rm_M} {tl : Nat} {tx : Nat → Nat} {cs jn : Nat} {w : Nat → Nat → Nat} {pr v : Nat → Nat} {hc : Nat} {hv : Nat → Nat → Nat} (h : MI M tl tx cs jn w pr v hc hv) : ∃ M2, fX8_registers 83 M = some M2 ∧ MI M2 tl tx cs jn w pr (reg v) hc hv ∧ FR (fun q => 79 ≤ q) M M2 := by
  obtain ⟨M2, f2, s2, r2⟩ := pX8_registers kd83 h.2.2.2.2.2.1
  exact ⟨M2, f2, h.st r2 s2, r2.mono (fun a ha => by omega)⟩
/-- the halves together -/
theorem Inv.mk {t : Nat} {M1 M2 : rm_M} {n s tl : Nat} {tx : Nat → Nat} {cs jn : Nat} {w : Nat → Nat → Nat} {pr v : Nat → Nat} {hc nx : Nat} {hv : Nat → Nat → Nat} (hC : CI M1 n s tl tx cs jn w pr v hc nx hv) (hM : MI M2 tl tx cs jn w pr v hc hv) (hA : AI t tl tx cs w pr v hc hv) (r2 : FR (fun q => 79 ≤ q) M1 M2) : Inv t M2 :=
  ⟨n, s, tl, tx, cs, jn, w, pr, v, hc, nx, hv, hC.fr hA.2.2.1.2.1 r2 (fun a ha => by unfold scr; omega), hM, hA⟩
/-! undo -/
theorem op_undo {t : Nat} {M : rm_M} (h : Inv t M) : ∃ r M1 M2, fX7_undo M = some (r, M1) ∧ fX8_undo M1 = some (r, M2) ∧ Inv (t + 1) M2 := by
  have h0 := h.ro FR.rf (fun a (ha : False) => ha.elim)
  obtain ⟨n, s, tl, tx, cs, jn, w, pr, v, hc, nx, hv, hC, hM, hA⟩ := h
  have hn := hC.1.1
  have hs := hC.1.2.1
  have p6 := hC.1.2.2.1
  have p7 := hC.1.2.2.2.1
  have kn := pn_net hn
  have ks := pn_sta (s := s) (by omega)
  have hP := hC.2.2.2.2.1
  have hW := hA.2.2.1
  have h2 := hW.2.1
  have hh := hP.2.2.1
  unfold fX7_undo
  rw [rm_lt1, p7, if_pos ks]
  by_cases c : hc = 0
  · subst c
    rw [pX2_bringBack_no hP, pn_bd, pn_lit 0, if_pos rfl]
    exact ⟨_, M, M, rfl, pX8_undo_no hM.2.2.2.2.2.2, h0⟩
  · obtain ⟨hc, rfl⟩ : ∃ k, hc = k + 1 := ⟨hc - 1, by omega⟩
    obtain ⟨M1, nx1, f1, P1, s1, r1⟩ := pX2_bringBack (s := s) hP hs
    have q1 : PT M1 n s := hC.1.fr r1
    have z1 : CI0 M1 n s tl tx cs jn w pr (hv hc) hc nx1 hv := ⟨q1, hC.2.1.fr r1 (by omega) (by omega), hC.2.2.1.fr h2 r1 (fun a ha hb => by omega), s1, P1⟩
    have hg := hA.2.2.2.2.2.2.2 hc (by omega)
    obtain ⟨M2, f2, z2, r2⟩ := z1.rk hW (fun c hc => (hg.1.2.1 c hc).1)
    have r12 : FR (fun q => q < 79) M M2 := (r1.mono (fun a ha => by omega)).tr r2
    rw [f1, pn_bd, pn_lit 0, if_neg z10, rm_lt1, q1.2.2.1, if_pos kn, rm_lt1, q1.2.2.2.1, if_pos ks, f2, pn_bv, z2.2.2.2.2.1.1]
    have hM2 := hM.fr2 r12 (fun a ha => by omega)
    obtain ⟨M3, f3, P3, V3, g3, r3⟩ := pX8_undo hM2.2.2.2.2.2.2 (by omega)
    refine ⟨_, M2, M3, rfl, f3, Inv.mk z2 ?_ ?_ (r3.mono (fun a ha => by omega))⟩
    · obtain ⟨m1, m2, m3, m4, m5, m6, m7⟩ := hM2
      exact ⟨by rw [g3 0 (by omega)]; exact m1, fun k hk => by rw [(r3.1 80 (by omega)).1]; exact m2 k hk, ⟨by rw [g3 2 (by omega)]; exact m3.1, fun a b ha hb => by rw [(r3.1 81 (by omega)).1]; exact m3.2 a b ha hb⟩, by rw [g3 3 (by omega)]; exact m4, m5.fr r3 (by omega), V3, P3⟩
    · obtain ⟨a1, a2, a3, a4, a5, a6, a7, a8⟩ := hA.up
      exact ⟨a1, a2, a3, a4, a5, a6, a8 hc (by omega), fun i hi => a8 i (by omega)⟩
/-! law -/
theorem isLaw_or (a b : Int32) : (∃ k x, a = nI k ∧ b = nI x ∧ k ≤ 3 ∧ (k = 0 → x = 0) ∧ (k ≠ 0 → 1 ≤ x ∧ x ≤ 9) ∧ ∀ M, fX7_isLaw a b M = some (nI 1, M) ∧ fX8_isLaw a b M = some (nI 1, M)) ∨ ∀ M, fX7_isLaw a b M = some (nI 0, M) ∧ fX8_isLaw a b M = some (nI 0, M) := by
  unfold fX7_isLaw fX8_isLaw
  simp only [pn_lit]
  by_cases c0 : a = nI 0
  · by_cases c1 : b = nI 0
    · refine Or.inl ⟨0, 0, c0, c1, by omega, fun _ => rfl, fun q => absurd rfl q, fun M => ?_⟩
      rw [if_pos c0, if_pos c1, if_pos c0]
      exact ⟨rfl, rfl⟩
    · refine Or.inr (fun M => ?_)
      rw [if_pos c0, if_neg c1, if_pos c0]
      exact ⟨rfl, rfl⟩
  · rcases natOr a (n := 4) (by omega) with ⟨k, hk, rfl⟩ | hno
    · have hk0 : k ≠ 0 := fun q => c0 (by rw [q])
      rcases natOr b (n := 10) (by omega) with ⟨x, hx, rfl⟩ | hno
      · by_cases x0 : x = 0
        · refine Or.inr (fun M => ?_)
          rw [if_neg c0, if_neg c0, pX8_isIn_yes (by omega) (by omega) (by omega), pn_bd, if_neg z10, pX8_isIn_no (Or.inl (by rw [nI_ltI (by omega) (by omega)]; omega)) (by omega), pn_bd, if_pos rfl]
          simp (disch := omega) only [nI_ltI]
          rw [if_neg (by omega), if_neg (by omega), if_pos (by omega)]
          exact ⟨rfl, rfl⟩
        · refine Or.inl ⟨k, x, rfl, rfl, by omega, fun q => absurd q hk0, fun _ => by omega, fun M => ?_⟩
          rw [if_neg c0, if_neg c0, pX8_isIn_yes (by omega) (by omega) (by omega), pn_bd, if_neg z10, pX8_isIn_yes (by omega) (by omega) (by omega), pn_bd, if_neg z10]
          simp (disch := omega) only [nI_ltI]
          rw [if_neg (by omega), if_neg (by omega), if_neg (by omega), if_neg (by omega)]
          exact ⟨rfl, rfl⟩
      · refine Or.inr (fun M => ?_)
        have hno2 : b < nI 1 ∨ nI (9 + 1) ≤ b := by
          rcases hno with q | q
          · left; rw [pn_ltT, nI_toInt (by omega)] at *; omega
          · right; exact q
        have hh : b < nI 1 ∨ nI 9 < b := by
          rcases hno2 with q | q
          · exact Or.inl q
          · right; rw [pn_leT, nI_toInt (by omega)] at q; rw [pn_ltT, nI_toInt (by omega)]; omega
        rw [if_neg c0, if_neg c0, pX8_isIn_yes (by omega) (by omega) (by omega), pn_bd, if_neg z10, pX8_isIn_no hno2 (by omega), pn_bd, if_pos rfl, if_neg (by rw [nI_ltI (by omega) (by omega)]; omega), if_neg (by rw [nI_ltI (by omega) (by omega)]; omega)]
        by_cases c3 : b < nI 1
        · rw [if_pos c3]; exact ⟨rfl, rfl⟩
        · rw [if_neg c3, if_pos (hh.resolve_left c3)]; exact ⟨rfl, rfl⟩
    · refine Or.inr (fun M => ?_)
      have hno2 : a < nI 1 ∨ nI (3 + 1) ≤ a := by
        rcases hno with q | q
        · left; rw [pn_ltT, nI_toInt (by omega)] at *; omega
        · right; exact q
      have hh : a < nI 1 ∨ nI 3 < a := by
        rcases hno2 with q | q
        · exact Or.inl q
        · right; rw [pn_leT, nI_toInt (by omega)] at q; rw [pn_ltT, nI_toInt (by omega)]; omega
      rw [if_neg c0, if_neg c0, pX8_isIn_no hno2 (by omega), pn_bd, if_pos rfl]
      by_cases c3 : a < nI 1
      · rw [if_pos c3]; exact ⟨rfl, rfl⟩
      · rw [if_neg c3, if_pos (hh.resolve_left c3)]; exact ⟨rfl, rfl⟩
theorem WV.law {cs k x : Nat} {v : Nat → Nat} (h : WV cs v) (hk : k ≤ 3) (h0 : k = 0 → x = 0) (h1 : k ≠ 0 → 1 ≤ x ∧ x ≤ 9) : WV cs (vu (vu v 12 k) 13 x) := by
  obtain ⟨w1, w2, w3, w4, w5, w6, w7⟩ := h
  have e12 : vu (vu v 12 k) 13 x 12 = k := by rw [vu_ne _ _ (by omega), vu_eq]
  have e13 : vu (vu v 12 k) 13 x 13 = x := by rw [vu_eq]
  have eo : ∀ j, j ≠ 12 → j ≠ 13 → vu (vu v 12 k) 13 x j = v j := fun j a b => by rw [vu_ne _ _ b, vu_ne _ _ a]
  refine ⟨fun j hj => ?_, fun j hj => ?_, ?_, ?_, ?_, ?_, ?_⟩
  · by_cases c : j = 12
    · subst c; rw [e12]; omega
    · by_cases c2 : j = 13
      · subst c2; rw [e13]; omega
      · rw [eo j c c2]; exact w1 j hj
  · rw [eo _ (by omega) (by omega), eo _ (by omega) (by omega)]; exact w2 j hj
  · rw [e12]; exact hk
  · rw [e12, e13]; exact h0
  · rw [e12, e13]; exact h1
  · rw [eo _ (by omega) (by omega)]; exact w6
  · rw [eo _ (by omega) (by omega)]; exact w7
theorem op_law {t : Nat} {M : rm_M} (h : Inv t M) (a b : Int32) : ∃ r M1 M2, fX7_law a b M = some (r, M1) ∧ fX8_law a b M1 = some (r, M2) ∧ Inv (t + 1) M2 := by
  have h0 := h.ro FR.rf (fun a (ha : False) => ha.elim)
  obtain ⟨n, s, tl, tx, cs, jn, w, pr, v, hc, nx, hv, hC, hM, hA⟩ := h
  have hn := hC.1.1
  have hs := hC.1.2.1
  have p7 := hC.1.2.2.2.1
  have ks := pn_sta (s := s) (by omega)
  have hP := hC.2.2.2.2.1
  have hW := hA.2.2.1
  have h2 := hW.2.1
  have hh := hP.2.2.1
  have hG := hA.2.2.2.2.2.2.1
  have w3 := hG.1.2.2.1
  have w4 := hG.1.2.2.2.1
  have w5 := hG.1.2.2.2.2.1
  have e2 : M.1 s 2 = nI (v 12) := hC.2.2.2.1.2.2 2 (by omega) (by omega)
  have e3 : M.1 s 3 = nI (v 13) := hC.2.2.2.1.2.2 3 (by omega) (by omega)
  have b13 : v 13 ≤ 9 := by
    by_cases c : v 12 = 0
    · have := w4 c; omega
    · exact (w5 c).2
  unfold fX7_law fX8_law
  rcases isLaw_or a b with ⟨k, x, rfl, rfl, k3, k0, k1, hl⟩ | hl
  · have x9 : x ≤ 9 := by
      by_cases c : k = 0
      · have := k0 c; omega
      · exact (k1 c).2
    rw [(hl M).1, pn_bd, pn_lit 0, if_neg z10, rm_lt1, p7, if_pos ks, e2]
    have m8 : ∀ M', MI M' tl tx cs jn w pr v hc hv → (rm_bd (fX8_isLaw (nI k) (nI x) M') (fun (r2 : Int32) (M3 : rm_M) => (if r2 = nI 0 then some ((-1 : Int32), M3) else (if rm_ib (12 : Int32) 20 = true then (if rm_ib (13 : Int32) 20 = true then (rm_lt1 (((10 : Int32) * (M3.1 83 ((12 : Int32)).toNatClampNeg)) + (M3.1 83 ((13 : Int32)).toNatClampNeg)) (fun (v7 : Int32) => (if v7 = (((10 : Int32) * nI k) + nI x) then some ((-2 : Int32), M3) else (rm_bv (fX8_keeps M3) (fun (M10 : rm_M) => (if rm_ib (12 : Int32) 20 = true then (rm_lt1 (rm_sI M10 83 ((12 : Int32)).toNatClampNeg (nI k)) (fun (M12 : rm_M) => (if rm_ib (13 : Int32) 20 = true then (rm_lt1 (rm_sI M12 83 ((13 : Int32)).toNatClampNeg (nI x)) (fun (M14 : rm_M) => (rm_bv (fX8_registers 83 M14) (fun (M16 : rm_M) => some (v7, M16))))) else none))) else none)))))) else none) else none)))) = (if 10 * v 12 + v 13 = 10 * k + x then some (-nI 2, M') else (rm_bv (fX8_keeps M') (fun (M10 : rm_M) => rm_bv (fX8_registers 83 (rm_sI (rm_sI M10 83 12 (nI k)) 83 13 (nI x))) (fun (M16 : rm_M) => some (nI (10 * v 12 + v 13), M16))))) := by
      intro M' hM'
      rw [(hl M').2, pn_bd, if_neg z10]
      have v12 : M'.1 83 12 = nI (v 12) := hM'.2.2.2.2.2.1 12 (by omega)
      have v13 : M'.1 83 13 = nI (v 13) := hM'.2.2.2.2.2.1 13 (by omega)
      simp (disch := omega) only [pn_lit, rm_lt1, pn_ib, nI_clamp, v12, v13, pk_mul, nI_add, nI_eq]
      simp only [show decide (12 < 20) = true from rfl, show decide (13 < 20) = true from rfl, ↓reduceIte]
    by_cases c : v 12 = k ∧ v 13 = x
    · rw [if_pos (by rw [c.1]), rm_lt1, if_pos ks, e3, if_pos (by rw [c.2])]
      refine ⟨_, M, M, rfl, ?_, h0⟩
      rw [m8 M hM, if_pos (by omega)]
      rfl
    · have e10 : (10 : Int32) * nI (v 12) + nI (v 13) = nI (10 * v 12 + v 13) := by rw [pn_lit, pk_mul, nI_add]
      have go : ∃ r M1 M2, fX7_law_L35 (nI k) (nI x) M = some (r, M1) ∧ (rm_bd (fX8_isLaw (nI k) (nI x) M1) (fun (r2 : Int32) (M3 : rm_M) => (if r2 = nI 0 then some ((-1 : Int32), M3) else (if rm_ib (12 : Int32) 20 = true then (if rm_ib (13 : Int32) 20 = true then (rm_lt1 (((10 : Int32) * (M3.1 83 ((12 : Int32)).toNatClampNeg)) + (M3.1 83 ((13 : Int32)).toNatClampNeg)) (fun (v7 : Int32) => (if v7 = (((10 : Int32) * nI k) + nI x) then some ((-2 : Int32), M3) else (rm_bv (fX8_keeps M3) (fun (M10 : rm_M) => (if rm_ib (12 : Int32) 20 = true then (rm_lt1 (rm_sI M10 83 ((12 : Int32)).toNatClampNeg (nI k)) (fun (M12 : rm_M) => (if rm_ib (13 : Int32) 20 = true then (rm_lt1 (rm_sI M12 83 ((13 : Int32)).toNatClampNeg (nI x)) (fun (M14 : rm_M) => (rm_bv (fX8_registers 83 M14) (fun (M16 : rm_M) => some (v7, M16))))) else none))) else none)))))) else none) else none)))) = some (r, M2) ∧ Inv (t + 1) M2 := by
        obtain ⟨M1, nx1, f1, z1, r1⟩ := hC.keep h2
        have hs1 := (z1.2.2.2.1.put (j := 2) k (by omega) (by omega)).put (j := 3) x (by omega) (by omega)
        have z2 := z1.st (u := vu (vu v 12 k) 13 x) h2 (FR.sIr (FR.sIr FR.rf (Or.inl rfl)) (Or.inl rfl)) hs1 (fun c hc => by rw [vu_ne _ _ (by omega), vu_ne _ _ (by omega)])
        obtain ⟨M3, f3, z3, r3⟩ := z2.reg h2
        have r13 : FR (fun q => q < 79) M M3 := r1.tr (FR.tr (FR.sIr (FR.sIr FR.rf (by omega)) (by omega)) r3)
        have q1 := z1.1.2.2.2.1
        have q2 : (rm_sI M1 s 2 (nI k)).2.2 7 = s := q1
        have q3 := z2.1.2.2.2.1
        have f7 : fX7_law_L35 (nI k) (nI x) M = some (nI (10 * v 12 + v 13), M3) := by
          unfold fX7_law_L35
          rw [rm_lt1, p7, if_pos ks, rm_lt1, if_pos ks, rm_lt1, e2, e3, e10, rm_lt1, if_pos ks, f1, pn_bv, rm_lt1, q1, if_pos ks, rm_lt1, rm_lt1, q2, if_pos ks, rm_lt1, rm_lt1, q3, if_pos ks, f3, pn_bv]
        have hM3 := hM.fr2 r13 (fun a ha => by omega)
        obtain ⟨M4, f4, y4, r4⟩ := hM3.keep hh
        have y5 := y4.st (u := vu (vu v 12 k) 13 x) (FR.sIr (FR.sIr FR.rf rfl) rfl) ((y4.2.2.2.2.2.1.put (j := 12) k).put (j := 13) x)
        obtain ⟨M6, f6, y6, r6⟩ := y5.reg
        refine ⟨_, M3, M6, f7, ?_, Inv.mk z3 y6 (hA.kp hh ?_) (r4.tr (FR.tr (FR.sIr (FR.sIr FR.rf (by omega)) (by omega)) r6))⟩
        · rw [m8 M3 hM3, if_neg (by omega), f4, pn_bv, f6, pn_bv]
        · refine GV.reg (hG.1.law k3 k0 k1) h2 ?_ ?_
          · rw [vu_ne _ _ (by omega), vu_ne _ _ (by omega)]; have := hG.2.2.2.1; omega
          · rw [vu_ne _ _ (by omega), vu_ne _ _ (by omega)]; have := hG.2.2.2.2.1; omega
      by_cases c1 : v 12 = k
      · rw [if_pos (by rw [c1]), rm_lt1, if_pos ks, e3, if_neg (by rw [nI_eq (by omega) (by omega)]; omega)]
        exact go
      · rw [if_neg (by rw [nI_eq (by omega) (by omega)]; exact c1)]
        exact go
  · rw [(hl M).1, pn_bd, pn_lit 0, if_pos rfl]
    refine ⟨_, M, M, rfl, ?_, h0⟩
    rw [(hl M).2, pn_bd, if_pos rfl]
