/-! set -/
theorem WV.stay {cs k x : Nat} {v : Nat → Nat} (h : WV cs v) (hk : k < 6) (hx : x ≤ 9) : WV cs (vu v k x) := by
  obtain ⟨w1, w2, w3, w4, w5, w6, w7⟩ := h
  refine ⟨fun j hj => ?_, fun j hj => ?_, ?_, ?_, ?_, ?_, ?_⟩
  · by_cases e : j = k
    · subst e; rw [vu_eq]; omega
    · rw [vu_ne _ _ e]; exact w1 j hj
  · rw [vu_ne _ _ (show 6 + j ≠ k by omega)]
    by_cases e : j = k
    · subst e; rw [vu_eq]; exact ⟨hx, (w2 j hj).2⟩
    · rw [vu_ne _ _ e]; exact w2 j hj
  · rw [vu_ne _ _ (by omega)]; exact w3
  · rw [vu_ne _ _ (by omega), vu_ne _ _ (by omega)]; exact w4
  · rw [vu_ne _ _ (by omega), vu_ne _ _ (by omega)]; exact w5
  · rw [vu_ne _ _ (by omega)]; exact w6
  · rw [vu_ne _ _ (by omega)]; exact w7
theorem WV.area {cs k x : Nat} {v : Nat → Nat} (h : WV cs v) (hk : k < 6) (hx : x ≤ 5) : WV cs (vu v (6 + k) x) := by
  obtain ⟨w1, w2, w3, w4, w5, w6, w7⟩ := h
  refine ⟨fun j hj => ?_, fun j hj => ?_, ?_, ?_, ?_, ?_, ?_⟩
  · by_cases e : j = 6 + k
    · subst e; rw [vu_eq]; omega
    · rw [vu_ne _ _ e]; exact w1 j hj
  · rw [vu_ne _ _ (show j ≠ 6 + k by omega)]
    by_cases e : j = k
    · subst e; rw [vu_eq]; exact ⟨(w2 j hj).1, hx⟩
    · rw [vu_ne _ _ (by omega)]; exact w2 j hj
  · rw [vu_ne _ _ (by omega)]; exact w3
  · rw [vu_ne _ _ (by omega), vu_ne _ _ (by omega)]; exact w4
  · rw [vu_ne _ _ (by omega), vu_ne _ _ (by omega)]; exact w5
  · rw [vu_ne _ _ (by omega)]; exact w6
  · rw [vu_ne _ _ (by omega)]; exact w7
theorem pX7_set_L62 {t : Nat} {M : rm_M} {n s tl : Nat} {tx : Nat → Nat} {cs jn : Nat} {w : Nat → Nat → Nat} {pr v : Nat → Nat} {hc nx : Nat} {hv : Nat → Nat → Nat} (hC : CI M n s tl tx cs jn w pr v hc nx hv) (hA : AI t tl tx cs w pr v hc hv) {k j x : Nat} (hk : k < cs) (hj : j < 2) (hx : x ≤ (if j = 0 then 9 else 5)) (hne : v (6 * j + k) ≠ x) :
    ∃ M2 nx2, fX7_set_L62 (nI k) (nI j) (nI x) (nI (v (6 * j + k))) M = some (nI (v (6 * j + k)), M2) ∧ CI M2 n s tl tx cs jn w pr (reg (vu v (6 * j + k) x)) (kpN hc) nx2 (kpV hc hv v) ∧ FR (fun q => q < 79) M M2 ∧ WV cs (vu v (6 * j + k) x) := by
  have hn := hC.1.1
  have hs := hC.1.2.1
  have p7 := hC.1.2.2.2.1
  have kn := pn_net hn
  have ks := pn_sta (s := s) (by omega)
  have hW := hA.2.2.1
  have h2 := hW.2.1
  have hG := hA.2.2.2.2.2.2.1
  obtain ⟨M1, nx1, f1, z1, r1⟩ := hC.keep h2
  have q1 := z1.1.2.2.2.1
  have bv : v (6 * j + k) < 2 ^ 31 := hG.1.1 _ (by omega)
  have bx : x < 2 ^ 31 := by split at hx <;> omega
  unfold fX7_set_L62
  rw [if_neg (by rw [nI_eq bv bx]; exact hne), rm_lt1, p7, if_pos ks, f1, pn_bv, pn_lit 0]
  by_cases j0 : j = 0
  · subst j0
    rw [if_pos rfl] at hx
    rw [Nat.mul_zero, Nat.zero_add]
    have wv := hG.1.stay (show k < 6 by omega) hx
    have z2 := z1.z.st (u := vu v k x) h2 (FR.sIr FR.rf (Or.inr (Or.inl rfl))) (z1.2.2.2.1.stay x (show k < 6 by omega))
    obtain ⟨M3, f3, z3, r3⟩ := z2.rk hW (fun c hc => (wv.2.1 c hc).1)
    obtain ⟨M4, f4, z4, r4⟩ := z3.reg h2
    have q2 := z2.1.2.2
    have q3 := z3.1.2.2.2.1
    have q26 := z2.1.2.2.1
    have q27 := z2.1.2.2.2.1
    refine ⟨M4, nx1, ?_, z4, r1.tr (FR.tr (FR.sIr FR.rf (by omega)) (r3.tr r4)), wv⟩
    rw [if_pos rfl, rm_lt1, q1, if_pos ks, if_pos (by rw [pn_ib (by omega), decide_eq_true_eq]; omega), nI_clamp (by omega), rm_lt1, rm_lt1, q26, if_pos kn, rm_lt1, q27, if_pos ks, f3, pn_bv]
    unfold fX7_set_L126
    rw [rm_lt1, q3, if_pos ks, f4, pn_bv]
  · obtain rfl : j = 1 := by omega
    rw [if_neg (by omega)] at hx
    rw [Nat.mul_one]
    have wv := hG.1.area (show k < 6 by omega) hx
    have z2 := z1.st (u := vu v (6 + k) x) h2 (FR.sIr FR.rf (Or.inr (Or.inr rfl))) (z1.2.2.2.1.area x (show k < 6 by omega)) (fun c hc => by rw [vu_ne _ _ (by omega)])
    obtain ⟨M4, f4, z4, r4⟩ := z2.reg h2
    have q27 := z2.1.2.2.2.1
    refine ⟨M4, nx1, ?_, z4, r1.tr (FR.tr (FR.sIr FR.rf (by omega)) r4), wv⟩
    rw [if_neg z10, rm_lt1, q1, if_pos ks, if_pos (by rw [pn_ib (by omega), decide_eq_true_eq]; omega), nI_clamp (by omega), rm_lt1]
    unfold fX7_set_L126
    rw [rm_lt1, q27, if_pos ks, f4, pn_bv]
theorem pX8_set_L29 {t : Nat} {M : rm_M} {tl : Nat} {tx : Nat → Nat} {cs jn : Nat} {w : Nat → Nat → Nat} {pr v : Nat → Nat} {hc : Nat} {hv : Nat → Nat → Nat} (hM : MI M tl tx cs jn w pr v hc hv) (hA : AI t tl tx cs w pr v hc hv) (hh : hc ≤ 6) {k j x : Nat} (hk : k < cs) (hj : j < 2) {lim : Nat} (hl : lim < 100) (hx : x ≤ lim) :
    (v (6 * j + k) = x → fX8_set_L29 (nI k) (nI j) (nI x) (nI 0) (nI lim) M = some (-nI 2, M)) ∧ (v (6 * j + k) ≠ x → ∃ M2, fX8_set_L29 (nI k) (nI j) (nI x) (nI 0) (nI lim) M = some (nI (v (6 * j + k)), M2) ∧ MI M2 tl tx cs jn w pr (reg (vu v (6 * j + k) x)) (kpN hc) (kpV hc hv v) ∧ FR (fun q => 79 ≤ q) M M2) := by
  have hW := hA.2.2.1
  have h2 := hW.2.1
  have hG := hA.2.2.2.2.2.2.1
  have bv : v (6 * j + k) < 2 ^ 31 := hG.1.1 _ (by omega)
  have hib : rm_ib (nI 6 * nI j + nI k) 20 = true := by rw [pk_mul, nI_add, pn_ib (by omega), decide_eq_true_eq]; omega
  have hcl : (nI 6 * nI j + nI k).toNatClampNeg = 6 * j + k := by rw [pk_mul, nI_add, nI_clamp (by omega)]
  unfold fX8_set_L29
  rw [pX8_isIn_yes (by omega) hx (by omega), pn_bd, pn_lit 0, if_neg z10, pn_lit 6, if_pos hib, rm_lt1, hcl, hM.2.2.2.2.2.1 _ (by omega)]
  constructor
  · intro e
    rw [if_pos (by rw [e])]
    rfl
  · intro e
    obtain ⟨M1, f1, y1, r1⟩ := hM.keep hh
    have y2 := y1.st (u := vu v (6 * j + k) x) (FR.sIr FR.rf rfl) (y1.2.2.2.2.2.1.put (j := 6 * j + k) x)
    obtain ⟨M3, f3, y3, r3⟩ := y2.reg
    refine ⟨M3, ?_, y3, r1.tr (FR.tr (FR.sIr FR.rf (by omega)) r3)⟩
    rw [if_neg (by rw [nI_eq bv (by omega)]; exact e), f1, pn_bv, if_pos hib, rm_lt1, f3, pn_bv]
theorem op_set {t : Nat} {M : rm_M} (h : Inv t M) (a b c : Int32) : ∃ r M1 M2, fX7_set a b c M = some (r, M1) ∧ fX8_set a b c M1 = some (r, M2) ∧ Inv (t + 1) M2 := by
  have h0 := h.ro FR.rf (fun a (ha : False) => ha.elim)
  obtain ⟨n, s, tl, tx, cs, jn, w, pr, v, hc, nx, hv, hC, hM, hA⟩ := h
  have hn := hC.1.1
  have hs := hC.1.2.1
  have p6 := hC.1.2.2.1
  have p7 := hC.1.2.2.2.1
  have ks := pn_sta (s := s) (by omega)
  have hW := hA.2.2.1
  have h1 := hW.1
  have h2 := hW.2.1
  have hh := hC.2.2.2.2.1.2.2.1
  have hG := hA.2.2.2.2.2.2.1
  have hc0 := hC.2.2.1.1.1
  have hm0 := hM.2.2.1.1
  unfold fX7_set fX8_set
  rcases natOr a (n := cs) (by omega) with ⟨k, hk, rfl⟩ | hno
  · rw [pX7_isCell_yes p6 hn hc0 h2 hk, pn_bd, pn_lit 0, pn_lit 1, pn_lit 9, pn_lit 5, if_neg z10]
    rcases natOr b (n := 2) (by omega) with ⟨j, hj, rfl⟩ | hno
    · rw [if_neg (by rw [nI_ltI (by omega) (by omega)]; omega), if_neg (by rw [nI_ltI (by omega) (by omega)]; omega)]
      have go : ∀ lim, lim = (if j = 0 then 9 else 5) → ∃ r M1 M2, (if c < nI 0 then some ((-nI 1 : Int32), M) else fX7_set_L32 (nI k) (nI j) c (nI lim) M) = some (r, M1) ∧ fX8_set_L29 (nI k) (nI j) c (nI 0) (nI lim) M1 = some (r, M2) ∧ Inv (t + 1) M2 ∧ M1.1 79 2 = nI cs := by
        intro lim hlim
        have hl : lim < 100 := by rw [hlim]; split <;> omega
        rcases natOr c (n := lim + 1) (by omega) with ⟨x, hx, rfl⟩ | hno
        · rw [if_neg (by rw [nI_ltI (by omega) (by omega)]; omega)]
          have e32 : fX7_set_L32 (nI k) (nI j) (nI x) (nI lim) M = fX7_set_L62 (nI k) (nI j) (nI x) (nI (v (6 * j + k))) M := by
            unfold fX7_set_L32
            rw [if_pos (by rw [nI_leI (by omega) (by omega)]; omega), pn_lit 0]
            by_cases j0 : j = 0
            · rw [if_pos (by rw [j0]), rm_lt1, p7, if_pos ks, if_pos (by rw [pn_ib (by omega), decide_eq_true_eq]; omega), nI_clamp (by omega), hC.2.2.2.1.1 k (by omega), j0, Nat.mul_zero, Nat.zero_add]
            · rw [if_neg (by rw [nI_eq (by omega) (by omega)]; exact j0), rm_lt1, p7, if_pos ks, if_pos (by rw [pn_ib (by omega), decide_eq_true_eq]; omega), nI_clamp (by omega), hC.2.2.2.1.2.1 k (by omega), show j = 1 by omega, Nat.mul_one]
          rw [e32]
          by_cases e : v (6 * j + k) = x
          · refine ⟨-nI 2, M, M, ?_, (pX8_set_L29 hM hA hh hk hj hl (by omega)).1 e, h0, hm0⟩
            unfold fX7_set_L62
            rw [if_pos (by rw [e])]
            rfl
          · obtain ⟨M1, nx1, f1, z1, r1, wv⟩ := pX7_set_L62 hC hA hk hj (by omega) e
            obtain ⟨M2, f2, y2, r2⟩ := (pX8_set_L29 (hM.fr2 r1 (fun a ha => by omega)) hA hh hk hj hl (by omega)).2 e
            refine ⟨_, M1, M2, f1, f2, Inv.mk z1 y2 (hA.kp hh ?_) r2, by rw [(r1.1 79 (by omega)).1]; exact hm0⟩
            refine GV.reg wv h2 ?_ ?_
            · rw [vu_ne _ _ (by omega)]; have := hG.2.2.2.1; omega
            · rw [vu_ne _ _ (by omega)]; have := hG.2.2.2.2.1; omega
        · refine ⟨-nI 1, M, M, ?_, ?_, h0, hm0⟩
          · by_cases c0 : c < nI 0
            · rw [if_pos c0]
            · rw [if_neg c0]
              unfold fX7_set_L32
              have := hno.resolve_left c0
              rw [pn_leT, nI_toInt (by omega)] at this
              rw [if_neg (by rw [pn_leT, nI_toInt (by omega)]; omega)]
              rfl
          · unfold fX8_set_L29
            rw [pX8_isIn_no hno (by omega), pn_bd, pn_lit 0, if_pos rfl]
            rfl
      have mid : ∀ M1, (rm_bd (fX8_isCell (nI k) M1) (fun (r15 : Int32) (M16 : rm_M) => (if r15 = nI 0 then some ((-nI 1 : Int32), M16) else (rm_bd (fX8_isIn (nI j) (nI 0) (nI 1) M16) (fun (r19 : Int32) (M20 : rm_M) => (if r19 = nI 0 then some ((-nI 1 : Int32), M20) else (if nI j = nI 0 then (fX8_set_L29 (nI k) (nI j) c (nI 0) (nI 9) M20) else (fX8_set_L29 (nI k) (nI j) c (nI 0) (nI 5) M20)))))))) = rm_bd (fX8_isCell (nI k) M1) (fun r15 M16 => if r15 = nI 0 then some ((-nI 1 : Int32), M16) else fX8_set_L29 (nI k) (nI j) c (nI 0) (nI (if j = 0 then 9 else 5)) M16) := by
        intro M1
        congr 1
        funext r15 M16
        rw [pX8_isIn_yes (by omega) (by omega) (by omega), pn_bd, if_neg z10]
        by_cases j0 : j = 0
        · rw [if_pos (show nI j = nI 0 by rw [j0]), if_pos j0]
        · rw [if_neg (show ¬ nI j = nI 0 by rw [nI_eq (by omega) (by omega)]; exact j0), if_neg j0]
      obtain ⟨r, M1, M2, g1, g2, g3, g4⟩ := go _ rfl
      refine ⟨r, M1, M2, ?_, ?_, g3⟩
      · rw [← g1]
        by_cases j0 : j = 0
        · rw [if_pos (show nI j = nI 0 by rw [j0]), if_pos j0]
        · rw [if_neg (show ¬ nI j = nI 0 by rw [nI_eq (by omega) (by omega)]; exact j0), if_neg j0]
      · rw [mid M1]
        have hcell : ∀ M1, M1.1 79 2 = nI cs → fX8_isCell (nI k) M1 = some (nI 1, M1) := fun M1 q => pX8_isCell_yes q h2 hk
        rw [hcell M1 g4, pn_bd, if_neg z10]
        exact g2
    · have hb : b < nI 0 ∨ nI 1 < b := by
        rcases hno with q | q
        · exact Or.inl q
        · right; rw [pn_leT, nI_toInt (by omega)] at q; rw [pn_ltT, nI_toInt (by omega)]; omega
      refine ⟨-nI 1, M, M, ?_, ?_, h0⟩
      · by_cases c0 : b < nI 0
        · rw [if_pos c0]
        · rw [if_neg c0, if_pos (hb.resolve_left c0)]
      · rw [pX8_isCell_yes hm0 h2 hk, pn_bd, if_neg z10, pX8_isIn_no hno (by omega), pn_bd, if_pos rfl]
  · rw [pX7_isCell_no p6 hn hc0 hno, pn_bd, pn_lit 0, if_pos rfl]
    refine ⟨_, _, M, rfl, ?_, h0⟩
    rw [pX8_isCell_no hm0 h2 (by omega) hno, pn_bd, if_pos rfl]
/-! tick -/
theorem pX4_canGo {M : rm_M} {s n cs c : Nat} {w : Nat → Nat → Nat} {v : Nat → Nat} (hS : SV M s v) (hV : WV cs v) (hcs : cs ≤ 6) (hN : ∀ c, c < cs → M.1 (n + 15) c = nI (nr cs w c)) (hc : c < cs) : (cgo w v c → fX4_canGo s n (nI c) M = some (nI 1, M)) ∧ (¬ cgo w v c → fX4_canGo s n (nI c) M = some (nI 0, M)) := by
  have e4 : M.1 s 4 = nI (v 14) := hS.2.2 4 (by omega) (by omega)
  have b14 := hV.2.2.2.2.2.1
  have hvc := (hV.2.1 c (by omega)).1
  have hnr : nr cs w (v 14) < 2 ^ 31 := Nat.lt_of_lt_of_le (nr_lt w (v 14)) (Nat.pow_le_pow_right (by decide) (by omega))
  unfold fX4_canGo cgo
  rw [e4]
  simp (disch := omega) only [nI_eq, pn_ib, nI_clamp, hS.1 c (by omega), hN (v 14) b14, pn_lit, nI_leI, pX7_holds hnr (show c < 31 by omega) M, pn_bd, decide_eq_true_eq]
  by_cases e : c = v 14
  · rw [if_pos e, if_pos (by omega)]
    by_cases e2 : v c ≤ 0
    · rw [if_pos e2]
      exact ⟨fun q => by omega, fun _ => rfl⟩
    · rw [if_neg e2]
      exact ⟨fun _ => rfl, fun q => by omega⟩
  · rw [if_neg e, if_pos (by omega)]
    by_cases e2 : 0 < w (v 14) c
    · rw [if_pos (nr_bit.mpr ⟨hc, e2⟩)]
      exact ⟨fun _ => rfl, fun q => absurd (Or.inr ⟨e, e2⟩) q⟩
    · rw [if_neg (fun q => e2 (nr_bit.mp q).2)]
      refine ⟨fun q => ?_, fun _ => rfl⟩
      rcases q with q | q
      · exact absurd q.1 e
      · exact absurd q.2 e2
theorem op_tick {t : Nat} {M : rm_M} (h : Inv t M) (ht : t < 1000) (a : Int32) : ∃ r M1 M2, fX7_tick a M = some (r, M1) ∧ fX8_tick a M1 = some (r, M2) ∧ Inv (t + 1) M2 := by
  have h0 := h.ro FR.rf (fun a (ha : False) => ha.elim)
  obtain ⟨n, s, tl, tx, cs, jn, w, pr, v, hc, nx, hv, hC, hM, hA⟩ := h
  have hn := hC.1.1
  have hs := hC.1.2.1
  have p6 := hC.1.2.2.1
  have p7 := hC.1.2.2.2.1
  have kn := pn_net hn
  have ks := pn_sta (s := s) (by omega)
  have hW := hA.2.2.1
  have h1 := hW.1
  have h2 := hW.2.1
  have hh := hC.2.2.2.2.1.2.2.1
  have hG := hA.2.2.2.2.2.2.1
  have hc0 := hC.2.2.1.1.1
  have hm0 := hM.2.2.1.1
  have b14 := hG.1.2.2.2.2.2.1
  unfold fX7_tick fX8_tick
  rcases natOr a (n := cs) (by omega) with ⟨k, hk, rfl⟩ | hno
  · have cg := pX4_canGo (n := n) hC.2.2.2.1 hG.1 h2 hC.2.2.1.2.2.1 hk
    have hvk := (hG.1.2.1 k (by omega)).1
    have hwk := hW.lt (v 14) k
    rw [pX7_isCell_yes p6 hn hc0 h2 hk, pn_bd, pn_lit 0, pn_lit 6, pn_lit 14, if_neg z10, rm_lt1, p7, if_pos ks, rm_lt1, p6, if_pos kn]
    have m8 : ∀ M', MI M' tl tx cs jn w pr v hc hv → ∃ y, (rm_bd (fX8_isCell (nI k) M') (fun (r7 : Int32) (M8 : rm_M) => (if r7 = nI 0 then some ((-1 : Int32), M8) else (if rm_ib (nI 14) 20 = true then (rm_lt1 (M8.1 83 (nI 14).toNatClampNeg) (fun (v11 : Int32) => (if nI k = v11 then (if rm_ib (nI k) 20 = true then (if (M8.1 83 (nI k).toNatClampNeg) = nI 0 then some ((-2 : Int32), M8) else (fX8_tick_L52 (nI k) M8)) else none) else (if rm_ib ((nI 6 * v11) + nI k) 36 = true then (if (M8.1 81 ((nI 6 * v11) + nI k).toNatClampNeg) = nI 0 then some ((-2 : Int32), M8) else (fX8_tick_L52 (nI k) M8)) else none)))) else none)))) = y ∧ (cgo w v k → y = fX8_tick_L52 (nI k) M') ∧ (¬ cgo w v k → y = some (-nI 2, M')) := by
      intro M' hM'
      have v14 : M'.1 83 14 = nI (v 14) := hM'.2.2.2.2.2.1 14 (by omega)
      refine ⟨_, rfl, ?_⟩
      rw [pX8_isCell_yes hM'.2.2.1.1 h2 hk, pn_bd, if_neg z10]
      simp (disch := omega) only [pn_ib, nI_clamp, rm_lt1, v14, nI_eq, pk_mul, nI_add, hM'.2.2.2.2.2.1 k (by omega), hM'.2.2.1.2 (v 14) k (by omega) (by omega), decide_eq_true_eq]
      rw [if_pos (by omega)]
      unfold cgo
      by_cases e : k = v 14
      · rw [if_pos e, if_pos (by omega)]
        by_cases e2 : v k = 0
        · rw [if_pos e2]; exact ⟨fun q => by omega, fun _ => rfl⟩
        · rw [if_neg e2]; exact ⟨fun _ => rfl, fun q => by omega⟩
      · rw [if_neg e, if_pos (by omega)]
        by_cases e2 : w (v 14) k = 0
        · rw [if_pos e2]; exact ⟨fun q => by omega, fun _ => rfl⟩
        · rw [if_neg e2]; exact ⟨fun _ => rfl, fun q => by omega⟩
    by_cases g : cgo w v k
    · rw [cg.1 g, pn_bd, if_neg z10, rm_lt1, p7, if_pos ks]
      obtain ⟨M1, nx1, f1, z1, r1⟩ := hC.keep h2
      have hds : ∀ a b, a < cs → b < cs → fw w cs a b < 2 ^ 31 := fun a b ha hb => by have := hW.2.2.2.2.2 a b ha hb; omega
      have g16 := hG.2.1
      have g17 := hG.2.2.1
      obtain ⟨M2, f2, s2, r2⟩ := pX4_go (n := n) z1.2.2.2.1 hG.1 h2 hk (by omega) (by omega) (by omega) (by omega) z1.2.2.1.2.2.2.1 hds
      have z2 := z1.st h2 (r2.mono (fun a ha => Or.inl ha)) s2 (fun c hc => by
        unfold goV
        split
        · rw [reg_lo (by omega), vu_ne _ _ (by omega), mv1_lo (by omega)]
        · rw [mv1_lo (by omega)])
      have r12 : FR (fun q => q < 79) M M2 := r1.tr (r2.mono (fun a ha => by omega))
      have hM2 := hM.fr2 r12 (fun a ha => by omega)
      obtain ⟨M3, f3, y3, r3⟩ := hM2.keep hh
      obtain ⟨M4, f4, s4, r4⟩ := pX8_goes (v := v) kd83 (by omega) (by omega) y3.2.2.2.2.2.1 (Or.inl rfl) (fun k hk => rfl) hG.1 h2 hk (by omega) (by omega) (fun M' e1 e2 a b ha hb => by
        have hMW : MW M' cs w := ⟨by rw [e1]; exact y3.2.2.1.1, fun a b ha hb => by rw [e2]; exact y3.2.2.1.2 a b ha hb⟩
        rw [pX8_far hMW h2 hW.lt ha hb (hW.2.2.2.2.2 a b ha hb), fw_sym hW.2.2.2.2.1 cs a b]) hds
      have y4 := y3.st r4 s4
      refine ⟨nI (if due (fw w cs) (mv1 k v) = true then 1 else 0), M2, M4, ?_, ?_, Inv.mk z2 y4 (hA.kp hh (hG.go h2 (by omega) hk g)) (r3.tr (r4.mono (fun a ha => by omega)))⟩
      · rw [f1, pn_bv, rm_lt1, z1.1.2.2.2.1, if_pos ks, rm_lt1, z1.1.2.2.1, if_pos kn, f2, pn_bd]
        by_cases d : due (fw w cs) (mv1 k v) = true
        · rw [if_pos d, if_neg z10, pn_lit]
        · rw [if_neg d, if_pos rfl]
      · obtain ⟨y, e1, e2, e3⟩ := m8 M2 hM2
        rw [e1, e2 g]
        unfold fX8_tick_L52
        rw [f3, pn_bv, f4, pn_bd]
    · rw [cg.2 g, pn_bd, if_pos rfl]
      refine ⟨_, M, M, rfl, ?_, h0⟩
      obtain ⟨y, e1, e2, e3⟩ := m8 M hM
      rw [e1, e3 g]
      rfl
  · rw [pX7_isCell_no p6 hn hc0 hno, pn_bd, pn_lit 0, if_pos rfl]
    refine ⟨_, _, M, rfl, ?_, h0⟩
    rw [pX8_isCell_no hm0 h2 (by omega) hno, pn_bd, if_pos rfl]
