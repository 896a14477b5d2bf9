theorem op_handset {t : Nat} {M : rm_M} (h : Inv t M) (a : Int32) : ∃ r M1 M2, fX7_handset a M = some (r, M1) ∧ fX8_handset a M1 = some (r, M2) ∧ Inv (t + 1) M2 := by
  have h0 := h.ro FR.rf (fun a (ha : False) => ha.elim)
  obtain ⟨n, s, tl, tx, cs, jn, w, pr, v, hc, nx, hv, hC, hM, hA⟩ := h
  obtain ⟨⟨hn, hs, p6, p7, p8, p9⟩, c2, ⟨c31, c32, c33, c34, c35, c36⟩, ⟨c4a, c4b, c4c⟩, c5, c6⟩ := hC
  obtain ⟨m1, m2, m3, m4, m5, m6, m7⟩ := hM
  have kn := pn_net hn
  have ks := pn_sta (s := s) (by omega)
  have e4 : M.1 s 4 = nI (v 14) := c4c 4 (by omega) (by omega)
  have e5 : M.1 s 5 = nI (v 15) := c4c 5 (by omega) (by omega)
  have e6 : M.1 s 6 = nI (v 16) := c4c 6 (by omega) (by omega)
  have e7 : M.1 s 7 = nI (v 17) := c4c 7 (by omega) (by omega)
  have e8 : M.1 s 8 = nI (v 18) := c4c 8 (by omega) (by omega)
  have e9 : M.1 s 9 = nI (v 19) := c4c 9 (by omega) (by omega)
  have q1 : M.1 n 3 = nI (pr 1) := c36 1 (by omega)
  have q2 : M.1 n 4 = nI (pr 2) := c36 2 (by omega)
  unfold fX7_handset
  simp (disch := omega) only [rm_lt1, pn_lit, p6, p7, kn, ks, ↓reduceIte, e4, e5, e6, e7, e8, e9, q1, q2]
  rcases natOr a (n := 7) (by omega) with ⟨k, hk, rfl⟩ | hno
  · have hin : ∀ M, fX8_isIn (nI k) (nI 0) (nI 6) M = some (nI 1, M) := fun M => pX8_isIn_yes (by omega) (by omega) (by omega) M
    have m8 : fX8_handset (nI k) M = some (if 6 ≤ k then nI (pr 1) * nI (v 19) + nI (pr 2) * nI (v 18) else nI (v (14 + k)), M) := by
      unfold fX8_handset
      simp (disch := omega) only [pn_lit]
      rw [hin, pn_bd, if_neg z10]
      simp (disch := omega) only [nI_leI, pn_ib, nI_clamp, nI_add, decide_eq_true_eq]
      by_cases c : 6 ≤ k
      · rw [if_pos c, if_pos c, if_pos (by omega), if_pos (by omega), if_pos (by omega), if_pos (by omega), m5 1 (by omega), m5 2 (by omega), m6 19 (by omega), m6 18 (by omega)]
      · rw [if_neg c, if_neg c, if_pos (by omega), m6 (14 + k) (by omega)]
    simp (disch := omega) only [nI_eq]
    rcases (show k = 0 ∨ k = 1 ∨ k = 2 ∨ k = 3 ∨ k = 4 ∨ k = 5 ∨ k = 6 by omega) with rfl | rfl | rfl | rfl | rfl | rfl | rfl
    · exact ⟨_, _, M, rfl, m8, h0⟩
    · exact ⟨_, _, M, rfl, m8, h0⟩
    · exact ⟨_, _, M, rfl, m8, h0⟩
    · exact ⟨_, _, M, rfl, m8, h0⟩
    · exact ⟨_, _, M, rfl, m8, h0⟩
    · exact ⟨_, _, M, rfl, m8, h0⟩
    · exact ⟨_, _, M, rfl, m8, h0⟩
  · have hne : ∀ j, j < 7 → ¬ a = nI j := by
      intro j hj q
      subst q
      rw [nI_ltI (by omega) (by omega), nI_leI (by omega) (by omega)] at hno
      omega
    rw [if_neg (hne 0 (by omega)), if_neg (hne 1 (by omega)), if_neg (hne 2 (by omega)), if_neg (hne 3 (by omega)), if_neg (hne 4 (by omega)), if_neg (hne 5 (by omega)), if_neg (hne 6 (by omega))]
    refine ⟨_, _, M, rfl, ?_, h0⟩
    unfold fX8_handset
    simp only [pn_lit]
    rw [pX8_isIn_no hno (by omega), pn_bd, if_pos rfl]
theorem op_count {t : Nat} {M : rm_M} (h : Inv t M) (a : Int32) : ∃ r M1 M2, fX7_count a M = some (r, M1) ∧ fX8_count a M1 = some (r, M2) ∧ Inv (t + 1) M2 := by
  have h0 := h.ro FR.rf (fun a (ha : False) => ha.elim)
  obtain ⟨n, s, tl, tx, cs, jn, w, pr, v, hc, nx, hv, hC, hM, hA⟩ := h
  obtain ⟨⟨hn, hs, p6, p7, p8, p9⟩, c2, ⟨c31, c32, c33, c34, c35, c36⟩, ⟨c4a, c4b, c4c⟩, c5, c6⟩ := hC
  obtain ⟨m1, m2, m3, m4, m5, m6, m7⟩ := hM
  have kn := pn_net hn
  have ks := pn_sta (s := s) (by omega)
  have e2 : M.1 s 2 = nI (v 12) := c4c 2 (by omega) (by omega)
  have e3 : M.1 s 3 = nI (v 13) := c4c 3 (by omega) (by omega)
  have q0 : M.1 n 2 = nI (pr 0) := c36 0 (by omega)
  have q1 : M.1 n 3 = nI (pr 1) := c36 1 (by omega)
  have q2 : M.1 n 4 = nI (pr 2) := c36 2 (by omega)
  have q3 : M.1 n 5 = nI (pr 3) := c36 3 (by omega)
  unfold fX7_count
  rw [pn_lit 0, pn_lit 1, pn_lit 2, pn_lit 3, pn_lit 4, pn_lit 5, pn_lit 6, pn_lit 7, pn_lit 8, pn_lit 9]
  rcases natOr a (n := 10) (by omega) with ⟨k, hk, rfl⟩ | hno
  · have u12 : M.1 83 (10 + 2) = nI (v 12) := m6 12 (by omega)
    have u13 : M.1 83 (10 + 3) = nI (v 13) := m6 13 (by omega)
    rcases (show k = 0 ∨ k = 1 ∨ k = 2 ∨ k = 3 ∨ k = 4 ∨ k = 5 ∨ k = 6 ∨ k = 7 ∨ k = 8 ∨ k = 9 by omega) with rfl | rfl | rfl | rfl | rfl | rfl | rfl | rfl | rfl | rfl
    · rw [if_pos rfl]
      simp only [rm_lt1, p6, p7, kn, ks, ↓reduceIte, c31.1]
      refine ⟨_, _, M, rfl, ?_, h0⟩
      unfold fX8_count
      rw [pn_lit 0, pn_lit 1, pn_lit 2, pn_lit 3, pn_lit 4, pn_lit 5, pn_lit 6, pn_lit 7, pn_lit 8, pn_lit 9]
      rw [if_pos rfl, ← m3.1]
    · rw [if_neg (by decide), if_pos rfl]
      simp only [rm_lt1, p6, p7, kn, ks, ↓reduceIte, c32]
      refine ⟨_, _, M, rfl, ?_, h0⟩
      unfold fX8_count
      rw [pn_lit 0, pn_lit 1, pn_lit 2, pn_lit 3, pn_lit 4, pn_lit 5, pn_lit 6, pn_lit 7, pn_lit 8, pn_lit 9]
      rw [if_neg (by decide), if_pos rfl, ← m4]
    · rw [if_neg (by decide), if_neg (by decide), if_pos rfl]
      simp only [rm_lt1, p6, p7, kn, ks, ↓reduceIte, e2]
      refine ⟨_, _, M, rfl, ?_, h0⟩
      unfold fX8_count
      rw [pn_lit 0, pn_lit 1, pn_lit 2, pn_lit 3, pn_lit 4, pn_lit 5, pn_lit 6, pn_lit 7, pn_lit 8, pn_lit 9]
      rw [if_neg (by decide), if_neg (by decide), if_pos rfl, ← u12]
      rfl
    · rw [if_neg (by decide), if_neg (by decide), if_neg (by decide), if_pos rfl]
      simp only [rm_lt1, p6, p7, kn, ks, ↓reduceIte, e3]
      refine ⟨_, _, M, rfl, ?_, h0⟩
      unfold fX8_count
      rw [pn_lit 0, pn_lit 1, pn_lit 2, pn_lit 3, pn_lit 4, pn_lit 5, pn_lit 6, pn_lit 7, pn_lit 8, pn_lit 9]
      rw [if_neg (by decide), if_neg (by decide), if_neg (by decide), if_pos rfl, ← u13]
      rfl
    · rw [if_neg (by decide), if_neg (by decide), if_neg (by decide), if_neg (by decide), if_pos rfl]
      simp only [rm_lt1, p6, p7, kn, ks, ↓reduceIte, q0]
      refine ⟨_, _, M, rfl, ?_, h0⟩
      unfold fX8_count
      rw [pn_lit 0, pn_lit 1, pn_lit 2, pn_lit 3, pn_lit 4, pn_lit 5, pn_lit 6, pn_lit 7, pn_lit 8, pn_lit 9]
      rw [if_neg (by decide), if_neg (by decide), if_neg (by decide), if_neg (by decide), if_pos rfl, ← m5 0 (by omega)]
      rfl
    · rw [if_neg (by decide), if_neg (by decide), if_neg (by decide), if_neg (by decide), if_neg (by decide), if_pos rfl]
      simp only [rm_lt1, p6, p7, kn, ks, ↓reduceIte, q1]
      refine ⟨_, _, M, rfl, ?_, h0⟩
      unfold fX8_count
      rw [pn_lit 0, pn_lit 1, pn_lit 2, pn_lit 3, pn_lit 4, pn_lit 5, pn_lit 6, pn_lit 7, pn_lit 8, pn_lit 9]
      rw [if_neg (by decide), if_neg (by decide), if_neg (by decide), if_neg (by decide), if_neg (by decide), if_pos rfl, ← m5 1 (by omega)]
      rfl
    · rw [if_neg (by decide), if_neg (by decide), if_neg (by decide), if_neg (by decide), if_neg (by decide), if_neg (by decide), if_pos rfl]
      simp only [rm_lt1, p6, p7, kn, ks, ↓reduceIte, q2]
      refine ⟨_, _, M, rfl, ?_, h0⟩
      unfold fX8_count
      rw [pn_lit 0, pn_lit 1, pn_lit 2, pn_lit 3, pn_lit 4, pn_lit 5, pn_lit 6, pn_lit 7, pn_lit 8, pn_lit 9]
      rw [if_neg (by decide), if_neg (by decide), if_neg (by decide), if_neg (by decide), if_neg (by decide), if_neg (by decide), if_pos rfl, ← m5 2 (by omega)]
      rfl
    · rw [if_neg (by decide), if_neg (by decide), if_neg (by decide), if_neg (by decide), if_neg (by decide), if_neg (by decide), if_neg (by decide), if_pos rfl]
      simp only [rm_lt1, p6, p7, kn, ks, ↓reduceIte, q3]
      refine ⟨_, _, M, rfl, ?_, h0⟩
      unfold fX8_count
      rw [pn_lit 0, pn_lit 1, pn_lit 2, pn_lit 3, pn_lit 4, pn_lit 5, pn_lit 6, pn_lit 7, pn_lit 8, pn_lit 9]
      rw [if_neg (by decide), if_neg (by decide), if_neg (by decide), if_neg (by decide), if_neg (by decide), if_neg (by decide), if_neg (by decide), if_pos rfl, ← m5 3 (by omega)]
      rfl
    · rw [if_neg (by decide), if_neg (by decide), if_neg (by decide), if_neg (by decide), if_neg (by decide), if_neg (by decide), if_neg (by decide), if_neg (by decide), if_pos rfl]
      simp only [rm_lt1, p6, p7, kn, ks, ↓reduceIte, c5.1]
      refine ⟨_, _, M, rfl, ?_, h0⟩
      unfold fX8_count
      rw [pn_lit 0, pn_lit 1, pn_lit 2, pn_lit 3, pn_lit 4, pn_lit 5, pn_lit 6, pn_lit 7, pn_lit 8, pn_lit 9]
      rw [if_neg (by decide), if_neg (by decide), if_neg (by decide), if_neg (by decide), if_neg (by decide), if_neg (by decide), if_neg (by decide), if_neg (by decide), if_pos rfl, ← m7.1]
    · rw [if_neg (by decide), if_neg (by decide), if_neg (by decide), if_neg (by decide), if_neg (by decide), if_neg (by decide), if_neg (by decide), if_neg (by decide), if_neg (by decide), if_pos rfl]
      simp only [rm_lt1, p6, p7, kn, ks, ↓reduceIte, c2.1]
      refine ⟨_, _, M, rfl, ?_, h0⟩
      unfold fX8_count
      rw [pn_lit 0, pn_lit 1, pn_lit 2, pn_lit 3, pn_lit 4, pn_lit 5, pn_lit 6, pn_lit 7, pn_lit 8, pn_lit 9]
      rw [if_neg (by decide), if_neg (by decide), if_neg (by decide), if_neg (by decide), if_neg (by decide), if_neg (by decide), if_neg (by decide), if_neg (by decide), if_neg (by decide), if_pos rfl, ← m1]
  · have hne : ∀ j, j < 10 → ¬ a = nI j := by
      intro j hj q
      subst q
      rw [nI_ltI (by omega) (by omega), nI_leI (by omega) (by omega)] at hno
      omega
    rw [if_neg (hne 0 (by omega)), if_neg (hne 1 (by omega)), if_neg (hne 2 (by omega)), if_neg (hne 3 (by omega)), if_neg (hne 4 (by omega)), if_neg (hne 5 (by omega)), if_neg (hne 6 (by omega)), if_neg (hne 7 (by omega)), if_neg (hne 8 (by omega)), if_neg (hne 9 (by omega))]
    refine ⟨_, _, M, rfl, ?_, h0⟩
    unfold fX8_count
    rw [pn_lit 0, pn_lit 1, pn_lit 2, pn_lit 3, pn_lit 4, pn_lit 5, pn_lit 6, pn_lit 7, pn_lit 8, pn_lit 9]
    rw [if_neg (hne 0 (by omega)), if_neg (hne 1 (by omega)), if_neg (hne 2 (by omega)), if_neg (hne 3 (by omega)), if_neg (hne 4 (by omega)), if_neg (hne 5 (by omega)), if_neg (hne 6 (by omega)), if_neg (hne 7 (by omega)), if_neg (hne 8 (by omega)), if_neg (hne 9 (by omega))]
/-! chances -/
theorem aI_cong {cs : Nat} {w : Nat → Nat → Nat} {v u : Nat → Nat} (h : ∀ c, c < 6 → u c = v c) {c : Nat} (hc : c < 6) : aI cs w u c = aI cs w v c := by unfold aI; rw [h c hc]
theorem bI_cong {cs : Nat} {w : Nat → Nat → Nat} {v u : Nat → Nat} (hcs : cs ≤ 6) (h : ∀ c, c < 6 → u c = v c) : bI cs w u = bI cs w v := isu_cong cs 0 (fun j _ hj => aI_cong h (by omega))
theorem exI_cong {cs : Nat} {w : Nat → Nat → Nat} {v u : Nat → Nat} (pr : Nat → Nat) (hcs : cs ≤ 6) (h : ∀ c, c < 6 → u c = v c) : exI cs w u pr = exI cs w v pr := by
  funext ar
  unfold exI
  congr 2
  exact isu_cong cs 0 (fun j _ hj => by rw [aI_cong h (by omega)])
theorem bstF_cong {cs : Nat} {w : Nat → Nat → Nat} {v u : Nat → Nat} (pr : Nat → Nat) (hcs : cs ≤ 6) (h : ∀ c, c < 6 → u c = v c) : bstF cs w u pr = bstF cs w v pr := by
  unfold bstF
  rw [exI_cong pr hcs h]
theorem RI.cong {M : rm_M} {cs : Nat} {w : Nat → Nat → Nat} {v u pr : Nat → Nat} (hcs : cs ≤ 6) (hR : RI M cs w v pr) (h : ∀ c, c < 6 → u c = v c) : RI M cs w u pr := by
  obtain ⟨r1, r2, r3⟩ := hR
  refine ⟨fun c hc => by rw [r1 c hc, aI_cong h (by omega)], by rw [r2, bI_cong hcs h], ?_⟩
  unfold CB
  rw [bstF_cong pr hcs h]
  exact r3
theorem pX7_isPart_yes {p : Nat} (hp : p < 2) (M : rm_M) : fX7_isPart (nI p) M = some (nI 1, M) := by
  unfold fX7_isPart fX7_isPart_L9
  simp (disch := omega) only [pn_lit, nI_eq]
  by_cases c : p = 0
  · rw [if_pos c]; rfl
  · rw [if_neg c, if_pos (by omega)]; rfl
theorem pX7_isPart_no {a : Int32} (h : a < nI 0 ∨ nI 2 ≤ a) (M : rm_M) : fX7_isPart a M = some (nI 0, M) := by
  have hne : ∀ j, j < 2 → ¬ a = nI j := by
    intro j hj q
    subst q
    rw [nI_ltI (by omega) (by omega), nI_leI (by omega) (by omega)] at h
    omega
  unfold fX7_isPart
  simp only [pn_lit]
  rw [if_neg (hne 0 (by omega)), if_neg (hne 1 (by omega))]
  rfl
theorem op_chance {t : Nat} {M : rm_M} (h : Inv t M) (a b : Int32) : ∃ r M1 M2, fX7_chance a b M = some (r, M1) ∧ fX8_chance a b M1 = some (r, M2) ∧ Inv (t + 1) M2 := by
  have hi := h
  have h0 := h.ro FR.rf (fun a (ha : False) => ha.elim)
  obtain ⟨n, s, tl, tx, cs, jn, w, pr, v, hc, nx, hv, hC, hM, hA⟩ := h
  obtain ⟨⟨hn, hs, p6, p7, p8, p9⟩, c2, ⟨c31, c32, c33, c34, c35, c36⟩, ⟨c4a, c4b, c4c⟩, c5, ⟨c61, c62, c63⟩⟩ := hC
  obtain ⟨m1, m2, m3, m4, m5, m6, m7⟩ := hM
  obtain ⟨a1, a2, hW, a4, a5, a6, a7, a8⟩ := hA
  have h1 := hW.1
  have h2 := hW.2.1
  have hv9 : ∀ c, c < 6 → v c ≤ 9 := fun c hc => (a7.1.2.1 c hc).1
  unfold fX7_chance fX8_chance
  rcases natOr a (n := cs) (by omega) with ⟨k, hk, rfl⟩ | hno
  · rw [pX7_isCell_yes p6 hn c31.1 h2 hk, pn_bd]
    rcases natOr b (n := 2) (by omega) with ⟨p, hp, rfl⟩ | hno
    · have ab := aI_bd hW hv9 hk
      have bb := bI_bd hW hv9
      rw [pX7_isPart_yes hp, pn_bd]
      simp (disch := omega) only [pn_lit, if_neg z10, pn_ib, nI_clamp, decide_eq_true_eq, c61 k hk, c62]
      rw [if_pos (by omega), pX7_lowest (by omega) (by omega) (by omega) (by omega) hp, pn_bd]
      obtain ⟨M2, f2, g2, r2, e2⟩ := pX8_grows hW m3
      refine ⟨_, M, M2, rfl, ?_, hi.ro r2 (fun a ha => ⟨by unfold scr; omega, by omega⟩)⟩
      have hm2 := m3.same e2
      have hv2 : MV M2 83 v := m6.fr r2 (by omega)
      rw [pX8_isCell_yes m3.1 h2 hk, pn_bd, if_neg z10, pX8_isIn_yes (by omega) (by omega) (by omega), pn_bd, if_neg z10, f2, pn_bv]
      rw [if_pos (by omega), pX8_sum hm2 hv2 h2 (by omega), pn_bd, pX8_below hW hv9 hm2 (fun c hc => g2 c hc) hv2, pn_bd, g2 k hk]
      have ho := ou_le hW hk
      have hvk := hv9 k (by omega)
      rw [nI_J (by omega), J_mul, Int.mul_comm, show ((ou cs w k + v k : Nat) : Int) * trI cs w k = aI cs w v k from rfl, pX8_term (by omega) (by omega) (by omega) (by omega) hp, pn_bd]
    · rw [pX7_isPart_no hno, pn_bd]
      simp only [pn_lit, if_neg z10, ↓reduceIte]
      refine ⟨_, M, M, rfl, ?_, h0⟩
      rw [pX8_isCell_yes m3.1 h2 hk, pn_bd, if_neg z10, pX8_isIn_no hno (by omega), pn_bd, if_pos rfl]
  · rw [pX7_isCell_no p6 hn c31.1 hno, pn_bd]
    simp only [pn_lit, ↓reduceIte]
    refine ⟨_, _, M, rfl, ?_, h0⟩
    rw [pX8_isCell_no m3.1 h2 (by omega) hno, pn_bd, if_pos rfl]
theorem kd83 : (rm_kd 83).2 = 20 := rfl
/-- MEAN, a part of it -/
def rtV (cs : Nat) (w : Nat → Nat → Nat) (v : Nat → Nat) (p : Nat) : Int64 := if v 12 = 0 then lwI (crI cs w (fun d => v (6 + d)) false) (bI cs w v) p else if v 12 = 1 then lwI (crI cs w (fun d => v (6 + d)) true) (((v 13 : Nat) : Int) * bI cs w v) p else if v 12 = 2 then lwI ((1 : Nat) : Int) ((v 13 : Nat) : Int) p else (-4 : Int64)
def mnV (cs : Nat) (w : Nat → Nat → Nat) (v pr : Nat → Nat) (k p : Nat) : Int64 := if k = 0 then lwI (crI cs w (fun d => v (6 + d)) false) (bI cs w v) p else if k = 1 then lwI (crI cs w (fun d => v (6 + d)) true) (bI cs w v) p else if k = 2 then rtV cs w v p else lwI (exI cs w v pr (fun d => v (6 + d))) (((100 : Nat) : Int) * bI cs w v) p
theorem AR.st {M : rm_M} {s cs : Nat} {v : Nat → Nat} (hs : s = 55 ∨ s = 58) (h : SV M s v) (hcs : cs ≤ 6) (hv : ∀ c, c < 6 → v (6 + c) ≤ 5) : AR M (s + 2) 0 cs (fun d => v (6 + d)) := by
  refine ⟨?_, ?_, fun c hc => ?_, fun c hc => by rw [Nat.zero_add]; exact h.2.1 c (by omega)⟩
  · rcases hs with rfl | rfl <;> (show 0 + cs ≤ 6; omega)
  · rcases hs with rfl | rfl <;> decide
  · have := hv c (by omega); show v (6 + c) < 100; omega
theorem pX7_rate {M : rm_M} {n s cs p : Nat} {w : Nat → Nat → Nat} {v : Nat → Nat} (hn : n = 14 ∨ n = 33) (hs : s = 55 ∨ s = 58) (p6 : M.2.2 6 = n) (p7 : M.2.2 7 = s) (hW : WN cs w) (hV : WV cs v) (hS : SV M s v) (hN : CN M n cs w) (hT : CT M n cs w) (hB : M.2.1 6 1 = J (bI cs w v)) (hp : p < 2) : fX7_rate (nI p) M = some (rtV cs w v p, M) := by
  have h2 := hW.2.1
  have kn := pn_net hn
  have ks := pn_sta (s := s) (by omega)
  have e2 : M.1 s 2 = nI (v 12) := hS.2.2 2 (by omega) (by omega)
  have e3 : M.1 s 3 = nI (v 13) := hS.2.2 3 (by omega) (by omega)
  have w3 := hV.2.2.1
  have w5 := hV.2.2.2.2.1
  have hv9 : ∀ c, c < 6 → v c ≤ 9 := fun c hc => (hV.2.1 c hc).1
  have hAR := AR.st hs hS h2 (fun c hc => (hV.2.1 c hc).2)
  have bb := bI_bd hW hv9
  have cb0 := crI_bd hW (fun d => v (6 + d)) false
  have cb1 := crI_bd hW (fun d => v (6 + d)) true
  have cr7 := pX0_crosses hW hN hT hAR
  have mo7 := pX0_movesOn hW hN hT
  rw [mov_cr w (fun d => v (6 + d))] at mo7
  unfold fX7_rate rtV
  rw [rm_lt1, p7, if_pos ks, rm_lt1, e2, pn_lit 0, pn_lit 1, pn_lit 2]
  by_cases k0 : v 12 = 0
  · rw [if_pos (by rw [k0]), if_pos k0, rm_lt1, p6, if_pos kn, rm_lt1, if_pos ks, cr7, pn_bd, hB, pX7_lowest (by omega) (by omega) (by omega) (by omega) hp, pn_bd]
  · rw [if_neg (by rw [nI_eq (by omega) (by omega)]; exact k0), if_neg k0]
    have w13 := w5 k0
    by_cases k1 : v 12 = 1
    · have b1 : (0 : Int) < ((v 13 : Nat) : Int) * bI cs w v := Int.mul_pos (by omega) bb.1
      have b2 : ((v 13 : Nat) : Int) * bI cs w v ≤ 9 * 66816000000 := Int.mul_le_mul (by omega) bb.2 (by omega) (by omega)
      rw [if_pos (by rw [k1]), if_pos k1, rm_lt1, p6, if_pos kn, mo7, pn_bd, rm_lt1, p7, if_pos ks, e3, hB, nI_J (by omega), J_mul, pX7_lowest (by omega) (by omega) (by omega) (by omega) hp, pn_bd]
    · rw [if_neg (by rw [nI_eq (by omega) (by omega)]; exact k1), if_neg k1]
      by_cases k2 : v 12 = 2
      · rw [if_pos (by rw [k2]), if_pos k2, rm_lt1, if_pos ks, e3, nI_J (by omega), J_lit 1, pX7_lowest (by omega) (by omega) (by omega) (by omega) hp, pn_bd]
      · rw [if_neg (by rw [nI_eq (by omega) (by omega)]; exact k2), if_neg k2]
theorem pX7_mean {M : rm_M} {n s cs p k : Nat} {w : Nat → Nat → Nat} {v pr : Nat → Nat} (hn : n = 14 ∨ n = 33) (hs : s = 55 ∨ s = 58) (p6 : M.2.2 6 = n) (p7 : M.2.2 7 = s) (hW : WN cs w) (hV : WV cs v) (hS : SV M s v) (hN : CN M n cs w) (hT : CT M n cs w) (hP : CPr M n pr) (hpr : ∀ k, k < 4 → pr k ≤ 99) (hC : CA M cs w v) (hB : M.2.1 6 1 = J (bI cs w v)) (hp : p < 2) (hk : k < 4) : fX7_mean (nI k) (nI p) M = some (mnV cs w v pr k p, M) := by
  have h2 := hW.2.1
  have kn := pn_net hn
  have ks := pn_sta (s := s) (by omega)
  have hv9 : ∀ c, c < 6 → v c ≤ 9 := fun c hc => (hV.2.1 c hc).1
  have hAR := AR.st hs hS h2 (fun c hc => (hV.2.1 c hc).2)
  have bb := bI_bd hW hv9
  have cb0 := crI_bd hW (fun d => v (6 + d)) false
  have cb1 := crI_bd hW (fun d => v (6 + d)) true
  have eb := exI_bd hW hv9 hpr (fun d => v (6 + d))
  have cr7 := pX0_crosses hW hN hT hAR
  have mo7 := pX0_movesOn hW hN hT
  have ex7 := pX0_expense hW hN hT hAR hC hP hpr
  rw [mov_cr w (fun d => v (6 + d))] at mo7
  unfold fX7_mean mnV
  rw [pX7_isPart_yes hp, pn_bd, pn_lit 0, pn_lit 1, pn_lit 2, pn_lit 3, if_neg z10]
  rcases (show k = 0 ∨ k = 1 ∨ k = 2 ∨ k = 3 by omega) with rfl | rfl | rfl | rfl
  · rw [if_pos rfl, if_pos rfl, rm_lt1, p6, if_pos kn, rm_lt1, p7, if_pos ks, cr7, pn_bd, hB, pX7_lowest (by omega) (by omega) (by omega) (by omega) hp, pn_bd]
  · rw [if_neg z10, if_pos rfl, if_neg (by omega), if_pos rfl, rm_lt1, p6, if_pos kn, mo7, pn_bd, hB, pX7_lowest (by omega) (by omega) (by omega) (by omega) hp, pn_bd]
  · rw [if_neg (by decide), if_neg (by decide), if_pos rfl, if_neg (by omega), if_neg (by omega), if_pos rfl, pX7_rate hn hs p6 p7 hW hV hS hN hT hB hp, pn_bd]
  · rw [if_neg (by decide), if_neg (by decide), if_neg (by decide), if_pos rfl, if_neg (by omega), if_neg (by omega), if_neg (by omega), rm_lt1, p6, if_pos kn, rm_lt1, p7, if_pos ks, ex7, pn_bd, hB, J_lit 100, J_mul, pX7_lowest (by omega) (by omega) (by omega) (by omega) hp, pn_bd]
theorem pX8_mean {M : rm_M} {cs p k : Nat} {w : Nat → Nat → Nat} {v pr : Nat → Nat} (hW : WN cs w) (hV : WV cs v) (hM : MW M cs w) (hS : MV M 83 v) (hP : MPr M pr) (hpr : ∀ k, k < 4 → pr k ≤ 99) (hp : p < 2) (hk : k < 4) : ∃ M2, fX8_mean (nI k) (nI p) M = some (mnV cs w v pr k p, M2) ∧ FR (fun q => q = 90 ∨ q = 91) M M2 := by
  have h2 := hW.2.1
  have w3 := hV.2.2.1
  have w5 := hV.2.2.2.2.1
  have hv9 : ∀ c, c < 6 → v c ≤ 9 := fun c hc => (hV.2.1 c hc).1
  obtain ⟨M2, f2, g2, r2, q2⟩ := pX8_grows hW hM
  have hm2 := hM.same q2
  have hV2 : MV M2 83 v := hS.fr r2 (by omega)
  have hP2 : MPr M2 pr := hP.fr r2 (by omega)
  have hA2 : AR M2 83 6 cs (fun d => v (6 + d)) := by
    refine ⟨by rw [kd83]; omega, by rw [kd83]; omega, fun c hc => ?_, fun c hc => hV2 (6 + c) (by omega)⟩
    have := (hV.2.1 c (by omega)).2; show v (6 + c) < 100; omega
  have bel := pX8_below hW hv9 hm2 (fun c hc => g2 c hc) hV2
  have cr0 := pX8_crossing hW false hm2 (fun c hc => g2 c hc) hA2
  have cr1 := pX8_crossing hW true hm2 (fun c hc => g2 c hc) hA2
  simp only [↓reduceIte, Bool.false_eq_true] at cr0 cr1
  have ex := pX8_expense hW hv9 hm2 (fun c hc => g2 c hc) hV2 hA2 hP2 hpr
  have bb := bI_bd hW hv9
  have cb0 := crI_bd hW (fun d => v (6 + d)) false
  have cb1 := crI_bd hW (fun d => v (6 + d)) true
  have eb := exI_bd hW hv9 hpr (fun d => v (6 + d))
  have z12 : M2.1 83 (nI 12).toNatClampNeg = nI (v 12) := by rw [nI_clamp (by omega)]; exact hV2 12 (by omega)
  have z13 : M2.1 83 (nI 13).toNatClampNeg = nI (v 13) := by rw [nI_clamp (by omega)]; exact hV2 13 (by omega)
  refine ⟨M2, ?_, r2⟩
  unfold fX8_mean
  rw [pn_lit 0, pn_lit 1, pn_lit 2, pn_lit 3, pn_lit 6, pn_lit 12, pn_lit 13, pX8_isIn_yes (by omega) (by omega) (by omega), pn_bd, if_neg z10, pX8_isIn_yes (by omega) (by omega) (by omega), pn_bd, if_neg z10, f2, pn_bv, bel, pn_bd]
  rcases (show k = 0 ∨ k = 1 ∨ k = 2 ∨ k = 3 by omega) with rfl | rfl | rfl | rfl
  · show _ = some (lwI (crI cs w (fun d => v (6 + d)) false) (bI cs w v) p, M2)
    rw [if_neg (by decide), if_neg (by decide)]
    unfold fX8_mean_L53
    rw [cr0, pn_bd, pX8_term (by omega) (by omega) (by omega) (by omega) hp, pn_bd]
  · show _ = some (lwI (crI cs w (fun d => v (6 + d)) true) (bI cs w v) p, M2)
    rw [if_neg (by decide), if_pos rfl]
    unfold fX8_mean_L53
    rw [cr1, pn_bd, pX8_term (by omega) (by omega) (by omega) (by omega) hp, pn_bd]
  · show _ = some (rtV cs w v p, M2)
    rw [if_pos (by decide), if_neg (by decide), if_pos (by decide), rm_lt1, z12]
    unfold rtV
    by_cases k0 : v 12 = 0
    · rw [if_pos (by rw [k0]), if_pos k0, cr0, pn_bd, pX8_term (by omega) (by omega) (by omega) (by omega) hp, pn_bd]
    · rw [if_neg (by rw [nI_eq (by omega) (by omega)]; exact k0), if_neg k0]
      have w13 := w5 k0
      by_cases k1 : v 12 = 1
      · have b1 : (0 : Int) < ((v 13 : Nat) : Int) * bI cs w v := Int.mul_pos (by omega) bb.1
        have b2 : ((v 13 : Nat) : Int) * bI cs w v ≤ 9 * 66816000000 := Int.mul_le_mul (by omega) bb.2 (by omega) (by omega)
        rw [if_pos (by rw [k1]), if_pos k1, cr1, pn_bd, if_pos (by decide), z13, nI_J (by omega), J_mul, Int.mul_comm, pX8_term (by omega) (by omega) (by omega) (by omega) hp, pn_bd]
      · rw [if_neg (by rw [nI_eq (by omega) (by omega)]; exact k1), if_neg k1]
        by_cases k2 : v 12 = 2
        · rw [if_pos (by rw [k2]), if_pos k2, if_pos (by decide), z13, nI_J (by omega), J_lit 1, pX8_term (by omega) (by omega) (by omega) (by omega) hp, pn_bd]
        · rw [if_neg (by rw [nI_eq (by omega) (by omega)]; exact k2), if_neg k2]
  · show _ = some (lwI (exI cs w v pr (fun d => v (6 + d))) (((100 : Nat) : Int) * bI cs w v) p, M2)
    rw [if_pos (by decide), if_pos rfl, ex, pn_bd, J_lit 100, J_mul, pX8_term (by omega) (by omega) (by omega) (by omega) hp, pn_bd]
theorem op_mean {t : Nat} {M : rm_M} (h : Inv t M) (a b : Int32) : ∃ r M1 M2, fX7_mean a b M = some (r, M1) ∧ fX8_mean a b M1 = some (r, M2) ∧ Inv (t + 1) M2 := by
  have hi := h
  have h0 := h.ro FR.rf (fun a (ha : False) => ha.elim)
  obtain ⟨n, s, tl, tx, cs, jn, w, pr, v, hc, nx, hv, hC, hM, hA⟩ := h
  obtain ⟨⟨hn, hs, p6, p7, p8, p9⟩, c2, ⟨c31, c32, c33, c34, c35, c36⟩, c4, c5, ⟨c61, c62, c63⟩⟩ := hC
  obtain ⟨m1, m2, m3, m4, m5, m6, m7⟩ := hM
  obtain ⟨a1, a2, hW, a4, a5, a6, a7, a8⟩ := hA
  rcases natOr b (n := 2) (by omega) with ⟨p, hp, rfl⟩ | hno
  · rcases natOr a (n := 4) (by omega) with ⟨k, hk, rfl⟩ | hno
    · obtain ⟨M2, f2, r2⟩ := pX8_mean hW a7.1 m3 m6 m5 a4 hp hk
      exact ⟨_, M, M2, pX7_mean hn hs p6 p7 hW a7.1 c4 c31 c35 c36 a4 c61 c62 hp hk, f2, hi.ro r2 (fun a ha => ⟨by unfold scr; omega, by omega⟩)⟩
    · have hne : ∀ j, j < 4 → ¬ a = nI j := by
        intro j hj q
        subst q
        rw [nI_ltI (by omega) (by omega), nI_leI (by omega) (by omega)] at hno
        omega
      unfold fX7_mean fX8_mean
      rw [pX7_isPart_yes hp, pn_bd, pn_lit 0, pn_lit 1, pn_lit 2, pn_lit 3, if_neg z10, if_neg (hne 0 (by omega)), if_neg (hne 1 (by omega)), if_neg (hne 2 (by omega)), if_neg (hne 3 (by omega))]
      refine ⟨_, M, M, rfl, ?_, h0⟩
      rw [pX8_isIn_no hno (by omega), pn_bd, if_pos rfl]
  · unfold fX7_mean fX8_mean
    rw [pX7_isPart_no hno, pn_bd, pn_lit 0, pn_lit 1, pn_lit 3, if_pos rfl]
    refine ⟨_, M, M, rfl, ?_, h0⟩
    rcases natOr a (n := 4) (by omega) with ⟨k, hk, rfl⟩ | hno2
    · rw [pX8_isIn_yes (by omega) (by omega) (by omega), pn_bd, if_neg z10, pX8_isIn_no hno (by omega), pn_bd, if_pos rfl]
    · rw [pX8_isIn_no hno2 (by omega), pn_bd, if_pos rfl]
