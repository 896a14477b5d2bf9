/-! ===== the class' State: copies, registers, goes ===== -/
theorem pn_cpy6 (f g : Nat → Int32) {k : Nat} (h : k < 6) : va_cpy f g 0 0 6 k = f k := by
  unfold va_cpy
  rw [if_pos ⟨Nat.zero_le k, by omega⟩]
  congr 1
  omega
theorem pn_c0 : (nI 0).toNatClampNeg = 0 := nI_clamp (by decide)
theorem pn_c6 : (nI 6).toNatClampNeg = 6 := nI_clamp (by decide)
theorem SV.fr {S : Nat → Prop} {M M2 : rm_M} {q : Nat} {v : Nat → Nat} (h : SV M q v) (hF : FR S M M2) (h0 : ¬ S q) (h1 : ¬ S (q + 1)) (h2 : ¬ S (q + 2)) : SV M2 q v := by
  refine ⟨fun c hc => ?_, fun c hc => ?_, fun j hj hj2 => ?_⟩
  · rw [(hF.1 _ h1).1]; exact h.1 c hc
  · rw [(hF.1 _ h2).1]; exact h.2.1 c hc
  · rw [(hF.1 _ h0).1]; exact h.2.2 j hj hj2
theorem MV.fr {S : Nat → Prop} {M M2 : rm_M} {q : Nat} {v : Nat → Nat} (h : MV M q v) (hF : FR S M M2) (h0 : ¬ S q) : MV M2 q v := by
  intro k hk
  rw [(hF.1 _ h0).1]
  exact h k hk
theorem pX4_copyFrom {M : rm_M} {a0 a1 : Nat} {v : Nat → Nat} (h : SV M a1 v) (hd : a0 + 2 < a1 ∨ a1 + 2 < a0) :
    ∃ M2, fX4_copyFrom a0 a1 M = some M2 ∧ SV M2 a0 v ∧ FR (fun q => q = a0 ∨ q = a0 + 1 ∨ q = a0 + 2) M M2 := by
  unfold fX4_copyFrom
  simp only [rm_lt1, pn_lit, pn_c0, pn_c6]
  obtain ⟨h1, h2, h3⟩ := h
  refine ⟨_, rfl, ⟨fun c hc => ?_, fun c hc => ?_, fun j hj hj2 => ?_⟩, ?_⟩
  · simp (disch := omega) only [pn_sI_ne, pn_cp_ne, pn_cp_eq, pn_cpy6, h1 c hc]
  · simp (disch := omega) only [pn_sI_ne, pn_cp_ne, pn_cp_eq, pn_cpy6, h2 c hc]
  · have h32 := h3 2 (by omega) (by omega)
    have h33 := h3 3 (by omega) (by omega)
    have h34 := h3 4 (by omega) (by omega)
    have h35 := h3 5 (by omega) (by omega)
    have h36 := h3 6 (by omega) (by omega)
    have h37 := h3 7 (by omega) (by omega)
    have h38 := h3 8 (by omega) (by omega)
    have h39 := h3 9 (by omega) (by omega)
    simp (disch := omega) only [pn_sI_eq, pn_sI_ne, pn_cp_ne]
    rcases (show j = 2 ∨ j = 3 ∨ j = 4 ∨ j = 5 ∨ j = 6 ∨ j = 7 ∨ j = 8 ∨ j = 9 by omega) with rfl | rfl | rfl | rfl | rfl | rfl | rfl | rfl <;> simp (disch := omega) only [pn_upd_eq, pn_upd_ne, h32, h33, h34, h35, h36, h37, h38, h39]
  · exact FR.sIr (FR.sIr (FR.sIr (FR.sIr (FR.sIr (FR.sIr (FR.sIr (FR.sIr (FR.cpr (FR.cpr FR.rf (Or.inr (Or.inl rfl))) (Or.inr (Or.inr rfl))) (Or.inl rfl)) (Or.inl rfl)) (Or.inl rfl)) (Or.inl rfl)) (Or.inl rfl)) (Or.inl rfl)) (Or.inl rfl)) (Or.inl rfl)
/-- REGISTERED where it is -/
def reg (v : Nat → Nat) : Nat → Nat := vu (vu (vu v 15 (v 14)) 16 0) 17 0
theorem pX4_register {M : rm_M} {q : Nat} {v : Nat → Nat} (h : SV M q v) : ∃ M2, fX4_register q M = some M2 ∧ SV M2 q (reg v) ∧ FR (fun a => a = q) M M2 := by
  unfold fX4_register
  simp only [rm_lt1, pn_lit]
  obtain ⟨h1, h2, h3⟩ := h
  refine ⟨_, rfl, ⟨fun c hc => ?_, fun c hc => ?_, fun j hj hj2 => ?_⟩, FR.sIr (FR.sIr (FR.sIr FR.rf rfl) rfl) rfl⟩
  · simp (disch := omega) only [pn_sI_ne, h1 c hc, reg, vu_ne]
  · simp (disch := omega) only [pn_sI_ne, h2 c hc, reg, vu_ne]
  · have h34 := h3 4 (by omega) (by omega)
    have hj3 := h3 j hj hj2
    simp only [pn_sI_eq]
    rcases (show j = 2 ∨ j = 3 ∨ j = 4 ∨ j = 5 ∨ j = 6 ∨ j = 7 ∨ j = 8 ∨ j = 9 by omega) with rfl | rfl | rfl | rfl | rfl | rfl | rfl | rfl <;> simp (disch := omega) only [pn_upd_eq, pn_upd_ne, reg, vu_eq, vu_ne, hj3, h34]
theorem pX8_registers {M : rm_M} {q : Nat} {v : Nat → Nat} (hk : (rm_kd q).2 = 20) (h : MV M q v) : ∃ M2, fX8_registers q M = some M2 ∧ MV M2 q (reg v) ∧ FR (fun a => a = q) M M2 := by
  unfold fX8_registers
  simp (disch := omega) only [rm_lt1, pn_lit, hk, pn_ib, nI_clamp]
  simp only [show decide (14 < 20) = true from rfl, show decide (15 < 20) = true from rfl, show decide (16 < 20) = true from rfl, show decide (17 < 20) = true from rfl, ↓reduceIte]
  refine ⟨_, rfl, fun k hk2 => ?_, FR.sIr (FR.sIr (FR.sIr FR.rf rfl) rfl) rfl⟩
  have h14 := h 14 (by omega)
  have hkk := h k hk2
  simp only [pn_sI_eq]
  by_cases c1 : k = 17
  · subst c1; simp (disch := omega) only [pn_upd_eq, reg, vu_eq]
  · by_cases c2 : k = 16
    · subst c2; simp (disch := omega) only [pn_upd_eq, pn_upd_ne, reg, vu_eq, vu_ne]
    · by_cases c3 : k = 15
      · subst c3; simp (disch := omega) only [pn_upd_eq, pn_upd_ne, reg, vu_eq, vu_ne, h14]
      · simp (disch := omega) only [pn_upd_ne, reg, vu_ne, hkk]
/-- whether an UPDATE is due -/
def due (ds : Nat → Nat → Nat) (v : Nat → Nat) : Bool := if v 12 = 0 then decide (v (6 + v 14) ≠ v (6 + v 15)) else if v 12 = 1 then decide (v 13 ≤ v 16) else if v 12 = 2 then decide (v 13 ≤ v 17) else decide (v 13 ≤ ds (v 15) (v 14))
/-- what a vector keeps to -/
def WV (cs : Nat) (v : Nat → Nat) : Prop := (∀ k, k < 20 → v k < 2 ^ 31) ∧ (∀ c, c < 6 → v c ≤ 9 ∧ v (6 + c) ≤ 5) ∧ v 12 ≤ 3 ∧ (v 12 = 0 → v 13 = 0) ∧ (v 12 ≠ 0 → 1 ≤ v 13 ∧ v 13 ≤ 9) ∧ v 14 < cs ∧ v 15 < cs
def CD (M : rm_M) (n cs : Nat) (ds : Nat → Nat → Nat) : Prop := ∀ a b, a < cs → b < cs → M.1 (n + 8 + 1 + a) b = nI (ds a b)
theorem pX4_isOutside {M : rm_M} {q n cs c : Nat} {v : Nat → Nat} {ds : Nat → Nat → Nat} (h : SV M q v) (hw : WV cs v) (hcs : cs ≤ 6) (hc : c < cs) (hD : CD M n cs ds) (hds : ∀ a b, a < cs → b < cs → ds a b < 2 ^ 31) :
    fX4_isOutside q n (nI c) M = some (nI (if (v 12 = 0 ∧ v (6 + c) ≠ v (6 + v 15)) ∨ (v 12 = 3 ∧ v 13 ≤ ds (v 15) c) then 1 else 0), M) := by
  obtain ⟨h1, h2, h3⟩ := h
  obtain ⟨w1, w2, w3, w4, w5, w6, w7⟩ := hw
  have e2 : M.1 q 2 = nI (v 12) := h3 2 (by omega) (by omega)
  have e3 : M.1 q 3 = nI (v 13) := h3 3 (by omega) (by omega)
  have e5 : M.1 q 5 = nI (v 15) := h3 5 (by omega) (by omega)
  have b13 := w1 13 (by omega)
  have bd := hds _ _ w7 hc
  have k1 := (w2 c (by omega)).2
  have k2 := (w2 (v 15) (by omega)).2
  unfold fX4_isOutside
  simp (disch := omega) only [rm_lt1, pn_lit, e2, e3, e5, nI_eq, nI_ltI, pn_ib, nI_clamp, h2 c (by omega), h2 (v 15) (by omega), hD _ _ w7 hc, decide_eq_true_eq]
  by_cases c0 : v 12 = 0
  · rw [if_pos c0, if_pos (by omega), if_pos (by omega)]
    by_cases c1 : v (6 + c) = v (6 + v 15)
    · rw [if_pos c1, if_neg (by omega)]; rfl
    · rw [if_neg c1, if_pos (Or.inl ⟨c0, c1⟩)]; rfl
  · rw [if_neg c0]
    by_cases c3 : v 12 = 3
    · rw [if_pos c3, if_pos (by omega), if_pos (by omega)]
      by_cases c4 : ds (v 15) c < v 13
      · rw [if_pos c4, if_neg (by omega)]; rfl
      · rw [if_neg c4, if_pos (Or.inr ⟨c3, by omega⟩)]; rfl
    · rw [if_neg c3, if_neg (by omega)]; rfl
theorem pX4_isDue {M : rm_M} {q n cs : Nat} {v : Nat → Nat} {ds : Nat → Nat → Nat} (h : SV M q v) (hw : WV cs v) (hcs : cs ≤ 6) (hD : CD M n cs ds) (hds : ∀ a b, a < cs → b < cs → ds a b < 2 ^ 31) :
    fX4_isDue q n M = some (nI (if due ds v = true then 1 else 0), M) := by
  have hout := pX4_isOutside (c := v 14) h hw hcs hw.2.2.2.2.2.1 hD hds
  obtain ⟨h1, h2, h3⟩ := h
  obtain ⟨w1, w2, w3, w4, w5, w6, w7⟩ := hw
  have e2 : M.1 q 2 = nI (v 12) := h3 2 (by omega) (by omega)
  have e3 : M.1 q 3 = nI (v 13) := h3 3 (by omega) (by omega)
  have e4 : M.1 q 4 = nI (v 14) := h3 4 (by omega) (by omega)
  have e6 : M.1 q 6 = nI (v 16) := h3 6 (by omega) (by omega)
  have e7 : M.1 q 7 = nI (v 17) := h3 7 (by omega) (by omega)
  have b13 := w1 13 (by omega)
  have b16 := w1 16 (by omega)
  have b17 := w1 17 (by omega)
  unfold fX4_isDue due
  simp (disch := omega) only [rm_lt1, pn_lit, e2, e3, e4, e6, e7, nI_eq, nI_ltI, hout, pn_bd]
  by_cases c1 : v 12 = 1
  · rw [if_pos c1]
    by_cases c2 : v 16 < v 13
    · rw [if_pos c2]; simp [c1, show ¬ v 13 ≤ v 16 by omega]; rfl
    · rw [if_neg c2]; simp [c1, show v 13 ≤ v 16 by omega]; rfl
  · rw [if_neg c1]
    by_cases c2 : v 12 = 2
    · rw [if_pos c2]
      by_cases c3 : v 17 < v 13
      · rw [if_pos c3]; simp [c2, show ¬ v 13 ≤ v 17 by omega]; rfl
      · rw [if_neg c3]; simp [c2, show v 13 ≤ v 17 by omega]; rfl
    · rw [if_neg c2]
      by_cases c0 : v 12 = 0
      · by_cases c4 : v (6 + v 14) = v (6 + v 15)
        · simp [c0, c4]; rfl
        · simp [c0, c4]; rfl
      · have c3 : v 12 = 3 := by omega
        by_cases c4 : v 13 ≤ ds (v 15) (v 14)
        · simp [c3, c4]; rfl
        · simp [c3, c4]; rfl
theorem SV.put {M : rm_M} {q : Nat} {v : Nat → Nat} (h : SV M q v) {j : Nat} (x : Nat) (h1 : 2 ≤ j) (h2 : j < 10) : SV (rm_sI M q j (nI x)) q (vu v (j + 10) x) := by
  obtain ⟨a1, a2, a3⟩ := h
  refine ⟨fun c hc => ?_, fun c hc => ?_, fun k hk hk2 => ?_⟩
  · simp (disch := omega) only [pn_sI_ne, a1 c hc, vu_ne]
  · simp (disch := omega) only [pn_sI_ne, a2 c hc, vu_ne]
  · by_cases e : k = j
    · subst e; simp only [pn_sI_eq, pn_upd_eq, vu_eq]
    · simp (disch := omega) only [pn_sI_eq, pn_upd_ne, vu_ne, a3 k hk hk2]
theorem SV.stay {M : rm_M} {q : Nat} {v : Nat → Nat} (h : SV M q v) {c : Nat} (x : Nat) (hc : c < 6) : SV (rm_sI M (q + 1) c (nI x)) q (vu v c x) := by
  obtain ⟨a1, a2, a3⟩ := h
  refine ⟨fun k hk => ?_, fun k hk => ?_, fun k hk hk2 => ?_⟩
  · by_cases e : k = c
    · subst e; simp only [pn_sI_eq, pn_upd_eq, vu_eq]
    · simp (disch := omega) only [pn_sI_eq, pn_upd_ne, vu_ne, a1 k hk]
  · simp (disch := omega) only [pn_sI_ne, a2 k hk, vu_ne]
  · simp (disch := omega) only [pn_sI_ne, a3 k hk hk2, vu_ne]
theorem SV.area {M : rm_M} {q : Nat} {v : Nat → Nat} (h : SV M q v) {c : Nat} (x : Nat) (hc : c < 6) : SV (rm_sI M (q + 2) c (nI x)) q (vu v (6 + c) x) := by
  obtain ⟨a1, a2, a3⟩ := h
  refine ⟨fun k hk => ?_, fun k hk => ?_, fun k hk hk2 => ?_⟩
  · simp (disch := omega) only [pn_sI_ne, a1 k hk, vu_ne]
  · by_cases e : k = c
    · subst e; simp only [pn_sI_eq, pn_upd_eq, vu_eq]
    · simp (disch := omega) only [pn_sI_eq, pn_upd_ne, vu_ne, a2 k hk]
  · simp (disch := omega) only [pn_sI_ne, a3 k hk hk2, vu_ne]
theorem MV.put {M : rm_M} {q : Nat} {v : Nat → Nat} (h : MV M q v) {j : Nat} (x : Nat) : MV (rm_sI M q j (nI x)) q (vu v j x) := by
  intro k hk
  by_cases e : k = j
  · subst e; simp only [pn_sI_eq, pn_upd_eq, vu_eq]
  · simp (disch := omega) only [pn_sI_eq, pn_upd_ne, vu_ne, h k hk]
/-- a TICK to c, ahead of the question whether an UPDATE is due; and behind it -/
def mv1 (c : Nat) (v : Nat → Nat) : Nat → Nat := vu (vu (vu v 16 (v 16 + if c = v 14 then 0 else 1)) 17 (v 17 + 1)) 14 c
def goV (ds : Nat → Nat → Nat) (c : Nat) (v : Nat → Nat) : Nat → Nat := if due ds (mv1 c v) = true then reg (vu (mv1 c v) 18 (v 18 + 1)) else mv1 c v
theorem mv1_lo {c k : Nat} {v : Nat → Nat} (h : k < 14) : mv1 c v k = v k := by unfold mv1; rw [vu_ne _ _ (by omega), vu_ne _ _ (by omega), vu_ne _ _ (by omega)]
theorem mv1_14 {c : Nat} {v : Nat → Nat} : mv1 c v 14 = c := by unfold mv1; rw [vu_eq]
theorem mv1_15 {c : Nat} {v : Nat → Nat} : mv1 c v 15 = v 15 := by unfold mv1; rw [vu_ne _ _ (by omega), vu_ne _ _ (by omega), vu_ne _ _ (by omega)]
theorem mv1_16 {c : Nat} {v : Nat → Nat} : mv1 c v 16 = v 16 + if c = v 14 then 0 else 1 := by unfold mv1; rw [vu_ne _ _ (by omega), vu_ne _ _ (by omega), vu_eq]
theorem mv1_17 {c : Nat} {v : Nat → Nat} : mv1 c v 17 = v 17 + 1 := by unfold mv1; rw [vu_ne _ _ (by omega), vu_eq]
theorem mv1_18 {c k : Nat} {v : Nat → Nat} (h : 18 ≤ k) : mv1 c v k = v k := by unfold mv1; rw [vu_ne _ _ (by omega), vu_ne _ _ (by omega), vu_ne _ _ (by omega)]
theorem WV.mv1 {cs c : Nat} {v : Nat → Nat} (h : WV cs v) (hc : c < cs) (hcs : cs ≤ 6) (h16 : v 16 + 1 < 2 ^ 31) (h17 : v 17 + 1 < 2 ^ 31) : WV cs (mv1 c v) := by
  obtain ⟨w1, w2, w3, w4, w5, w6, w7⟩ := h
  refine ⟨fun k hk => ?_, fun k hk => ?_, ?_, ?_, ?_, ?_, ?_⟩
  · rcases (show k < 14 ∨ k = 14 ∨ k = 15 ∨ k = 16 ∨ k = 17 ∨ 18 ≤ k by omega) with h | h | h | h | h | h
    · rw [mv1_lo h]; exact w1 k hk
    · subst h; rw [mv1_14]; omega
    · subst h; rw [mv1_15]; exact w1 15 (by omega)
    · subst h; rw [mv1_16]; split <;> omega
    · subst h; rw [mv1_17]; omega
    · rw [mv1_18 h]; exact w1 k hk
  · rw [mv1_lo (by omega), mv1_lo (by omega)]; exact w2 k hk
  · rw [mv1_lo (by omega)]; exact w3
  · rw [mv1_lo (by omega), mv1_lo (by omega)]; exact w4
  · rw [mv1_lo (by omega), mv1_lo (by omega)]; exact w5
  · rw [mv1_14]; exact hc
  · rw [mv1_15]; exact w7
theorem pX4_go {M : rm_M} {q n cs c : Nat} {v : Nat → Nat} {ds : Nat → Nat → Nat} (h : SV M q v) (hw : WV cs v) (hcs : cs ≤ 6) (hc : c < cs) (hq : 52 ≤ q) (hn : n ≤ 33) (h16 : v 16 + 1 < 2 ^ 31) (h17 : v 17 + 1 < 2 ^ 31) (hD : CD M n cs ds) (hds : ∀ a b, a < cs → b < cs → ds a b < 2 ^ 31) :
    ∃ M2, fX4_go q n (nI c) M = some (nI (if due ds (mv1 c v) = true then 1 else 0), M2) ∧ SV M2 q (goV ds c v) ∧ FR (fun a => a = q) M M2 := by
  have step : ∀ M1 u, SV M1 q u → FR (fun a => a = q) M M1 → vu (vu u 17 (u 17 + 1)) 14 c = mv1 c v → u 18 = v 18 → ∃ M2, fX4_go_L18 q n (nI c) M1 = some (nI (if due ds (mv1 c v) = true then 1 else 0), M2) ∧ SV M2 q (goV ds c v) ∧ FR (fun a => a = q) M M2 := by
    intro M1 u hu hF hm h18
    unfold fX4_go_L18
    have e7 : M1.1 q 7 = nI (u 17) := hu.2.2 7 (by omega) (by omega)
    have hu2 : SV (rm_sI (rm_sI M1 q 7 (nI (u 17 + 1))) q 4 (nI c)) q (mv1 c v) := by
      rw [← hm]
      exact (hu.put (u 17 + 1) (by omega) (by omega)).put c (by omega) (by omega)
    have hF2 : FR (fun a => a = q) M (rm_sI (rm_sI M1 q 7 (nI (u 17 + 1))) q 4 (nI c)) := FR.sIr (FR.sIr hF rfl) rfl
    have hD2 : CD (rm_sI (rm_sI M1 q 7 (nI (u 17 + 1))) q 4 (nI c)) n cs ds := fun a b ha hb => by
      rw [(hF2.1 (n + 8 + 1 + a) (by omega)).1]; exact hD a b ha hb
    have hdue := pX4_isDue hu2 (hw.mv1 hc hcs h16 h17) hcs hD2 hds
    simp only [rm_lt1, pn_lit, e7, nI_add, hdue, pn_bd]
    by_cases c1 : due ds (mv1 c v) = true
    · rw [if_pos c1, if_neg (by rw [nI_eq (by omega) (by omega)]; omega)]
      obtain ⟨M3, f3, s3, r3⟩ := pX4_register hu2
      have e8 : M3.1 q 8 = nI (reg (mv1 c v) 18) := s3.2.2 8 (by omega) (by omega)
      have e18 : (reg (mv1 c v)) 18 = v 18 := by unfold reg; rw [vu_ne _ _ (by omega), vu_ne _ _ (by omega), vu_ne _ _ (by omega), mv1_18 (by omega)]
      rw [f3]
      simp only [pn_bv, e8, nI_add]
      refine ⟨_, rfl, ?_, hF2.tr (r3.tr (FR.sI rfl))⟩
      have hs4 := s3.put (j := 8) (v 18 + 1) (by omega) (by omega)
      have eqv : vu (reg (mv1 c v)) 18 (v 18 + 1) = goV ds c v := by
        unfold goV
        rw [if_pos c1]
        funext k
        unfold reg
        by_cases k17 : k = 17
        · subst k17; simp [vu]
        · by_cases k16 : k = 16
          · subst k16; simp [vu]
          · by_cases k15 : k = 15
            · subst k15; simp [vu]
            · by_cases k18 : k = 18
              · subst k18; simp [vu]
              · simp [vu, k15, k16, k17, k18]
      rw [show (8 : Nat) + 10 = 18 from rfl, eqv] at hs4
      rw [e18]
      exact hs4
    · rw [if_neg c1, if_pos rfl]
      refine ⟨_, rfl, ?_, hF2⟩
      unfold goV
      rw [if_neg c1]
      exact hu2
  have e4 : M.1 q 4 = nI (v 14) := h.2.2 4 (by omega) (by omega)
  have e6 : M.1 q 6 = nI (v 16) := h.2.2 6 (by omega) (by omega)
  have b14 := hw.1 14 (by omega)
  unfold fX4_go
  simp (disch := omega) only [rm_lt1, pn_lit, e4, e6, nI_add, nI_eq]
  by_cases c1 : c = v 14
  · rw [if_pos c1]
    refine step M v h FR.rf ?_ rfl
    unfold mv1
    rw [if_pos c1]
    funext k
    by_cases k14 : k = 14
    · subst k14; simp [vu]
    · by_cases k17 : k = 17
      · subst k17; simp [vu]
      · by_cases k16 : k = 16
        · subst k16; simp [vu]
        · simp [vu, k14, k16, k17]
  · rw [if_neg c1]
    refine step _ _ (h.put (j := 6) (v 16 + 1) (by omega) (by omega)) (FR.sI rfl) ?_ ?_
    · unfold mv1
      rw [if_neg c1, show (6 : Nat) + 10 = 16 from rfl, vu_ne _ _ (by omega : 17 ≠ 16)]
    · rw [vu_ne _ _ (by omega)]
