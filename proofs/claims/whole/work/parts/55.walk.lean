/-! ===== walks ===== -/
def Dz (z k : Nat) : Nat := (7919 * z + 6151 * k + 1) * (7919 * z + 6151 * k + 1) % 65521
def dr (w : Nat → Nat) (d at0 : Nat) : Nat → Nat → Nat → Nat
  | _, _, 0 => at0
  | so, i, r + 1 => if d < so + w i then i else dr w d at0 (so + w i) (i + 1) r
/-- the cell that is drawn -/
def drC (cs : Nat) (w : Nat → Nat → Nat) (v : Nat → Nat) (d : Nat) : Nat := if d < v (v 14) then v 14 else dr (w (v 14)) d (v 14) (v (v 14)) 0 cs
theorem dr_lt {w : Nat → Nat} {d at0 cs : Nat} (h : at0 < cs) : ∀ r so i, i + r = cs → dr w d at0 so i r < cs := by
  intro r
  induction r with
  | zero => intro so i hi; exact h
  | succ r ih =>
    intro so i hi
    rw [dr]
    split
    · omega
    · exact ih _ _ (by omega)
theorem drC_lt {cs : Nat} {w : Nat → Nat → Nat} {v : Nat → Nat} (d : Nat) (h : v 14 < cs) : drC cs w v d < cs := by
  unfold drC
  split
  · exact h
  · exact dr_lt h cs _ 0 (by omega)
theorem J_i32 {n : Nat} (h : n < 2 ^ 31) : (J n).toInt32 = nI n := by
  apply Int32.toInt_inj.1
  rw [Int64.toInt_toInt32, J_toInt (by omega) (by omega), nI_toInt h, Int.bmod_eq_of_le (by omega) (by omega)]
theorem J_dz {z k : Nat} (hz : z < 10000) (hk : k < 100) : ((((J ((7919 : Nat) : Int) * (nI z).toInt64) + (J ((6151 : Nat) : Int) * (nI k).toInt64)) + J ((1 : Nat) : Int)) * (((J ((7919 : Nat) : Int) * (nI z).toInt64) + (J ((6151 : Nat) : Int) * (nI k).toInt64)) + J ((1 : Nat) : Int)) - (((J ((7919 : Nat) : Int) * (nI z).toInt64) + (J ((6151 : Nat) : Int) * (nI k).toInt64)) + J ((1 : Nat) : Int)) * (((J ((7919 : Nat) : Int) * (nI z).toInt64) + (J ((6151 : Nat) : Int) * (nI k).toInt64)) + J ((1 : Nat) : Int)) / J ((65521 : Nat) : Int) * J ((65521 : Nat) : Int)).toInt32 = nI (Dz z k) := by
  rw [nI_J (by omega), nI_J (by omega), J_mul, J_mul, J_add, J_add, J_mul]
  have e : (((7919 : Nat) : Int) * (z : Int) + ((6151 : Nat) : Int) * (k : Int) + ((1 : Nat) : Int)) * (((7919 : Nat) : Int) * (z : Int) + ((6151 : Nat) : Int) * (k : Int) + ((1 : Nat) : Int)) = (((7919 * z + 6151 * k + 1) * (7919 * z + 6151 * k + 1) : Nat) : Int) := by rw [Int.natCast_mul, Int.natCast_add, Int.natCast_add, Int.natCast_mul, Int.natCast_mul]
  have b : (7919 * z + 6151 * k + 1) * (7919 * z + 6151 * k + 1) ≤ 100000000 * 100000000 := Nat.mul_le_mul (by omega) (by omega)
  have b2 : Dz z k < 65521 := Nat.mod_lt _ (by omega)
  rw [e, J_mdn (by omega) (by omega)]
  exact J_i32 (by unfold Dz at b2; omega)
theorem pX7_draw {z k : Nat} (hz : z < 10000) (hk : k < 100) (M : rm_M) : fX7_draw (nI z) (nI k) M = some (nI (Dz z k), M) := by
  unfold fX7_draw
  rw [rm_lt1, J_lit 7919, J_lit 6151, J_lit 1, J_lit 65521, if_neg (J_ne0 (by omega) (by omega) (by omega)), J_dz hz hk]
theorem pX4_drawnCell {M : rm_M} {s n cs D : Nat} {w : Nat → Nat → Nat} {v : Nat → Nat} (hW : WN cs w) (hS : SV M s v) (hV : WV cs v) (hN : CN M n cs w) (hD : D < 2 ^ 31) (h0 : 0 < ou cs w (v 14) + v (v 14)) : fX4_drawnCell s n (nI D) M = some (nI (drC cs w v (D % (ou cs w (v 14) + v (v 14)))), M) := by
  have hF := pn_F
  have h2 := hW.2.1
  have b14 := hV.2.2.2.2.2.1
  have e4 : M.1 s 4 = nI (v 14) := hS.2.2 4 (by omega) (by omega)
  have hva := (hV.2.1 (v 14) (by omega)).1
  have ho := ou_le hW b14
  have hib : rm_ib (nI (v 14)) 6 = true := by rw [pn_ib (by omega), decide_eq_true_eq]; omega
  have hm := Nat.mod_lt D h0
  have key : ∀ r f so i, i + r = cs → r < f → so + 4 * r < 1000 → fX4_drawnCell_L59 s n (nI D) f (nI (D % (ou cs w (v 14) + v (v 14)))) (nI so) (nI i) M = some (nI (dr (w (v 14)) (D % (ou cs w (v 14) + v (v 14))) (v 14) so i r), M) := by
    intro r
    induction r with
    | zero =>
      intro f so i hi hf hb
      obtain ⟨f, rfl⟩ : ∃ z, f = z + 1 := ⟨f - 1, by omega⟩
      rw [fX4_drawnCell_L59, hN.1, if_pos (by rw [nI_leI (by omega) (by omega)]; omega), e4, dr]
    | succ r ih =>
      intro f so i hi hf hb
      obtain ⟨f, rfl⟩ : ∃ z, f = z + 1 := ⟨f - 1, by omega⟩
      have hw4 := hW.2.2.1 (v 14) i
      rw [fX4_drawnCell_L59, hN.1, if_neg (by rw [nI_leI (by omega) (by omega)]; omega), e4, if_pos hib, if_pos (by rw [pn_ib (by omega), decide_eq_true_eq]; omega), rm_lt1, nI_clamp (by omega), nI_clamp (by omega), hN.2.1 (v 14) i (by omega) (by omega), nI_add, dr]
      by_cases c : D % (ou cs w (v 14) + v (v 14)) < so + w (v 14) i
      · rw [if_neg (by rw [nI_leI (by omega) (by omega)]; omega), if_pos c]
      · rw [if_pos (by rw [nI_leI (by omega) (by omega)]; omega), if_neg c, pn_lit 1, nI_add, ih f _ _ (by omega) (by omega) (by omega)]
  unfold fX4_drawnCell
  rw [e4, if_pos hib, if_pos hib, nI_clamp (by omega), hS.1 (v 14) (by omega), hN.2.2 (v 14) b14, nI_add, rm_lt1, pn_lit 0, if_neg (by rw [nI_leI (by omega) (by omega)]; omega), if_neg (by rw [nI_eq (by omega) (by omega)]; omega), Nat.add_comm (v (v 14)), pk_rem hD h0 (by omega)]
  unfold fX4_drawnCell_L31 drC
  rw [e4, if_pos hib, nI_clamp (by omega), rm_lt1, hS.1 (v 14) (by omega)]
  by_cases c : D % (ou cs w (v 14) + v (v 14)) < v (v 14)
  · rw [if_neg (by rw [nI_leI (by omega) (by omega)]; omega), if_pos c]
  · rw [if_pos (by rw [nI_leI (by omega) (by omega)]; omega), if_neg c, pn_lit 0, key cs rm_F (v (v 14)) 0 (by omega) (by omega) (by omega)]
theorem ou_pos {cs : Nat} {w : Nat → Nat → Nat} (h : WN cs w) {c : Nat} (hc : c < cs) : 0 < ou cs w c := by
  have h1 := h.1
  obtain ⟨b, hb, hw, _⟩ := nearer h (p := if c = 0 then 1 else 0) (c := c) (by split <;> omega) hc (by split <;> omega)
  unfold ou
  have key : ∀ d i, i ≤ b → b < i + d → 0 < rs (w c) i d := by
    intro d
    induction d with
    | zero => intro i h1 h2; omega
    | succ d ih =>
      intro i h1 h2
      rw [rs]
      by_cases e : b = i
      · subst e; omega
      · have := ih (i + 1) (by omega) (by omega); omega
  exact key cs 0 (by omega) (by omega)
theorem pX8_walk_L136 {cs : Nat} {w : Nat → Nat → Nat} (hW : WN cs w) {M : rm_M} (hM : MW M cs w) {at0 d : Nat} (ha : at0 < cs) (hd : d < 1000) (a1 a2 a3 : Int32) (q68 : Int32 → Int32 → rm_M → Option (Int32 × rm_M)) (x4 x5 : Int32) : ∀ r f so i to, i + r = cs → r < f → so ≤ d → d < so + rs (w at0) i r → to < 10 →
    fX8_walk_L136 a1 a2 a3 q68 f x4 x5 (nI at0) (nI d) (nI to) (nI so) (nI i) M = fX8_walk_L201 a1 a2 a3 q68 x4 x5 (nI at0) (nI (dr (w at0) d at0 so i r)) M := by
  have h2 := hW.2.1
  intro r
  induction r with
  | zero => intro f so i to hi hf h1 h3; rw [rs] at h3; omega
  | succ r ih =>
    intro f so i to hi hf h1 h3 hto
    obtain ⟨f, rfl⟩ : ∃ z, f = z + 1 := ⟨f - 1, by omega⟩
    have hw4 := hW.2.2.1 at0 i
    have hib : rm_ib (nI 6 * nI at0 + nI i) 36 = true := by rw [pk_mul, nI_add, pn_ib (by omega), decide_eq_true_eq]; omega
    have hcl : (nI 6 * nI at0 + nI i).toNatClampNeg = 6 * at0 + i := by rw [pk_mul, nI_add, nI_clamp (by omega)]
    rw [rs] at h3
    rw [fX8_walk_L136, hM.1, if_neg (by rw [nI_leI (by omega) (by omega)]; omega), if_neg (by rw [nI_ltI (by omega) (by omega)]; omega), pn_lit 6, pn_lit 0, if_pos hib, rm_lt1, if_pos hib, hcl, hM.2 at0 i (by omega) (by omega), nI_add, dr]
    by_cases c : d < so + w at0 i
    · rw [if_pos c, if_neg (by rw [nI_leI (by omega) (by omega)]; omega)]
      unfold fX8_walk_L193
      obtain ⟨f, rfl⟩ : ∃ z, f = z + 1 := ⟨f - 1, by omega⟩
      rw [pn_lit 1, nI_add, fX8_walk_L136, hM.1]
      by_cases c2 : cs ≤ i + 1
      · rw [if_pos (by rw [nI_leI (by omega) (by omega)]; exact c2)]
      · rw [if_neg (by rw [nI_leI (by omega) (by omega)]; exact c2), if_pos (by rw [nI_ltI (by omega) (by omega)]; exact c)]
    · rw [if_neg c]
      by_cases c2 : w at0 i ≤ 0
      · rw [if_pos (by rw [nI_leI (by omega) (by omega)]; exact c2)]
        unfold fX8_walk_L193
        rw [pn_lit 1, nI_add, ih f _ _ _ (by omega) (by omega) (by omega) (by omega) hto]
      · rw [if_neg (by rw [nI_leI (by omega) (by omega)]; exact c2)]
        unfold fX8_walk_L193
        rw [pn_lit 1, nI_add, ih f _ _ _ (by omega) (by omega) (by omega) (by omega) (by omega)]
/-- a walk: what it comes to, updates, moves -/
def wc (cs : Nat) (w : Nat → Nat → Nat) (z k : Nat) (u : Nat → Nat) : Nat := drC cs w u (Dz z k % (ou cs w (u 14) + u (u 14)))
def wrun (cs : Nat) (w : Nat → Nat → Nat) (z : Nat) : Nat → Nat → (Nat → Nat) → Nat → Nat → (Nat → Nat) × Nat × Nat
  | 0, _, u, up, mv => (u, up, mv)
  | d + 1, k, u, up, mv => wrun cs w z d (k + 1) (goV (fw w cs) (wc cs w z k u) u) (up + if due (fw w cs) (mv1 (wc cs w z k u) u) = true then 1 else 0) (mv + if wc cs w z k u = u 14 then 0 else 1)
def wres (a : Int32) (r : (Nat → Nat) × Nat × Nat) : Int32 := if a = nI 0 then nI (r.1 14) else if a = nI 1 then nI r.2.1 else nI r.2.2
/-- what a walker keeps to -/
def WB (cs b : Nat) (v u : Nat → Nat) : Prop := WV cs u ∧ u 16 ≤ b ∧ u 17 ≤ b ∧ u 18 ≤ b ∧ ∀ k, k < 14 → u k = v k
theorem goV_lo {ds : Nat → Nat → Nat} {c k : Nat} {u : Nat → Nat} (h : k < 14) : goV ds c u k = u k := by
  unfold goV
  split
  · rw [reg_lo (by omega), vu_ne _ _ (by omega), mv1_lo h]
  · rw [mv1_lo h]
theorem goV_18 {ds : Nat → Nat → Nat} {c : Nat} {u : Nat → Nat} : goV ds c u 18 = u 18 + if due ds (mv1 c u) = true then 1 else 0 := by
  unfold goV
  split
  · rw [reg_hi (by omega), vu_eq]
  · rw [mv1_18 (by omega)]; rfl
theorem WB.go {cs b c : Nat} {v u : Nat → Nat} {ds : Nat → Nat → Nat} (h : WB cs b v u) (hcs : cs ≤ 6) (hb : b < 100000) (hc : c < cs) : WB cs (b + 1) v (goV ds c u) := by
  obtain ⟨h1, h2, h3, h4, h5⟩ := h
  have hm := h1.mv1 hc hcs (by omega) (by omega)
  refine ⟨?_, ?_, ?_, ?_, fun k hk => by rw [goV_lo hk]; exact h5 k hk⟩
  · unfold goV
    split
    · exact (hm.vu18 (by omega) (by omega)).reg hcs
    · exact hm
  · unfold goV
    split
    · rw [reg_16]; omega
    · rw [mv1_16]; split <;> omega
  · unfold goV
    split
    · rw [reg_17]; omega
    · rw [mv1_17]; omega
  · rw [goV_18]; split <;> omega
theorem pX7_walk_L53 {cs n z nn : Nat} {w : Nat → Nat → Nat} {v : Nat → Nat} (hW : WN cs w) (hn : n = 14 ∨ n = 33) (hz : z < 10000) (hnn : nn ≤ 60) (a3 : Int32) : ∀ d f k u up mv b M, k + d = nn → d < f → b + d < 100000 → M.2.2 6 = n → CN M n cs w → CD M n cs (fw w cs) → SV M 52 u → WB cs b v u →
    ∃ M2, fX7_walk_L53 (nI z) (nI nn) a3 f (nI up) (nI mv) (nI k) M = some (wres a3 (wrun cs w z d k u up mv), M2) ∧ FR (fun q => q = 52) M M2 := by
  have h2 := hW.2.1
  have kn := pn_net hn
  intro d
  induction d with
  | zero =>
    intro f k u up mv b M hi hf hb h6 hN hD hS hB
    obtain ⟨f, rfl⟩ : ∃ z, f = z + 1 := ⟨f - 1, by omega⟩
    have e4 : M.1 52 4 = nI (u 14) := hS.2.2 4 (by omega) (by omega)
    refine ⟨M, ?_, FR.rf⟩
    rw [fX7_walk_L53, if_pos (by rw [nI_leI (by omega) (by omega)]; omega), pn_lit 0, pn_lit 1, e4, wrun]
    unfold wres
    by_cases c0 : a3 = nI 0
    · rw [if_pos c0, if_pos c0]
    · rw [if_neg c0, if_neg c0]
      by_cases c1 : a3 = nI 1
      · rw [if_pos c1, if_pos c1]
      · rw [if_neg c1, if_neg c1]
  | succ d ih =>
    intro f k u up mv b M hi hf hb h6 hN hD hS hB
    obtain ⟨f, rfl⟩ : ∃ z, f = z + 1 := ⟨f - 1, by omega⟩
    have e4 : M.1 52 4 = nI (u 14) := hS.2.2 4 (by omega) (by omega)
    have b14 := hB.1.2.2.2.2.2.1
    have op := ou_pos hW b14
    have hDz : Dz z k < 65521 := Nat.mod_lt _ (by omega)
    have hcl : wc cs w z k u < cs := drC_lt _ b14
    have hdc := pX4_drawnCell hW hS hB.1 hN (show Dz z k < 2 ^ 31 by omega) (by omega)
    obtain ⟨g1, g2, g3, g4, g5⟩ := hB
    have hds : ∀ a b, a < cs → b < cs → fw w cs a b < 2 ^ 31 := fun a b ha hb => by have := hW.2.2.2.2.2 a b ha hb; omega
    obtain ⟨M2, f2, s2, r2⟩ := pX4_go (c := wc cs w z k u) hS g1 h2 hcl (by omega) (by omega) (by omega) (by omega) hD hds
    have hN2 := hN.fr h2 r2 (fun a ha hb => by omega)
    have hD2 : CD M2 n cs (fw w cs) := fun a b ha hb => by rw [(r2.1 _ (by omega)).1]; exact hD a b ha hb
    have step : ∀ mv2, mv2 = mv + (if wc cs w z k u = u 14 then 0 else 1) → ∃ M2, fX7_walk_L93 (nI z) (nI nn) a3 (fX7_walk_L53 (nI z) (nI nn) a3 f) (nI up) (nI mv2) (nI k) (nI (wc cs w z k u)) M = some (wres a3 (wrun cs w z (d + 1) k u up mv), M2) ∧ FR (fun q => q = 52) M M2 := by
      intro mv2 hmv
      have hB2 : WB cs (b + 1) v (goV (fw w cs) (wc cs w z k u) u) := WB.go ⟨g1, g2, g3, g4, g5⟩ h2 (by omega) hcl
      have h62 : M2.2.2 6 = n := by rw [r2.2]; exact h6
      obtain ⟨M3, f3, r3⟩ := ih f (k + 1) _ (up + if due (fw w cs) (mv1 (wc cs w z k u) u) = true then 1 else 0) mv2 (b + 1) M2 (by omega) (by omega) (by omega) h62 hN2 hD2 s2 hB2
      refine ⟨M3, ?_, r2.tr r3⟩
      unfold fX7_walk_L93 fX7_walk_L112
      rw [rm_lt1, h6, if_pos kn, f2, pn_bd, pn_lit 0, pn_lit 1, nI_add, nI_add, wrun, ← hmv, ← f3]
      by_cases c : due (fw w cs) (mv1 (wc cs w z k u) u) = true
      · rw [if_pos c, if_neg z10]
      · rw [if_neg c, if_pos rfl]; rfl
    rw [fX7_walk_L53, if_neg (by rw [nI_leI (by omega) (by omega)]; omega), rm_lt1, h6, if_pos kn, pX7_draw hz (by omega), pn_bd, hdc, pn_bd, e4, pn_lit 1, nI_add]
    show ∃ M2, (if nI (wc cs w z k u) = nI (u 14) then fX7_walk_L93 (nI z) (nI nn) a3 (fX7_walk_L53 (nI z) (nI nn) a3 f) (nI up) (nI mv) (nI k) (nI (wc cs w z k u)) M else fX7_walk_L93 (nI z) (nI nn) a3 (fX7_walk_L53 (nI z) (nI nn) a3 f) (nI up) (nI (mv + 1)) (nI k) (nI (wc cs w z k u)) M) = _ ∧ _
    by_cases c : wc cs w z k u = u 14
    · rw [if_pos (by rw [c])]
      exact step mv (by rw [if_pos c]; rfl)
    · rw [if_neg (by rw [nI_eq (by omega) (by omega)]; exact c)]
      exact step (mv + 1) (by rw [if_neg c])
theorem kd95 : (rm_kd 95).2 = 20 := rfl
theorem pX8_walk_L68 {cs z nn : Nat} {w : Nat → Nat → Nat} {v : Nat → Nat} (hW : WN cs w) (hv : WV cs v) (hz : z < 10000) (hnn : nn ≤ 60) (a3 : Int32) : ∀ d f k u up mv b M, k + d = nn → d < f → b + d < 100000 → MW M cs w → MV M 83 v → MV M 95 u → WB cs b v u → u 18 = v 18 + up →
    ∃ M2, fX8_walk_L68 (nI z) (nI nn) a3 f (nI mv) (nI k) M = some (wres a3 (wrun cs w z d k u up mv), M2) ∧ FR (fun q => q = 95) M M2 := by
  have hF := pn_F
  have h2 := hW.2.1
  intro d
  induction d with
  | zero =>
    intro f k u up mv b M hi hf hb hM hV hU hB hu
    obtain ⟨f, rfl⟩ : ∃ z, f = z + 1 := ⟨f - 1, by omega⟩
    have b18 := hB.2.2.2.1
    have e14 : M.1 95 (nI 14).toNatClampNeg = nI (u 14) := by rw [nI_clamp (by omega)]; exact hU 14 (by omega)
    have e18 : M.1 95 (nI 18).toNatClampNeg = nI (u 18) := by rw [nI_clamp (by omega)]; exact hU 18 (by omega)
    have f18 : M.1 83 (nI 18).toNatClampNeg = nI (v 18) := by rw [nI_clamp (by omega)]; exact hV 18 (by omega)
    refine ⟨M, ?_, FR.rf⟩
    rw [fX8_walk_L68, if_pos (by rw [nI_leI (by omega) (by omega)]; omega), pn_lit 0, pn_lit 1, pn_lit 14, pn_lit 18, e14, e18, f18, wrun]
    unfold wres
    by_cases c0 : a3 = nI 0
    · rw [if_pos c0, if_pos (by decide), if_pos c0]
    · rw [if_neg c0, if_neg c0]
      by_cases c1 : a3 = nI 1
      · rw [if_pos c1, if_pos (by decide), if_pos (by decide), if_pos c1, pk_sub (by omega), hu, Nat.add_sub_cancel_left]
      · rw [if_neg c1, if_neg c1]
  | succ d ih =>
    intro f k u up mv b M hi hf hb hM hV hU hB hu
    obtain ⟨f, rfl⟩ : ∃ z, f = z + 1 := ⟨f - 1, by omega⟩
    have b14 := hB.1.2.2.2.2.2.1
    have op := ou_pos hW b14
    have ho := ou_le hW b14
    have hDz : Dz z k < 65521 := Nat.mod_lt _ (by omega)
    have hcl : wc cs w z k u < cs := drC_lt _ b14
    obtain ⟨g1, g2, g3, g4, g5⟩ := hB
    have hva := (g1.2.1 (u 14) (by omega)).1
    have eua : v (u 14) = u (u 14) := (g5 (u 14) (by omega)).symm
    have hds : ∀ a b, a < cs → b < cs → fw w cs a b < 2 ^ 31 := fun a b ha hb => by have := hW.2.2.2.2.2 a b ha hb; omega
    obtain ⟨M2, f2, s2, r2⟩ := pX8_goes (c := wc cs w z k u) (v := v) kd95 (by omega) (by omega) hU (Or.inr hV) g5 g1 h2 hcl (by omega) (by omega) (fun M' e1 e2 a b ha hb => by
      have hMW : MW M' cs w := ⟨by rw [e1]; exact hM.1, fun a b ha hb => by rw [e2]; exact hM.2 a b ha hb⟩
      rw [pX8_far hMW h2 hW.lt ha hb (hW.2.2.2.2.2 a b ha hb), fw_sym hW.2.2.2.2.1 cs a b]) hds
    have hB2 : WB cs (b + 1) v (goV (fw w cs) (wc cs w z k u) u) := WB.go ⟨g1, g2, g3, g4, g5⟩ h2 (by omega) hcl
    have step : fX8_walk_L201 (nI z) (nI nn) a3 (fX8_walk_L68 (nI z) (nI nn) a3 f) (nI mv) (nI k) (nI (u 14)) (nI (wc cs w z k u)) M = fX8_walk_L68 (nI z) (nI nn) a3 f (nI (mv + if wc cs w z k u = u 14 then 0 else 1)) (nI (k + 1)) M2 := by
      unfold fX8_walk_L201 fX8_walk_L215
      rw [rm_lt1, rm_lt1, f2, pn_bd, pn_lit 0, pn_lit 1, nI_add, nI_add, nI_add]
      by_cases c : wc cs w z k u = u 14
      · rw [if_pos (by rw [c]), if_pos c]
      · rw [if_neg (by rw [nI_eq (by omega) (by omega)]; exact c), if_neg c, pn_bd]
    obtain ⟨M3, f3, r3⟩ := ih f (k + 1) _ (up + if due (fw w cs) (mv1 (wc cs w z k u) u) = true then 1 else 0) (mv + if wc cs w z k u = u 14 then 0 else 1) (b + 1) M2 (by omega) (by omega) (by omega) (hM.fr r2 (by omega) (by omega)) (hV.fr r2 (by omega)) s2 hB2 (by rw [goV_18, hu, Nat.add_assoc])
    refine ⟨M3, ?_, r2.tr r3⟩
    have e14 : M.1 95 (nI 14).toNatClampNeg = nI (u 14) := by rw [nI_clamp (by omega)]; exact hU 14 (by omega)
    have hm := Nat.mod_lt (Dz z k) (show 0 < ou cs w (u 14) + u (u 14) by omega)
    have hm2 : Dz z k % (ou cs w (u 14) + u (u 14)) < u (u 14) + rs (w (u 14)) 0 cs := by show _ < u (u 14) + ou cs w (u 14); omega
    rw [fX8_walk_L68, if_neg (by rw [nI_leI (by omega) (by omega)]; omega), rm_lt1, J_lit 7919, J_lit 6151, J_lit 1, J_lit 65521, pn_lit 14, pn_lit 0, if_pos (by decide), rm_lt1, e14, if_neg (J_ne0 (by omega) (by omega) (by omega)), pX8_sum hM hV h2 (by omega), pn_bd, eua, if_neg (by rw [nI_eq (by omega) (by omega)]; omega), rm_lt1, J_dz hz (by omega), pk_rem (by omega) (by omega) (by omega), if_pos (by rw [pn_ib (by omega), decide_eq_true_eq]; omega), rm_lt1, nI_clamp (by omega), hV (u 14) (by omega), eua]
    rw [wrun, ← f3, ← step]
    by_cases c : Dz z k % (ou cs w (u 14) + u (u 14)) < u (u 14)
    · obtain ⟨g, hg⟩ : ∃ g, rm_F = g + 1 := ⟨rm_F - 1, by omega⟩
      have ewc : wc cs w z k u = u 14 := by unfold wc drC; rw [if_pos c]
      have goal : ∀ F, F = g + 1 → fX8_walk_L136 (nI z) (nI nn) a3 (fX8_walk_L68 (nI z) (nI nn) a3 f) F (nI mv) (nI k) (nI (u 14)) (nI (Dz z k % (ou cs w (u 14) + u (u 14)))) (nI (u 14)) (nI (u (u 14))) (nI 0) M = fX8_walk_L201 (nI z) (nI nn) a3 (fX8_walk_L68 (nI z) (nI nn) a3 f) (nI mv) (nI k) (nI (u 14)) (nI (wc cs w z k u)) M := by
        intro F e
        subst e
        rw [fX8_walk_L136, hM.1, if_neg (by rw [nI_leI (by omega) (by omega)]; omega), if_pos (by rw [nI_ltI (by omega) (by omega)]; exact c), ewc]
      exact goal rm_F hg
    · rw [pX8_walk_L136 hW hM b14 (by omega) (nI z) (nI nn) a3 _ (nI mv) (nI k) cs rm_F (u (u 14)) 0 (u 14) (by omega) (by omega) (by omega) hm2 (by omega)]
      have ewc : dr (w (u 14)) (Dz z k % (ou cs w (u 14) + u (u 14))) (u 14) (u (u 14)) 0 cs = wc cs w z k u := by unfold wc drC; rw [if_neg c]
      rw [ewc]
theorem pX8_walk_L35 (a1 a2 a3 : Int32) {v : Nat → Nat} : ∀ d f i M, i + d = 20 → d < f → MV M 83 v → (∀ k, k < i → M.1 95 k = nI (v k)) → ∃ M2, fX8_walk_L35 a1 a2 a3 f (nI i) M = fX8_walk_L68 a1 a2 a3 rm_F (nI 0) (nI 0) M2 ∧ MV M2 95 v ∧ FR (fun q => q = 95) M M2 := by
  intro d
  induction d with
  | zero =>
    intro f i M hi hf hV h0
    obtain ⟨f, rfl⟩ : ∃ z, f = z + 1 := ⟨f - 1, by omega⟩
    refine ⟨M, ?_, fun k hk => h0 k (by omega), FR.rf⟩
    rw [fX8_walk_L35, pn_lit 20, pn_lit 0, if_pos (by rw [nI_leI (by omega) (by omega)]; omega)]
  | succ d ih =>
    intro f i M hi hf hV h0
    obtain ⟨f, rfl⟩ : ∃ z, f = z + 1 := ⟨f - 1, by omega⟩
    have hib : rm_ib (nI i) 20 = true := by rw [pn_ib (by omega), decide_eq_true_eq]; omega
    obtain ⟨M2, f2, v2, r2⟩ := ih f (i + 1) (rm_sI M 95 i (nI (v i))) (by omega) (by omega) (fun k hk => by rw [pn_sI_ne _ _ _ (by omega)]; exact hV k hk) (fun k hk => by
      rw [pn_sI_eq]
      by_cases e : k = i
      · subst e; rw [pn_upd_eq]
      · rw [pn_upd_ne _ _ e]; exact h0 k (by omega))
    refine ⟨M2, ?_, v2, FR.tr (S := fun q => q = 95) (FR.sI rfl) r2⟩
    rw [fX8_walk_L35, pn_lit 20, if_neg (by rw [nI_leI (by omega) (by omega)]; omega), if_pos hib, if_pos hib, rm_lt1, nI_clamp (by omega), hV i (by omega), pn_lit 1, nI_add, f2]
theorem natBt (a : Int32) {lo hi : Nat} (h1 : lo ≤ hi) (h2 : hi + 1 < 2 ^ 31) : (∃ k, lo ≤ k ∧ k ≤ hi ∧ a = nI k) ∨ (a < nI lo ∨ nI (hi + 1) ≤ a) := by
  by_cases c : a < nI lo
  · exact Or.inr (Or.inl c)
  · by_cases c2 : nI (hi + 1) ≤ a
    · exact Or.inr (Or.inr c2)
    · rw [pn_ltT, nI_toInt (by omega)] at c
      rw [pn_leT, nI_toInt (by omega)] at c2
      refine Or.inl ⟨a.toInt.toNat, by omega, by omega, ?_⟩
      apply Int32.toInt_inj.1
      rw [nI_toInt (by omega)]
      omega
theorem noLt {a : Int32} {lo hi : Nat} (h : a < nI lo ∨ nI (hi + 1) ≤ a) (h2 : hi + 1 < 2 ^ 31) : a < nI lo ∨ nI hi < a := by
  rcases h with q | q
  · exact Or.inl q
  · right; rw [pn_leT, nI_toInt (by omega)] at q; rw [pn_ltT, nI_toInt (by omega)]; omega
theorem op_walk {t : Nat} {M : rm_M} (h : Inv t M) (ht : t < 1000) (a b c : Int32) : ∃ r M1 M2, fX7_walk a b c M = some (r, M1) ∧ fX8_walk a b c M1 = some (r, M2) ∧ Inv (t + 1) M2 := by
  have hF := pn_F
  have hi := h
  have h0 := h.ro FR.rf (fun a (ha : False) => ha.elim)
  obtain ⟨n, s, tl, tx, cs, jn, w, pr, v, hc, nx, hv, hC, hM, hA⟩ := h
  have hn := hC.1.1
  have hs := hC.1.2.1
  have p6 := hC.1.2.2.1
  have p7 := hC.1.2.2.2.1
  have ks := pn_sta (s := s) (by omega)
  have hW := hA.2.2.1
  have h2 := hW.2.1
  have hG := hA.2.2.2.2.2.2.1
  unfold fX7_walk fX8_walk
  rw [pn_lit 0, pn_lit 9999, pn_lit 1, pn_lit 60, pn_lit 2]
  rcases natBt a (lo := 0) (hi := 9999) (by omega) (by omega) with ⟨z, hz1, hz2, rfl⟩ | hno
  · rw [if_neg (by rw [nI_ltI (by omega) (by omega)]; omega), if_neg (by rw [nI_ltI (by omega) (by omega)]; omega)]
    rcases natBt b (lo := 1) (hi := 60) (by omega) (by omega) with ⟨nn, hn1, hn2, rfl⟩ | hno
    · rw [if_neg (by rw [nI_ltI (by omega) (by omega)]; omega), if_neg (by rw [nI_ltI (by omega) (by omega)]; omega)]
      rcases natBt c (lo := 0) (hi := 2) (by omega) (by omega) with ⟨x, hx1, hx2, rfl⟩ | hno
      · rw [if_neg (by rw [nI_ltI (by omega) (by omega)]; omega), if_pos (by rw [nI_leI (by omega) (by omega)]; omega), rm_lt1, p7, if_pos ks]
        obtain ⟨M1, f1, s1, r1⟩ := pX4_copyFrom (a0 := 52) hC.2.2.2.1 (by omega)
        have hWB : WB cs t v v := ⟨hG.1, hG.2.1, hG.2.2.1, hG.2.2.2.1, fun k hk => rfl⟩
        have hN1 := hC.2.2.1.1.fr h2 r1 (fun a ha hb => by omega)
        have hD1 : CD M1 n cs (fw w cs) := fun a b ha hb => by rw [(r1.1 _ (by omega)).1]; exact hC.2.2.1.2.2.2.1 a b ha hb
        obtain ⟨M2, f2, r2⟩ := pX7_walk_L53 (v := v) hW hn (show z < 10000 by omega) hn2 (nI x) nn rm_F 0 v 0 0 t M1 (by omega) (by omega) (by omega) (by rw [r1.2]; exact p6) hN1 hD1 s1 hWB
        have r12 : FR (fun q => 52 ≤ q ∧ q < 55) M M2 := (r1.mono (fun a ha => by omega)).tr (r2.mono (fun a ha => by omega))
        have hM2 := hM.fr2 r12 (fun a ha => by omega)
        obtain ⟨M3, f3, v3, r3⟩ := pX8_walk_L35 (nI z) (nI nn) (nI x) 20 rm_F 0 M2 (by omega) (by omega) hM2.2.2.2.2.2.1 (fun k hk => by omega)
        obtain ⟨M4, f4, r4⟩ := pX8_walk_L68 hW hG.1 (show z < 10000 by omega) hn2 (nI x) nn rm_F 0 v 0 0 t M3 (by omega) (by omega) (by omega) (hM2.2.2.1.fr r3 (by omega) (by omega)) (hM2.2.2.2.2.2.1.fr r3 (by omega)) v3 hWB rfl
        refine ⟨wres (nI x) (wrun cs w z nn 0 v 0 0), M2, M4, ?_, ?_, hi.ro (S := fun q => 52 ≤ q ∧ q < 55 ∨ q = 95) ((r12.mono (fun a ha => Or.inl ha)).tr (((r3.tr r4)).mono (fun a ha => Or.inr ha))) (fun a ha => ⟨by unfold scr; omega, by omega⟩)⟩
        · rw [f1, pn_bv, f2]
        · rw [pX8_isIn_yes (by omega) (by omega) (by omega), pn_bd, if_neg z10, pX8_isIn_yes (by omega) (by omega) (by omega), pn_bd, if_neg z10, pX8_isIn_yes (by omega) (by omega) (by omega), pn_bd, if_neg z10, f3, f4]
      · refine ⟨(-1 : Int32), M, M, ?_, ?_, h0⟩
        · by_cases c0 : c < nI 0
          · rw [if_pos c0]; rfl
          · rw [if_neg c0, if_neg]
            · rfl
            · have := (noLt hno (by omega)).resolve_left c0
              rw [pn_ltT] at this
              rw [pn_leT]
              omega
        · rw [pX8_isIn_yes (by omega) (by omega) (by omega), pn_bd, if_neg z10, pX8_isIn_yes (by omega) (by omega) (by omega), pn_bd, if_neg z10, pX8_isIn_no hno (by omega), pn_bd, if_pos rfl]
          rfl
    · refine ⟨(-1 : Int32), M, M, ?_, ?_, h0⟩
      · by_cases c0 : b < nI 1
        · rw [if_pos c0]; rfl
        · rw [if_neg c0, if_pos ((noLt hno (by omega)).resolve_left c0)]; rfl
      · rw [pX8_isIn_yes (by omega) (by omega) (by omega), pn_bd, if_neg z10, pX8_isIn_no hno (by omega), pn_bd, if_pos rfl]
        rfl
  · refine ⟨(-1 : Int32), M, M, ?_, ?_, h0⟩
    · by_cases c0 : a < nI 0
      · rw [if_pos c0]; rfl
      · rw [if_neg c0, if_pos ((noLt hno (by omega)).resolve_left c0)]; rfl
    · rw [pX8_isIn_no hno (by omega), pn_bd, if_pos rfl]
      rfl
