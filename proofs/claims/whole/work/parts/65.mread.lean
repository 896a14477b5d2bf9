/-! ===== reading, the model ===== -/
def MX (M : rm_M) (tl : Nat) (tx : Nat → Nat) : Prop := M.1 79 0 = nI tl ∧ ∀ k, k < tl → M.1 80 k = nI (tx k)
def mF (M M2 : rm_M) : Prop := (∀ k, k ≠ 9 → k ≠ 10 → k ≠ 14 → k ≠ 15 → M2.1 79 k = M.1 79 k) ∧ FR (fun q => q = 79 ∨ (85 ≤ q ∧ q ≤ 87)) M M2
theorem mF.rf {M : rm_M} : mF M M := ⟨fun _ _ _ _ _ => rfl, FR.rf⟩
theorem mF.tr {M M2 M3 : rm_M} (h : mF M M2) (h2 : mF M2 M3) : mF M M3 := ⟨fun k a b c d => by rw [h2.1 k a b c d, h.1 k a b c d], h.2.tr h2.2⟩
theorem MX.fr {M M2 : rm_M} {tl : Nat} {tx : Nat → Nat} (h : MX M tl tx) (hF : mF M M2) : MX M2 tl tx := ⟨by rw [hF.1 0 (by omega) (by omega) (by omega) (by omega)]; exact h.1, fun k hk => by rw [(hF.2.1 80 (by omega)).1]; exact h.2 k hk⟩
/-- only value and ends are others -/
def nF (M M2 : rm_M) : Prop := (∀ k, k ≠ 14 → k ≠ 15 → M2.1 79 k = M.1 79 k) ∧ FR (fun q => q = 79) M M2
theorem nF.rf {M : rm_M} : nF M M := ⟨fun _ _ _ => rfl, FR.rf⟩
theorem nF.tr {M M2 M3 : rm_M} (h : nF M M2) (h2 : nF M2 M3) : nF M M3 := ⟨fun k a b => by rw [h2.1 k a b, h.1 k a b], h.2.tr h2.2⟩
theorem nF.m {M M2 : rm_M} (h : nF M M2) : mF M M2 := ⟨fun k a b c d => h.1 k c d, h.2.mono (fun a ha => Or.inl ha)⟩
theorem pX8_letterAt {M : rm_M} {tl q : Nat} {tx : Nat → Nat} (hT : MX M tl tx) (hB : TB tl tx) (hq : q < 300) : fX8_letterAt (nI q) M = some (if q < tl then nI (tx q) else nI 0, M) := by
  have b := hB.1
  unfold fX8_letterAt
  rw [hT.1]
  by_cases c : q < tl
  · rw [if_neg (by rw [nI_leI (by omega) (by omega)]; omega), if_pos (by rw [pn_ib (by omega), decide_eq_true_eq]; omega), nI_clamp (by omega), hT.2 q c, if_pos c]
  · rw [if_pos (by rw [nI_leI (by omega) (by omega)]; omega), if_neg c]; rfl
theorem pX8_number_L83 {M : rm_M} {p e x lo hi : Nat} (h15 : M.1 79 15 = nI e) (h14 : M.1 79 14 = nI x) (hp : p < 1000) (he : e < 1000) (hx : x < 1000) (hl : lo < 1000) (hh : hi < 1000) : fX8_number_L83 (nI p) (nI lo) (nI hi) M = some (nI (if p < e ∧ lo ≤ x ∧ x ≤ hi then 1 else 0), M) := by
  unfold fX8_number_L83
  rw [h15, h14, pn_lit 0]
  by_cases c : p < e
  · rw [if_neg (by rw [nI_leI (by omega) (by omega)]; omega)]
    by_cases c2 : lo ≤ x ∧ x ≤ hi
    · rw [pX8_isIn_yes c2.1 c2.2 (by omega), pn_bd, if_neg z10, if_pos ⟨c, c2⟩]; rfl
    · rw [pX8_isIn_no (lo := lo) (hi := hi) (by rw [nI_ltI (by omega) (by omega), nI_leI (by omega) (by omega)]; omega) (by omega), pn_bd, if_pos rfl, if_neg (fun q => c2 q.2)]; rfl
  · rw [if_pos (by rw [nI_leI (by omega) (by omega)]; omega), if_neg (fun q => c q.1)]; rfl
theorem pX8_number {M : rm_M} {tl p lo hi : Nat} {tx : Nat → Nat} (hT : MX M tl tx) (hB : TB tl tx) (hp : p ≤ 210) (hl : lo < 1000) (hh : hi < 1000) : ∃ M2, fX8_number (nI p) (nI lo) (nI hi) M = some (nI (if fgB tl tx p = true ∧ lo ≤ nV tl tx p ∧ nV tl tx p ≤ hi then 1 else 0), M2) ∧ M2.1 79 14 = nI (nV tl tx p) ∧ M2.1 79 15 = nI (nE tl tx p) ∧ nF M M2 := by
  have hF := pn_F
  have b := hB.1
  have stepNo : ∀ M' f e x, MX M' tl tx → M'.1 79 15 = nI e → M'.1 79 14 = nI x → e < p + 2 → ¬ fgB tl tx e = true → fX8_number_L10 (nI p) (nI lo) (nI hi) (f + 1) M' = fX8_number_L83 (nI p) (nI lo) (nI hi) M' := by
    intro M' f e x hT' h15 h14 he hf
    rw [fX8_number_L10, h15, pn_lit 2, nI_add, if_neg (by rw [nI_leI (by omega) (by omega)]; omega), pX8_letterAt hT' hB (by omega), pn_bd, pn_lit 48, pn_lit 57]
    by_cases c : e < tl
    · have hc := hB.2 e c
      rw [if_pos c]
      by_cases c1 : tx e < 48
      · rw [if_pos (by rw [nI_ltI (by omega) (by omega)]; exact c1)]
      · rw [if_neg (by rw [nI_ltI (by omega) (by omega)]; exact c1), h15, pX8_letterAt hT' hB (by omega), pn_bd, if_pos c, if_pos (by rw [nI_ltI (by omega) (by omega)]; have hz : ¬ (e < tl ∧ 48 ≤ tx e ∧ tx e ≤ 57) := fun q => hf (fg_iff.mpr q); omega)]
    · rw [if_neg c, if_pos (by decide)]
  have stepYes : ∀ M' f e x, MX M' tl tx → M'.1 79 15 = nI e → M'.1 79 14 = nI x → x < 100 → e < p + 2 → fgB tl tx e = true → fX8_number_L10 (nI p) (nI lo) (nI hi) (f + 1) M' = fX8_number_L10 (nI p) (nI lo) (nI hi) f (rm_sI (rm_sI M' 79 14 (nI (10 * x + (tx e - 48)))) 79 15 (nI (e + 1))) := by
    intro M' f e x hT' h15 h14 hx he hf
    obtain ⟨c, c1, c2⟩ := fg_iff.mp hf
    rw [fX8_number_L10, h15, pn_lit 2, nI_add, if_neg (by rw [nI_leI (by omega) (by omega)]; omega), pX8_letterAt hT' hB (by omega), pn_bd, pn_lit 48, pn_lit 57, if_pos c, if_neg (by rw [nI_ltI (by omega) (by omega)]; omega), h15, pX8_letterAt hT' hB (by omega), pn_bd, if_pos c, if_neg (by rw [nI_ltI (by omega) (by omega)]; omega), h15, if_pos (by rw [pn_ib (by omega), decide_eq_true_eq]; omega), rm_lt1, rm_lt1, nI_clamp (by omega), hT'.2 e c, h14, pn_lit 10, pk_mul, nI_add, pk_sub (by omega), pn_sI_eq, pn_upd_ne _ _ (by omega), h15, pn_lit 1, nI_add, show 10 * x + tx e - 48 = 10 * x + (tx e - 48) by omega]
  have stepEnd : ∀ M' f x, M'.1 79 15 = nI (p + 2) → M'.1 79 14 = nI x → fX8_number_L10 (nI p) (nI lo) (nI hi) (f + 1) M' = fX8_number_L83 (nI p) (nI lo) (nI hi) M' := by
    intro M' f x h15 h14
    rw [fX8_number_L10, h15, pn_lit 2, nI_add, if_pos (by rw [nI_leI (by omega) (by omega)]; omega)]
  have put : ∀ M' x e, nF M M' → nF M (rm_sI (rm_sI M' 79 14 (nI x)) 79 15 (nI e)) ∧ (rm_sI (rm_sI M' 79 14 (nI x)) 79 15 (nI e)).1 79 14 = nI x ∧ (rm_sI (rm_sI M' 79 14 (nI x)) 79 15 (nI e)).1 79 15 = nI e := by
    intro M' x e h
    refine ⟨⟨fun k k1 k2 => ?_, FR.sIr (FR.sIr h.2 rfl) rfl⟩, ?_, ?_⟩
    · rw [pn_sI_eq, pn_upd_ne _ _ k2, pn_sI_eq, pn_upd_ne _ _ k1]; exact h.1 k k1 k2
    · simp (disch := omega) only [pn_sI_eq, pn_upd_ne, pn_upd_eq]
    · simp (disch := omega) only [pn_sI_eq, pn_upd_eq]
  obtain ⟨F, hFF⟩ : ∃ F, rm_F = F + 1 + 1 + 1 := ⟨rm_F - 3, by omega⟩
  have main : ∀ G, G = F + 1 + 1 + 1 → ∃ M2, fX8_number_L10 (nI p) (nI lo) (nI hi) G (rm_sI (rm_sI M 79 14 (nI 0)) 79 15 (nI p)) = some (nI (if fgB tl tx p = true ∧ lo ≤ nV tl tx p ∧ nV tl tx p ≤ hi then 1 else 0), M2) ∧ M2.1 79 14 = nI (nV tl tx p) ∧ M2.1 79 15 = nI (nE tl tx p) ∧ nF M M2 := by
    intro G hG
    subst hG
    obtain ⟨n1, v1, e1⟩ := put M 0 p nF.rf
    have hn := nV_le tl tx p
    by_cases c : fgB tl tx p = true
    · have hf := fg_iff.mp c
      rw [stepYes _ _ p 0 (hT.fr n1.m) e1 v1 (by omega) (by omega) c]
      obtain ⟨n2, v2, e2⟩ := put _ (10 * 0 + (tx p - 48)) (p + 1) n1
      by_cases c2 : fgB tl tx (p + 1) = true
      · have hf2 := fg_iff.mp c2
        rw [stepYes _ _ (p + 1) (10 * 0 + (tx p - 48)) (hT.fr n2.m) e2 v2 (by omega) (by omega) c2]
        obtain ⟨n3, v3, e3⟩ := put _ (10 * (10 * 0 + (tx p - 48)) + (tx (p + 1) - 48)) (p + 1 + 1) n2
        have ev : nV tl tx p = 10 * (10 * 0 + (tx p - 48)) + (tx (p + 1) - 48) := by unfold nV; rw [if_pos c, if_pos c2]; omega
        have ee : nE tl tx p = p + 1 + 1 := by unfold nE; rw [if_pos c, if_pos c2]
        refine ⟨_, ?_, by rw [ev]; exact v3, by rw [ee]; exact e3, n3⟩
        rw [stepEnd _ _ _ e3 v3, pX8_number_L83 e3 v3 (by omega) (by omega) (by omega) hl hh, ev]
        congr 2
        by_cases z : lo ≤ 10 * (10 * 0 + (tx p - 48)) + (tx (p + 1) - 48) ∧ 10 * (10 * 0 + (tx p - 48)) + (tx (p + 1) - 48) ≤ hi
        · rw [if_pos ⟨by omega, z⟩, if_pos ⟨c, z⟩]
        · rw [if_neg (fun q => z q.2), if_neg (fun q => z q.2)]
      · have ev : nV tl tx p = 10 * 0 + (tx p - 48) := by unfold nV; rw [if_pos c, if_neg c2]; omega
        have ee : nE tl tx p = p + 1 := by unfold nE; rw [if_pos c, if_neg c2]
        refine ⟨_, ?_, by rw [ev]; exact v2, by rw [ee]; exact e2, n2⟩
        rw [stepNo _ _ (p + 1) _ (hT.fr n2.m) e2 v2 (by omega) c2, pX8_number_L83 e2 v2 (by omega) (by omega) (by omega) hl hh, ev]
        congr 2
        by_cases z : lo ≤ 10 * 0 + (tx p - 48) ∧ 10 * 0 + (tx p - 48) ≤ hi
        · rw [if_pos ⟨by omega, z⟩, if_pos ⟨c, z⟩]
        · rw [if_neg (fun q => z q.2), if_neg (fun q => z q.2)]
    · have ev : nV tl tx p = 0 := by unfold nV; rw [if_neg c]
      have ee : nE tl tx p = p := by unfold nE; rw [if_neg c]
      refine ⟨_, ?_, by rw [ev]; exact v1, by rw [ee]; exact e1, n1⟩
      rw [stepNo _ _ p 0 (hT.fr n1.m) e1 v1 (by omega) c, pX8_number_L83 e1 v1 (by omega) (by omega) (by omega) hl hh, if_neg (by omega), if_neg (fun q => c q.1)]
  unfold fX8_number
  rw [pn_lit 0, rm_lt1, rm_lt1]
  exact main rm_F hFF
theorem pX8_more {M : rm_M} {tl e lo hi : Nat} {tx : Nat → Nat} (hT : MX M tl tx) (hB : TB tl tx) (he : M.1 79 15 = nI e) (he2 : e ≤ 209) (hl : lo < 1000) (hh : hi < 1000) :
    (chB tl tx e 44 = true ∧ ∃ M2, fX8_more (nI lo) (nI hi) M = some (nI (if fgB tl tx (e + 1) = true ∧ lo ≤ nV tl tx (e + 1) ∧ nV tl tx (e + 1) ≤ hi then 1 else 0), M2) ∧ M2.1 79 14 = nI (nV tl tx (e + 1)) ∧ M2.1 79 15 = nI (nE tl tx (e + 1)) ∧ nF M M2) ∨ (chB tl tx e 44 = false ∧ fX8_more (nI lo) (nI hi) M = some (nI 0, M)) := by
  unfold fX8_more
  rw [he, pX8_letterAt hT hB (by omega), pn_bd, pn_lit 44, pn_lit 0, pn_lit 1, he, nI_add]
  by_cases c : chB tl tx e 44 = true
  · obtain ⟨c1, c2⟩ := ch_iff.mp c
    left
    refine ⟨c, ?_⟩
    obtain ⟨M2, f2, g1, g2, n2⟩ := pX8_number (p := e + 1) (lo := lo) (hi := hi) hT hB (by omega) hl hh
    refine ⟨M2, ?_, g1, g2, n2⟩
    rw [if_pos c1, c2, if_pos rfl, f2, pn_bd]
    by_cases z : fgB tl tx (e + 1) = true ∧ lo ≤ nV tl tx (e + 1) ∧ nV tl tx (e + 1) ≤ hi
    · rw [if_pos z, if_neg z10]; rfl
    · rw [if_neg z, if_pos rfl]; rfl
  · right
    refine ⟨Bool.not_eq_true _ ▸ c, ?_⟩
    rw [if_neg]
    · rfl
    · by_cases c1 : e < tl
      · have := hB.2 e c1
        rw [if_pos c1, nI_eq (by omega) (by omega)]
        exact fun q => c (ch_iff.mpr ⟨c1, q⟩)
      · rw [if_neg c1]; decide
def DM (M : rm_M) (cs jn : Nat) (w : Nat → Nat → Nat) (pr v : Nat → Nat) : Prop := M.1 79 9 = nI cs ∧ M.1 79 10 = nI jn ∧ (∀ a b, a < 6 → b < 6 → M.1 85 (6 * a + b) = nI (w a b)) ∧ (∀ k, k < 4 → M.1 86 k = nI (pr k)) ∧ MV M 87 v
theorem DM.n {M M2 : rm_M} {cs jn : Nat} {w : Nat → Nat → Nat} {pr v : Nat → Nat} (h : DM M cs jn w pr v) (hn : nF M M2) : DM M2 cs jn w pr v := by
  obtain ⟨h1, h2, h3, h4, h5⟩ := h
  exact ⟨by rw [hn.1 9 (by omega) (by omega)]; exact h1, by rw [hn.1 10 (by omega) (by omega)]; exact h2, fun a b ha hb => by rw [(hn.2.1 85 (by omega)).1]; exact h3 a b ha hb, fun k hk => by rw [(hn.2.1 86 (by omega)).1]; exact h4 k hk, h5.fr hn.2 (by omega)⟩
/-- the answer of a reading: it fails, or its end is wrong, or all is well -/
def mdN (M : rm_M) (tl : Nat) (tx : Nat → Nat) (r : Option (Int32 × rm_M)) : Prop := ∃ M2, mF M M2 ∧ (r = some (nI 0, M2) ∨ ∃ e, r = some (nI 1, M2) ∧ M2.1 79 15 = nI e ∧ e ≤ 250 ∧ chB tl tx e 59 = false)
def mdY (M : rm_M) (tl : Nat) (tx : Nat → Nat) (r : Option (Int32 × rm_M)) (p cs jn : Nat) (w : Nat → Nat → Nat) (pr v : Nat → Nat) : Prop := ∃ M2 e, mF M M2 ∧ r = some (nI 1, M2) ∧ M2.1 79 15 = nI e ∧ e + 1 = p ∧ chB tl tx e 59 = true ∧ DM M2 cs jn w pr v
theorem mdN.of0 {M M2 : rm_M} {tl : Nat} {tx : Nat → Nat} {r : Option (Int32 × rm_M)} (h : mF M M2) (hr : r = some (nI 0, M2)) : mdN M tl tx r := ⟨M2, h, Or.inl hr⟩
theorem sy1 (tl : Nat) (tx : Nat → Nat) (q : Nat) : sy tl tx 1 q = (fgB tl tx q && chB tl tx (nE tl tx q) 59) := by
  rw [sy, sy]; simp
theorem sy2 (tl : Nat) (tx : Nat → Nat) (q : Nat) : sy tl tx 2 q = (fgB tl tx q && chB tl tx (nE tl tx q) 44 && sy tl tx 1 (nE tl tx q + 1)) := by
  rw [sy]; simp
theorem sy3 (tl : Nat) (tx : Nat → Nat) (q : Nat) : sy tl tx 3 q = (fgB tl tx q && chB tl tx (nE tl tx q) 44 && sy tl tx 2 (nE tl tx q + 1)) := by
  rw [sy]; simp
theorem sy4 (tl : Nat) (tx : Nat → Nat) (q : Nat) : sy tl tx 4 q = (fgB tl tx q && chB tl tx (nE tl tx q) 44 && sy tl tx 3 (nE tl tx q + 1)) := by
  rw [sy]; simp
theorem pX8_readsCell {M : rm_M} {tl q cs jn wh lim : Nat} {tx : Nat → Nat} {w : Nat → Nat → Nat} {pr v : Nat → Nat} (hT : MX M tl tx) (hB : TB tl tx) (hq : q ≤ 200) (hcs : 2 ≤ cs ∧ cs ≤ 6) (hD : DM M cs jn w pr v) (hwh : (wh = 0 ∧ lim = 9) ∨ (wh = 1 ∧ lim = 5)) :
    (¬ (sy tl tx 2 q = true ∧ vv tl tx 0 q < cs ∧ vv tl tx 1 q ≤ lim) ∧ mdN M tl tx (fX8_readsCell (nI q) (nI wh) M)) ∨ ((sy tl tx 2 q = true ∧ vv tl tx 0 q < cs ∧ vv tl tx 1 q ≤ lim) ∧ mdY M tl tx (fX8_readsCell (nI q) (nI wh) M) (pkk tl tx 2 q) cs jn w pr (vu v (6 * wh + vv tl tx 0 q) (vv tl tx 1 q))) := by
  have b := hB.1
  have hne := nE_ge tl tx q
  obtain ⟨M1, f1, g1, g2, n1⟩ := pX8_number (p := q) (lo := 0) (hi := cs - 1) hT hB (by omega) (by omega) (by omega)
  have T1 := hT.fr n1.m
  have D1 := hD.n n1
  unfold fX8_readsCell
  rw [hD.1, pn_lit 0, pn_lit 1, pn_lit 9, pn_lit 5, pk_sub (by omega), f1, pn_bd]
  by_cases c : fgB tl tx q = true ∧ 0 ≤ nV tl tx q ∧ nV tl tx q ≤ cs - 1
  · rw [if_pos c, if_neg z10, rm_lt1, g1]
    have go : (¬ (sy tl tx 2 q = true ∧ vv tl tx 0 q < cs ∧ vv tl tx 1 q ≤ lim) ∧ mdN M tl tx (fX8_readsCell_L34 (nI q) (nI wh) (nI (nV tl tx q)) (nI 0) (nI lim) M1)) ∨ ((sy tl tx 2 q = true ∧ vv tl tx 0 q < cs ∧ vv tl tx 1 q ≤ lim) ∧ mdY M tl tx (fX8_readsCell_L34 (nI q) (nI wh) (nI (nV tl tx q)) (nI 0) (nI lim) M1) (pkk tl tx 2 q) cs jn w pr (vu v (6 * wh + vv tl tx 0 q) (vv tl tx 1 q))) := by
      unfold fX8_readsCell_L34
      have hib : rm_ib (nI 6 * nI wh + nI (nV tl tx q)) 20 = true := by rw [pk_mul, nI_add, pn_ib (by omega), decide_eq_true_eq]; omega
      have hcl : (nI 6 * nI wh + nI (nV tl tx q)).toNatClampNeg = 6 * wh + nV tl tx q := by rw [pk_mul, nI_add, nI_clamp (by omega)]
      rcases pX8_more (lo := 0) (hi := lim) T1 hB g2 (by omega) (by omega) (by omega) with ⟨c1, M2, f2, k1, k2, n2⟩ | ⟨c1, f2⟩
      · have hne1 := nE_ge tl tx (nE tl tx q + 1)
        have hnv := nV_le tl tx (nE tl tx q + 1)
        have n12 := n1.tr n2
        have m3 : mF M (rm_sI M2 87 (6 * wh + nV tl tx q) (nI (nV tl tx (nE tl tx q + 1)))) := ⟨fun k a1 a2 a3 a4 => by rw [pn_sI_ne _ _ _ (by omega)]; exact n12.1 k a3 a4, FR.sIr (n12.2.mono (fun a ha => Or.inl ha)) (by omega)⟩
        have e15 : (rm_sI M2 87 (6 * wh + nV tl tx q) (nI (nV tl tx (nE tl tx q + 1)))).1 79 15 = nI (nE tl tx (nE tl tx q + 1)) := by rw [pn_sI_ne _ _ _ (by omega)]; exact k2
        rw [f2, pn_bd, pn_lit 6, if_pos hib, rm_lt1, hcl, k1]
        by_cases z : fgB tl tx (nE tl tx q + 1) = true ∧ 0 ≤ nV tl tx (nE tl tx q + 1) ∧ nV tl tx (nE tl tx q + 1) ≤ lim
        · rw [if_pos z]
          by_cases z2 : chB tl tx (nE tl tx (nE tl tx q + 1)) 59 = true
          · right
            refine ⟨⟨?_, ?_, z.2.2⟩, _, _, m3, rfl, e15, rfl, z2, ?_⟩
            · rw [sy2, sy1, c.1, c1, z.1, z2]; rfl
            · show nV tl tx q < cs; omega
            · have D2 := D1.n n2
              refine ⟨by rw [pn_sI_ne _ _ _ (by omega)]; exact D2.1, by rw [pn_sI_ne _ _ _ (by omega)]; exact D2.2.1, fun a b ha hb => by rw [pn_sI_ne _ _ _ (by omega)]; exact D2.2.2.1 a b ha hb, fun k hk => by rw [pn_sI_ne _ _ _ (by omega)]; exact D2.2.2.2.1 k hk, D2.2.2.2.2.put _⟩
          · left
            refine ⟨fun q2 => z2 ?_, _, m3, Or.inr ⟨_, rfl, e15, by omega, Bool.not_eq_true _ ▸ z2⟩⟩
            have h9 := q2.1
            rw [sy2, sy1, Bool.and_eq_true, Bool.and_eq_true, Bool.and_eq_true] at h9
            exact h9.2.2
        · rw [if_neg z]
          left
          refine ⟨fun q2 => z ?_, mdN.of0 m3 rfl⟩
          have h9 := q2.1
          rw [sy2, sy1, Bool.and_eq_true, Bool.and_eq_true, Bool.and_eq_true] at h9
          exact ⟨h9.2.1, Nat.zero_le _, q2.2.2⟩
      · have m3 : mF M (rm_sI M1 87 (6 * wh + nV tl tx q) (nI (nV tl tx q))) := ⟨fun k a1 a2 a3 a4 => by rw [pn_sI_ne _ _ _ (by omega)]; exact n1.1 k a3 a4, FR.sIr (n1.2.mono (fun a ha => Or.inl ha)) (by omega)⟩
        rw [f2, pn_bd, pn_lit 6, if_pos hib, rm_lt1, hcl, g1]
        left
        refine ⟨fun q2 => ?_, mdN.of0 m3 rfl⟩
        have h9 := q2.1
        rw [sy2, Bool.and_eq_true, Bool.and_eq_true, c1] at h9
        cases h9.1.2
    rcases hwh with ⟨w1, w2⟩ | ⟨w1, w2⟩
    · rw [if_pos (by rw [w1])]
      rw [w2] at go ⊢
      exact go
    · rw [if_neg (by rw [w1]; decide)]
      rw [w2] at go ⊢
      exact go
  · rw [if_neg c, if_pos rfl]
    left
    refine ⟨fun q2 => c ?_, mdN.of0 n1.m rfl⟩
    have h9 := q2.1
    rw [sy2, Bool.and_eq_true, Bool.and_eq_true] at h9
    refine ⟨h9.1.1, Nat.zero_le _, ?_⟩
    have h10 : nV tl tx q < cs := q2.2.1
    omega
theorem pX8_readsLaw {M : rm_M} {tl q cs jn : Nat} {tx : Nat → Nat} {w : Nat → Nat → Nat} {pr v : Nat → Nat} (hT : MX M tl tx) (hB : TB tl tx) (hq : q ≤ 200) (hD : DM M cs jn w pr v) :
    (¬ (sy tl tx 2 q = true ∧ lB (vv tl tx 0 q) (vv tl tx 1 q) = true) ∧ mdN M tl tx (fX8_readsLaw (nI q) M)) ∨ ((sy tl tx 2 q = true ∧ lB (vv tl tx 0 q) (vv tl tx 1 q) = true) ∧ mdY M tl tx (fX8_readsLaw (nI q) M) (pkk tl tx 2 q) cs jn w pr (vu (vu v 12 (vv tl tx 0 q)) 13 (vv tl tx 1 q))) := by
  have b := hB.1
  have hne := nE_ge tl tx q
  obtain ⟨M1, f1, g1, g2, n1⟩ := pX8_number (p := q) (lo := 0) (hi := 3) hT hB (by omega) (by omega) (by omega)
  have T1 := hT.fr n1.m
  have D1 := hD.n n1
  have hnv0 := nV_le tl tx q
  unfold fX8_readsLaw
  rw [pn_lit 0, pn_lit 3, pn_lit 1, pn_lit 9, f1, pn_bd]
  have fin : ∀ M2 y r, nF M1 M2 → M2.1 79 14 = nI y → r < 2 → fX8_readsLaw_L43 (nI q) (nI (nV tl tx q)) (nI r) M2 = some (nI r, rm_sI (rm_sI M2 87 12 (nI (nV tl tx q))) 87 13 (nI y)) ∧ mF M (rm_sI (rm_sI M2 87 12 (nI (nV tl tx q))) 87 13 (nI y)) := by
    intro M2 y r n2 hy hr
    have n12 := n1.tr n2
    refine ⟨?_, fun k a1 a2 a3 a4 => by rw [pn_sI_ne _ _ _ (by omega), pn_sI_ne _ _ _ (by omega)]; exact n12.1 k a3 a4, FR.sIr (FR.sIr (n12.2.mono (fun a ha => Or.inl ha)) (by omega)) (by omega)⟩
    unfold fX8_readsLaw_L43
    rw [pn_lit 12, pn_lit 13, if_pos (by decide), rm_lt1, if_pos (by decide), rm_lt1, nI_clamp (by omega), nI_clamp (by omega), pn_sI_ne _ _ _ (by omega), hy]
    rcases (show r = 0 ∨ r = 1 by omega) with rfl | rfl <;> rfl
  by_cases c : fgB tl tx q = true ∧ 0 ≤ nV tl tx q ∧ nV tl tx q ≤ 3
  · rw [if_pos c, if_neg z10, rm_lt1, g1]
    rcases pX8_more (lo := 0) (hi := 9) T1 hB g2 (by omega) (by omega) (by omega) with ⟨c1, M2, f2, k1, k2, n2⟩ | ⟨c1, f2⟩
    · have hne1 := nE_ge tl tx (nE tl tx q + 1)
      have hnv := nV_le tl tx (nE tl tx q + 1)
      rw [f2, pn_bd]
      by_cases z : fgB tl tx (nE tl tx q + 1) = true ∧ 0 ≤ nV tl tx (nE tl tx q + 1) ∧ nV tl tx (nE tl tx q + 1) ≤ 9
      · rw [if_pos z, if_neg z10, k1]
        rcases isLaw_n (k := nV tl tx q) (x := nV tl tx (nE tl tx q + 1)) hnv0 hnv with ⟨hl, hl2⟩ | ⟨hl, hl2⟩
        · obtain ⟨f3, m3⟩ := fin M2 _ 1 n2 k1 (by omega)
          rw [(hl2 M2).2, pn_bd, if_neg z10, f3]
          have e15 : (rm_sI (rm_sI M2 87 12 (nI (nV tl tx q))) 87 13 (nI (nV tl tx (nE tl tx q + 1)))).1 79 15 = nI (nE tl tx (nE tl tx q + 1)) := by rw [pn_sI_ne _ _ _ (by omega), pn_sI_ne _ _ _ (by omega)]; exact k2
          by_cases z2 : chB tl tx (nE tl tx (nE tl tx q + 1)) 59 = true
          · right
            refine ⟨⟨?_, lB_iff.mpr hl⟩, _, _, m3, rfl, e15, rfl, z2, ?_⟩
            · rw [sy2, sy1, c.1, c1, z.1, z2]; rfl
            · have D2 := D1.n n2
              refine ⟨by rw [pn_sI_ne _ _ _ (by omega), pn_sI_ne _ _ _ (by omega)]; exact D2.1, by rw [pn_sI_ne _ _ _ (by omega), pn_sI_ne _ _ _ (by omega)]; exact D2.2.1, fun a b ha hb => by rw [pn_sI_ne _ _ _ (by omega), pn_sI_ne _ _ _ (by omega)]; exact D2.2.2.1 a b ha hb, fun k hk => by rw [pn_sI_ne _ _ _ (by omega), pn_sI_ne _ _ _ (by omega)]; exact D2.2.2.2.1 k hk, (D2.2.2.2.2.put _).put _⟩
          · left
            refine ⟨fun q2 => z2 ?_, _, m3, Or.inr ⟨_, rfl, e15, by omega, Bool.not_eq_true _ ▸ z2⟩⟩
            have h9 := q2.1
            rw [sy2, sy1, Bool.and_eq_true, Bool.and_eq_true, Bool.and_eq_true] at h9
            exact h9.2.2
        · obtain ⟨f3, m3⟩ := fin M2 _ 0 n2 k1 (by omega)
          unfold fX8_readsLaw_L42
          rw [(hl2 M2).2, pn_bd, if_pos rfl, pn_lit 0, f3]
          exact Or.inl ⟨fun q2 => hl (lB_iff.mp q2.2), mdN.of0 m3 rfl⟩
      · obtain ⟨f3, m3⟩ := fin M2 _ 0 n2 k1 (by omega)
        unfold fX8_readsLaw_L42
        rw [if_neg z, if_pos rfl, pn_lit 0, f3]
        left
        refine ⟨fun q2 => z ?_, mdN.of0 m3 rfl⟩
        have h9 := q2.1
        rw [sy2, sy1, Bool.and_eq_true, Bool.and_eq_true, Bool.and_eq_true] at h9
        refine ⟨h9.2.1, Nat.zero_le _, ?_⟩
        obtain ⟨l1, l2, l3⟩ : lOk (nV tl tx q) (nV tl tx (nE tl tx q + 1)) := lB_iff.mp q2.2
        by_cases l0 : nV tl tx q = 0
        · have := l2 l0; omega
        · exact (l3 l0).2
    · obtain ⟨f3, m3⟩ := fin M1 _ 0 nF.rf g1 (by omega)
      unfold fX8_readsLaw_L42
      rw [f2, pn_bd, if_pos rfl, pn_lit 0, f3]
      left
      refine ⟨fun q2 => ?_, mdN.of0 m3 rfl⟩
      have h9 := q2.1
      rw [sy2, Bool.and_eq_true, Bool.and_eq_true, c1] at h9
      cases h9.1.2
  · rw [if_neg c, if_pos rfl]
    left
    refine ⟨fun q2 => c ?_, mdN.of0 n1.m rfl⟩
    have h9 := q2.1
    rw [sy2, Bool.and_eq_true, Bool.and_eq_true] at h9
    have h10 : lOk (nV tl tx q) (vv tl tx 1 q) := lB_iff.mp q2.2
    exact ⟨h9.1.1, Nat.zero_le _, h10.1⟩
