/-! ===== the search, both sides ===== -/
theorem lgc (x y : Int64) : nI 0 ≤ lg_cmp x y ↔ ¬ x < y := by
  show (0 : Int32) ≤ lg_cmp x y ↔ ¬ x < y
  unfold lg_cmp
  by_cases h : x > y
  · rw [if_pos h]
    refine ⟨fun _ q => ?_, fun _ => by decide⟩
    have h1 : y < x := h
    rw [Int64.lt_iff_toInt_lt] at h1 q
    omega
  · rw [if_neg h]
    by_cases h2 : x = y
    · rw [if_pos h2]
      refine ⟨fun _ q => ?_, fun _ => by decide⟩
      rw [h2, Int64.lt_iff_toInt_lt] at q
      omega
    · rw [if_neg h2]
      refine ⟨fun q => absurd q (by decide), fun q => ?_⟩
      exfalso
      have h1 : ¬ y < x := h
      rw [Int64.lt_iff_toInt_lt] at h1 q
      exact h2 (Int64.toInt_inj.1 (by omega))
def bfd (cs : Nat) (val : Nat → Int64) : Nat → Nat → Int64 → Nat → Int64 × Nat
  | 0, _, l, b => (l, b)
  | f + 1, x, l, b => match ncf x (cs - 1) with
    | none => (l, b)
    | some y => if val y < l then bfd cs val f y (val y) y else bfd cs val f y l b
/-- the least expense and the first way of it -/
noncomputable def bstF (cs : Nat) (w : Nat → Nat → Nat) (v pr : Nat → Nat) : Int64 × Nat := bfd cs (fun x => J (exI cs w v pr (dg x))) bN 0 (J (exI cs w v pr (dg 0))) 0
theorem dg0 (k : Nat) : dg 0 k = 0 := by unfold dg; rw [Nat.zero_div]
theorem AR.of {M : rm_M} {q x cs : Nat} (hT : TR M q x) (hcs : cs ≤ 6) (hq : (rm_kd q).2 = 6) : AR M q 0 cs (dg x) := by
  refine ⟨by omega, by omega, fun c _ => ?_, fun c hc => by rw [Nat.zero_add]; exact hT c (by omega)⟩
  have : dg x c < 8 := Nat.mod_lt _ (by decide)
  omega
theorem CN.fr {S : Nat → Prop} {M M2 : rm_M} {n cs : Nat} {w : Nat → Nat → Nat} (h : CN M n cs w) (hcs : cs ≤ 6) (hF : FR S M M2) (h0 : ∀ a, n ≤ a → a < n + 19 → ¬ S a) : CN M2 n cs w := by
  refine ⟨?_, fun a b ha hb => ?_, fun c hc => ?_⟩
  · rw [(hF.1 n (h0 n (by omega) (by omega))).1]; exact h.1
  · rw [(hF.1 _ (h0 _ (by omega) (by omega))).1]; exact h.2.1 a b ha hb
  · rw [(hF.1 _ (h0 _ (by omega) (by omega))).1]; exact h.2.2 c hc
theorem CT.fr {S : Nat → Prop} {M M2 : rm_M} {n cs : Nat} {w : Nat → Nat → Nat} (h : CT M n cs w) (hF : FR S M M2) (h0 : ¬ S (n + 17)) : CT M2 n cs w := fun c hc => by rw [(hF.1 _ h0).2]; exact h c hc
theorem CPr.fr {S : Nat → Prop} {M M2 : rm_M} {n : Nat} {pr : Nat → Nat} (h : CPr M n pr) (hF : FR S M M2) (h0 : ¬ S n) : CPr M2 n pr := fun k hk => by rw [(hF.1 _ h0).1]; exact h k hk
theorem CA.fr {S : Nat → Prop} {M M2 : rm_M} {cs : Nat} {w : Nat → Nat → Nat} {v : Nat → Nat} (h : CA M cs w v) (hF : FR S M M2) (h0 : ¬ S 7) : CA M2 cs w v := fun c hc => by rw [(hF.1 _ h0).2]; exact h c hc
theorem pX0_takeTried {M : rm_M} {x : Nat} (z : Int64) (hT : TR M 9 x) : ∃ M2, fX0_takeTried z M = some M2 ∧ TR M2 8 x ∧ TR M2 9 x ∧ M2.2.1 6 3 = z ∧ M2.2.1 6 1 = M.2.1 6 1 ∧ M2.2.1 7 = M.2.1 7 ∧ M2.1 6 = M.1 6 ∧ FR (fun q => q = 6 ∨ q = 8) M M2 := by
  unfold fX0_takeTried
  simp only [rm_lt1, pn_lit, pn_c0, pn_c6]
  refine ⟨_, rfl, fun k hk => ?_, fun k hk => ?_, ?_, ?_, ?_, ?_, FR.cpr (FR.sJr FR.rf (Or.inl rfl)) (Or.inr rfl)⟩
  · rw [pn_cp_eq, pn_cpy6 _ _ hk]; exact hT k hk
  · rw [pn_cp_ne _ _ _ _ (by omega)]; exact hT k hk
  · rw [pn_cp2, pn_sJ_eq, pn_updL_eq]
  · rw [pn_cp2, pn_sJ_eq, pn_updL_ne _ _ (by omega)]
  · rw [pn_cp2, pn_sJ_ne _ _ _ (by omega)]
  · rw [pn_cp_ne _ _ _ _ (by omega)]; rfl
theorem pX0_findBest_L49 {cs : Nat} {w : Nat → Nat → Nat} {v pr : Nat → Nat} (h : WN cs w) {n : Nat} (hn : n = 14 ∨ n = 33) (hpr : ∀ k, k < 4 → pr k ≤ 99) : ∀ f g i x l b M, chk cs f x = true → f < g → i + f < 1000 → CN M n cs w → CT M n cs w → CA M cs w v → CPr M n pr → TR M 9 x → TR M 8 b → M.2.1 6 3 = l →
    ∃ M2, fX0_findBest_L49 n g (nI i) M = some M2 ∧ TR M2 8 (bfd cs (fun x => J (exI cs w v pr (dg x))) f x l b).2 ∧ M2.2.1 6 3 = (bfd cs (fun x => J (exI cs w v pr (dg x))) f x l b).1 ∧ M2.2.1 6 1 = M.2.1 6 1 ∧ M2.1 6 = M.1 6 ∧ M2.2.1 7 = M.2.1 7 ∧ FR (fun q => q = 6 ∨ q = 8 ∨ q = 9) M M2 := by
  have h1 := h.1
  have h2 := h.2.1
  intro f
  induction f with
  | zero => intro g i x l b M hc; cases hc
  | succ f ih =>
    intro g i x l b M hc hg hi hN hT hC hP h9 h8 hl
    obtain ⟨g, rfl⟩ : ∃ z, g = z + 1 := ⟨g - 1, by omega⟩
    obtain ⟨o1, o2, o3, o4⟩ := chk_ok hc
    obtain ⟨M1, f1, a1, r1⟩ := pX0_nextTried h2 h1 o1 o2 o3 h9
    rw [fX0_findBest_L49]
    simp (disch := omega) only [hN.1, f1, pn_bd, pn_lit, nI_leI]
    rw [if_neg (by omega), bfd]
    have r1' : FR (fun q => q = 6 ∨ q = 8 ∨ q = 9) M M1 := r1.mono (fun a ha => Or.inr (Or.inr ha))
    cases hy : ncf x (cs - 1) with
    | none =>
      rw [Option.isSome_none]
      simp only [Bool.false_eq_true, ↓reduceIte]
      refine ⟨M1, rfl, fun k hk => ?_, ?_, ?_, ?_, ?_, r1'⟩
      · rw [(r1.1 8 (by omega)).1]; exact h8 k hk
      · rw [(r1.1 6 (by omega)).2]; exact hl
      · rw [(r1.1 6 (by omega)).2]
      · exact (r1.1 6 (by omega)).1
      · exact (r1.1 7 (by omega)).2
    | some y =>
      rw [Option.isSome_some]
      simp (disch := omega) only [↓reduceIte, nI_eq]
      rw [if_neg (by omega)]
      have hTy := a1 y hy
      have hN1 := hN.fr h2 r1 (fun a ha hb => by omega)
      have hT1 := hT.fr r1 (by omega)
      have hC1 := hC.fr r1 (by omega)
      have hP1 := hP.fr r1 (by omega)
      rw [pX0_expense h hN1 hT1 (AR.of hTy h2 rfl) hC1 hP1 hpr, pn_bd, (r1.1 6 (by omega)).2, hl]
      by_cases e : J (exI cs w v pr (dg y)) < l
      · rw [if_neg (fun q => ((lgc _ _).mp q) e), if_pos e]
        obtain ⟨M2, f2, b8, b9, b63, b61, b7, b6, r2⟩ := pX0_takeTried (J (exI cs w v pr (dg y))) hTy
        rw [f2, pn_bv]
        unfold fX0_findBest_L91
        rw [pn_lit, nI_add]
        obtain ⟨M3, f3, c8, c63, c61, c6, c7, r3⟩ := ih g (i + 1) y _ y M2 (o4 y hy) (by omega) (by omega) (hN1.fr h2 r2 (fun a ha hb => by omega)) (hT1.fr r2 (by omega)) (fun c hc => by rw [b7]; exact hC1 c hc) (hP1.fr r2 (by omega)) b9 b8 b63
        refine ⟨M3, f3, c8, c63, ?_, ?_, ?_, r1'.tr ((r2.mono (fun a ha => by omega)).tr r3)⟩
        · rw [c61, b61, (r1.1 6 (by omega)).2]
        · rw [c6, b6, (r1.1 6 (by omega)).1]
        · rw [c7, b7, (r1.1 7 (by omega)).2]
      · rw [if_pos ((lgc _ _).mpr e), if_neg e]
        unfold fX0_findBest_L91
        rw [pn_lit, nI_add]
        obtain ⟨M3, f3, c8, c63, c61, c6, c7, r3⟩ := ih g (i + 1) y l b M1 (o4 y hy) (by omega) (by omega) hN1 hT1 hC1 hP1 hTy (fun k hk => by rw [(r1.1 8 (by omega)).1]; exact h8 k hk) (by rw [(r1.1 6 (by omega)).2]; exact hl)
        refine ⟨M3, f3, c8, c63, ?_, ?_, ?_, r1'.tr r3⟩
        · rw [c61, (r1.1 6 (by omega)).2]
        · rw [c6, (r1.1 6 (by omega)).1]
        · rw [c7, (r1.1 7 (by omega)).2]
theorem pX0_findBest_L15 {n : Nat} : ∀ d f i M, i + d = 6 → d < f → (∀ k, k < i → M.1 9 k = nI 0) → ∃ M2, fX0_findBest_L15 n f (nI i) M = (rm_bd (fX0_expense n 9 M2) (fun r M15 => rm_bv (fX0_takeTried r M15) (fun M17 => fX0_findBest_L49 n rm_F (nI 0) M17))) ∧ TR M2 9 0 ∧ FR (fun q => q = 9) M M2 := by
  intro d
  induction d with
  | zero =>
    intro f i M hi hf h0
    obtain ⟨f, rfl⟩ : ∃ z, f = z + 1 := ⟨f - 1, by omega⟩
    rw [fX0_findBest_L15]
    simp (disch := omega) only [pn_lit, nI_leI]
    rw [if_pos (by omega)]
    exact ⟨M, rfl, fun k hk => by rw [h0 k (by omega), dg0], FR.rf⟩
  | succ d ih =>
    intro f i M hi hf h0
    obtain ⟨f, rfl⟩ : ∃ z, f = z + 1 := ⟨f - 1, by omega⟩
    rw [fX0_findBest_L15]
    simp (disch := omega) only [pn_lit, nI_leI, pn_ib, nI_clamp, rm_lt1, nI_add, decide_eq_true_eq]
    rw [if_neg (by omega), if_pos (by omega)]
    obtain ⟨M2, f2, a2, r2⟩ := ih f (i + 1) (rm_sI M 9 i (nI 0)) (by omega) (by omega) (fun k hk => by
      rw [pn_sI_eq]
      by_cases e : k = i
      · subst e; rw [pn_upd_eq]
      · rw [pn_upd_ne _ _ e]; exact h0 k (by omega))
    exact ⟨M2, f2, a2, FR.tr (S := fun q => q = 9) (FR.sI rfl) r2⟩
/-- what is known of the best areas: nothing yet, or all -/
def CB (M : rm_M) (cs : Nat) (w : Nat → Nat → Nat) (v pr : Nat → Nat) : Prop := M.1 6 4 = nI 0 ∨ (M.1 6 4 = nI 1 ∧ TR M 8 (bstF cs w v pr).2 ∧ M.2.1 6 3 = (bstF cs w v pr).1)
theorem pX0_findBest {cs : Nat} {w : Nat → Nat → Nat} {v pr : Nat → Nat} (h : WN cs w) {n : Nat} (hn : n = 14 ∨ n = 33) (hpr : ∀ k, k < 4 → pr k ≤ 99) {M : rm_M} (hN : CN M n cs w) (hT : CT M n cs w) (hC : CA M cs w v) (hP : CPr M n pr) (hB : CB M cs w v pr) :
    ∃ M2, fX0_findBest n M = some M2 ∧ M2.1 6 4 = nI 1 ∧ TR M2 8 (bstF cs w v pr).2 ∧ M2.2.1 6 3 = (bstF cs w v pr).1 ∧ M2.2.1 6 1 = M.2.1 6 1 ∧ M2.2.1 7 = M.2.1 7 ∧ FR (fun q => q = 6 ∨ q = 8 ∨ q = 9) M M2 := by
  have hF := pn_F
  have hbN := bN_lt
  have h1 := h.1
  have h2 := h.2.1
  unfold fX0_findBest
  simp only [pn_lit]
  rcases hB with hB | ⟨b1, b2, b3⟩
  · rw [if_pos hB, rm_lt1]
    have r0 : FR (fun q => q = 6 ∨ q = 8 ∨ q = 9) M (rm_sI M 6 4 (nI 1)) := FR.sI (Or.inl rfl)
    obtain ⟨M1, f1, a1, r1⟩ := pX0_findBest_L15 (n := n) 6 rm_F 0 (rm_sI M 6 4 (nI 1)) (by omega) (by omega) (fun k hk => by omega)
    have r1' : FR (fun q => q = 6 ∨ q = 8 ∨ q = 9) M M1 := r0.tr (r1.mono (fun a ha => Or.inr (Or.inr ha)))
    have hN1 := hN.fr h2 r1' (fun a ha hb => by omega)
    have hT1 := hT.fr r1' (by omega)
    have hC1 := hC.fr r1' (by omega)
    have hP1 := hP.fr r1' (by omega)
    rw [f1, pX0_expense h hN1 hT1 (AR.of a1 h2 rfl) hC1 hP1 hpr, pn_bd]
    obtain ⟨M2, f2, c8, c9, c63, c61, c7, c6, r2⟩ := pX0_takeTried (J (exI cs w v pr (dg 0))) a1
    rw [f2, pn_bv]
    obtain ⟨M3, f3, d8, d63, d61, d6, d7, r3⟩ := pX0_findBest_L49 h hn hpr bN rm_F 0 0 (J (exI cs w v pr (dg 0))) 0 M2 (chk_cs h1 h2) (by omega) (by omega) (hN1.fr h2 r2 (fun a ha hb => by omega)) (hT1.fr r2 (by omega)) (fun c hc => by rw [c7]; exact hC1 c hc) (hP1.fr r2 (by omega)) c9 c8 c63
    refine ⟨M3, f3, ?_, d8, d63, ?_, ?_, r1'.tr ((r2.mono (fun a ha => by omega)).tr r3)⟩
    · rw [d6, c6, (r1.1 6 (by omega)).1, pn_sI_eq, pn_upd_eq]
    · rw [d61, c61, (r1.1 6 (by omega)).2, pn_sI2]
    · rw [d7, c7, (r1.1 7 (by omega)).2, pn_sI2]
  · rw [if_neg (by rw [b1, nI_eq (by omega) (by omega)]; omega)]
    exact ⟨M, rfl, b1, b2, b3, rfl, rfl, FR.rf⟩
/-- the model -/
theorem MW.fr {S : Nat → Prop} {M M2 : rm_M} {cs : Nat} {w : Nat → Nat → Nat} (h : MW M cs w) (hF : FR S M M2) (h0 : ¬ S 79) (h1 : ¬ S 81) : MW M2 cs w := ⟨by rw [(hF.1 _ h0).1]; exact h.1, fun a b ha hb => by rw [(hF.1 _ h1).1]; exact h.2 a b ha hb⟩
theorem MT.fr {S : Nat → Prop} {M M2 : rm_M} {cs : Nat} {w : Nat → Nat → Nat} (h : MT M cs w) (hF : FR S M M2) (h0 : ¬ S 90) : MT M2 cs w := fun c hc => by rw [(hF.1 _ h0).2]; exact h c hc
theorem MPr.fr {S : Nat → Prop} {M M2 : rm_M} {pr : Nat → Nat} (h : MPr M pr) (hF : FR S M M2) (h0 : ¬ S 82) : MPr M2 pr := fun k hk => by rw [(hF.1 _ h0).1]; exact h k hk
theorem pX8_finds_L70 (q42 : Int64 → rm_M → Option (Int64 × rm_M)) (z : Int64) {x : Nat} : ∀ d f i M, i + d = 6 → d < f → TR M 92 x → (∀ k, k < i → M.1 93 k = nI (dg x k)) → ∃ M2, fX8_finds_L70 q42 f z (nI i) M = q42 z M2 ∧ TR M2 93 x ∧ FR (fun q => q = 93) M M2 := by
  intro d
  induction d with
  | zero =>
    intro f i M hi hf h92 h0
    obtain ⟨f, rfl⟩ : ∃ z, f = z + 1 := ⟨f - 1, by omega⟩
    rw [fX8_finds_L70]
    simp (disch := omega) only [pn_lit, nI_leI, fX8_finds_L97]
    rw [if_pos (by omega)]
    exact ⟨M, rfl, fun k hk => h0 k (by omega), FR.rf⟩
  | succ d ih =>
    intro f i M hi hf h92 h0
    obtain ⟨f, rfl⟩ : ∃ z, f = z + 1 := ⟨f - 1, by omega⟩
    rw [fX8_finds_L70]
    simp (disch := omega) only [pn_lit, nI_leI, pn_ib, nI_clamp, rm_lt1, nI_add, decide_eq_true_eq, h92 i (by omega)]
    rw [if_neg (by omega), if_pos (by omega), if_pos (by omega)]
    obtain ⟨M2, f2, a2, r2⟩ := ih f (i + 1) (rm_sI M 93 i (nI (dg x i))) (by omega) (by omega) (fun k hk => by rw [pn_sI_ne _ _ _ (by omega)]; exact h92 k hk) (fun k hk => by
      rw [pn_sI_eq]
      by_cases e : k = i
      · subst e; rw [pn_upd_eq]
      · rw [pn_upd_ne _ _ e]; exact h0 k (by omega))
    exact ⟨M2, f2, a2, FR.tr (S := fun q => q = 93) (FR.sI rfl) r2⟩
theorem pX8_finds_L42 {cs : Nat} {w : Nat → Nat → Nat} {v pr : Nat → Nat} (h : WN cs w) (hv : ∀ c, c < 6 → v c ≤ 9) (hpr : ∀ k, k < 4 → pr k ≤ 99) : ∀ f g x l b M, chk cs f x = true → f < g → MW M cs w → MT M cs w → MV M 83 v → MPr M pr → TR M 92 x → TR M 93 b →
    ∃ M2, fX8_finds_L42 g l M = some ((bfd cs (fun x => J (exI cs w v pr (dg x))) f x l b).1, M2) ∧ TR M2 93 (bfd cs (fun x => J (exI cs w v pr (dg x))) f x l b).2 ∧ FR (fun q => q = 92 ∨ q = 93) M M2 := by
  have hF := pn_F
  have h1 := h.1
  have h2 := h.2.1
  intro f
  induction f with
  | zero => intro g x l b M hc; cases hc
  | succ f ih =>
    intro g x l b M hc hg hM hT hS hP h92 h93
    obtain ⟨g, rfl⟩ : ∃ z, g = z + 1 := ⟨g - 1, by omega⟩
    obtain ⟨o1, o2, o3, o4⟩ := chk_ok hc
    obtain ⟨M1, f1, a1, r1⟩ := pX8_goesOn h2 h1 o1 o2 o3 hM.1 h92
    rw [fX8_finds_L42, f1]
    simp only [pn_bd, pn_lit]
    rw [bfd]
    have r1' : FR (fun q => q = 92 ∨ q = 93) M M1 := r1.mono (fun a ha => Or.inl ha)
    cases hy : ncf x (cs - 1) with
    | none =>
      rw [Option.isSome_none]
      simp only [Bool.false_eq_true, ↓reduceIte]
      exact ⟨M1, rfl, fun k hk => by rw [(r1.1 93 (by omega)).1]; exact h93 k hk, r1'⟩
    | some y =>
      rw [Option.isSome_some]
      simp (disch := omega) only [↓reduceIte, nI_eq]
      rw [if_neg (by omega)]
      have hTy := a1 y hy
      have hM1 := hM.fr r1 (by omega) (by omega)
      have hT1 := hT.fr r1 (by omega)
      have hS1 := hS.fr r1 (by omega)
      have hP1 := hP.fr r1 (by omega)
      rw [pX8_expense h hv hM1 hT1 hS1 (AR.of hTy h2 rfl) hP1 hpr, pn_bd]
      by_cases e : J (exI cs w v pr (dg y)) < l
      · rw [if_neg (fun q => ((lgc _ _).mp q) e), if_pos e]
        obtain ⟨M2, f2, a2, r2⟩ := pX8_finds_L70 (fX8_finds_L42 g) (J (exI cs w v pr (dg y))) 6 rm_F 0 M1 (by omega) (by omega) hTy (fun k hk => by omega)
        rw [f2]
        obtain ⟨M3, f3, a3, r3⟩ := ih g y _ y M2 (o4 y hy) (by omega) (hM1.fr r2 (by omega) (by omega)) (hT1.fr r2 (by omega)) (hS1.fr r2 (by omega)) (hP1.fr r2 (by omega)) (fun k hk => by rw [(r2.1 92 (by omega)).1]; exact hTy k hk) a2
        exact ⟨M3, f3, a3, r1'.tr ((r2.mono (fun a ha => Or.inr ha)).tr r3)⟩
      · rw [if_pos ((lgc _ _).mpr e), if_neg e]
        unfold fX8_finds_L97
        obtain ⟨M3, f3, a3, r3⟩ := ih g y l b M1 (o4 y hy) (by omega) hM1 hT1 hS1 hP1 hTy (fun k hk => by rw [(r1.1 93 (by omega)).1]; exact h93 k hk)
        exact ⟨M3, f3, a3, r1'.tr r3⟩
theorem pX8_finds_L6 : ∀ d f i M, i + d = 6 → d < f → (∀ k, k < i → M.1 92 k = nI 0 ∧ M.1 93 k = nI 0) → ∃ M2, fX8_finds_L6 f (nI i) M = (rm_bd (fX8_expense 92 (nI 0) M2) (fun r M16 => fX8_finds_L42 rm_F r M16)) ∧ TR M2 92 0 ∧ TR M2 93 0 ∧ FR (fun q => q = 92 ∨ q = 93) M M2 := by
  intro d
  induction d with
  | zero =>
    intro f i M hi hf h0
    obtain ⟨f, rfl⟩ : ∃ z, f = z + 1 := ⟨f - 1, by omega⟩
    rw [fX8_finds_L6]
    simp (disch := omega) only [pn_lit, nI_leI]
    rw [if_pos (by omega)]
    exact ⟨M, rfl, fun k hk => by rw [(h0 k (by omega)).1, dg0], fun k hk => by rw [(h0 k (by omega)).2, dg0], FR.rf⟩
  | succ d ih =>
    intro f i M hi hf h0
    obtain ⟨f, rfl⟩ : ∃ z, f = z + 1 := ⟨f - 1, by omega⟩
    rw [fX8_finds_L6]
    simp (disch := omega) only [pn_lit, nI_leI, pn_ib, nI_clamp, rm_lt1, nI_add, decide_eq_true_eq]
    rw [if_neg (by omega), if_pos (by omega), if_pos (by omega)]
    obtain ⟨M2, f2, a2, b2, r2⟩ := ih f (i + 1) (rm_sI (rm_sI M 92 i (nI 0)) 93 i (nI 0)) (by omega) (by omega) (fun k hk => by
      rw [pn_sI_ne _ _ _ (by omega), pn_sI_eq, pn_sI_eq, pn_sI_ne _ _ _ (by omega)]
      by_cases e : k = i
      · subst e; rw [pn_upd_eq, pn_upd_eq]; exact ⟨rfl, rfl⟩
      · rw [pn_upd_ne _ _ e, pn_upd_ne _ _ e]; exact h0 k (by omega))
    exact ⟨M2, f2, a2, b2, FR.tr (FR.sIr (FR.sIr FR.rf (Or.inl rfl)) (Or.inr rfl)) r2⟩
theorem pX8_finds {cs : Nat} {w : Nat → Nat → Nat} {v pr : Nat → Nat} (h : WN cs w) (hv : ∀ c, c < 6 → v c ≤ 9) (hpr : ∀ k, k < 4 → pr k ≤ 99) {M : rm_M} (hM : MW M cs w) (hS : MV M 83 v) (hP : MPr M pr) :
    ∃ M2, fX8_finds M = some ((bstF cs w v pr).1, M2) ∧ TR M2 93 (bstF cs w v pr).2 ∧ MT M2 cs w ∧ FR (fun q => 90 ≤ q ∧ q ≤ 93) M M2 := by
  have hF := pn_F
  have hbN := bN_lt
  have h1 := h.1
  have h2 := h.2.1
  obtain ⟨M1, f1, a1, r1, e1⟩ := pX8_grows h hM
  unfold fX8_finds
  rw [f1, pn_bv, pn_lit]
  obtain ⟨M2, f2, a2, b2, r2⟩ := pX8_finds_L6 6 rm_F 0 M1 (by omega) (by omega) (fun k hk => by omega)
  have hM2 := (hM.same e1).fr r2 (by omega) (by omega)
  have hT2 : MT M2 cs w := MT.fr (fun c hc => a1 c hc) r2 (by omega)
  have hS2 : MV M2 83 v := MV.fr (fun k hk => by rw [e1]; exact hS k hk) r2 (by omega)
  have hP2 : MPr M2 pr := MPr.fr (fun k hk => by rw [e1]; exact hP k hk) r2 (by omega)
  rw [f2, pX8_expense h hv hM2 hT2 hS2 (AR.of a2 h2 rfl) hP2 hpr, pn_bd]
  obtain ⟨M3, f3, a3, r3⟩ := pX8_finds_L42 h hv hpr bN rm_F 0 (J (exI cs w v pr (dg 0))) 0 M2 (chk_cs h1 h2) (by omega) hM2 hT2 hS2 hP2 a2 b2
  refine ⟨M3, f3, a3, hT2.fr r3 (by omega), ?_⟩
  exact (r1.mono (fun a ha => by omega)).tr ((r2.mono (fun a ha => by omega)).tr (r3.mono (fun a ha => by omega)))
