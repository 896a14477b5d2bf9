/-! ===== ITEMS, the class ===== -/
def wset (w : Nat → Nat → Nat) (a b x : Nat) : Nat → Nat → Nat := fun i j => if i = a ∧ j = b then x else w i j
def jW (w : Nat → Nat → Nat) (a b x y : Nat) : Nat → Nat → Nat := wset (wset w a b x) b a y
theorem ws_eq (w : Nat → Nat → Nat) (a b x : Nat) : wset w a b x a b = x := by unfold wset; rw [if_pos ⟨rfl, rfl⟩]
theorem ws_ne (w : Nat → Nat → Nat) {a b i j : Nat} (x : Nat) (h : ¬ (i = a ∧ j = b)) : wset w a b x i j = w i j := by unfold wset; rw [if_neg h]
theorem rs_put {f g : Nat → Nat} {b x : Nat} (hb : f b = 0) (hgb : g b = x) (hg : ∀ j, j ≠ b → g j = f j) : ∀ d i, rs g i d = rs f i d + if i ≤ b ∧ b < i + d then x else 0 := by
  intro d
  induction d with
  | zero => intro i; rw [rs, rs, if_neg (by omega)]
  | succ d ih =>
    intro i
    rw [rs, rs, ih (i + 1)]
    by_cases e : i = b
    · subst e
      rw [hgb, hb, if_neg (by omega), if_pos (by omega)]
      omega
    · rw [hg i e]
      by_cases c : i + 1 ≤ b ∧ b < i + 1 + d
      · rw [if_pos c, if_pos (by omega)]; omega
      · rw [if_neg c, if_neg (by omega)]; omega
theorem pX1_lead {n a b x : Nat} {w : Nat → Nat → Nat} {M : rm_M} (ha : a < 6) (hb : b < 6) (hab : a ≠ b) (hw : w a b = 0) (hx : 0 < x) (h : netD M n w) : ∃ M2, fX1_lead n (nI a) (nI b) (nI x) M = some M2 ∧ netD M2 n (wset w a b x) ∧ FR (fun q => n + 2 ≤ q ∧ q < n + 17) M M2 := by
  obtain ⟨h1, h2, h3, h4⟩ := h
  have hib : rm_ib (nI a) 6 = true := by rw [pn_ib (by omega), decide_eq_true_eq]; omega
  have hib2 : rm_ib (nI b) 6 = true := by rw [pn_ib (by omega), decide_eq_true_eq]; omega
  unfold fX1_lead
  rw [if_pos hib, if_pos hib2, rm_lt1, if_pos hib, if_pos hib2, rm_lt1, if_pos hib, if_pos hib, rm_lt1, if_pos hib, if_pos hib, rm_lt1, nI_clamp (by omega), nI_clamp (by omega), pn_lit 1, pn_lit 31, sh1 (by omega)]
  refine ⟨_, rfl, ⟨fun i j hi hj => ?_, fun i j hi hj => ?_, fun i hi => ?_, fun i hi => ?_⟩, FR.sIr (FR.sIr (FR.sIr (FR.sIr FR.rf (by omega)) (by omega)) (by omega)) (by omega)⟩
  · simp (disch := omega) only [pn_sI_ne]
    by_cases e : i = a
    · subst e
      rw [pn_sI_eq]
      by_cases e2 : j = b
      · subst e2; rw [pn_upd_eq, ws_eq]
      · rw [pn_upd_ne _ _ e2, ws_ne _ _ (fun q => e2 q.2)]; exact h1 i j hi hj
    · rw [pn_sI_ne _ _ _ (by omega), ws_ne _ _ (fun q => e q.1)]; exact h1 i j hi hj
  · simp (disch := omega) only [pn_sI_ne]
    by_cases e : i = a
    · subst e
      rw [pn_sI_eq]
      by_cases e2 : j = b
      · subst e2
        rw [pn_upd_eq]
        unfold fw
        rw [if_neg hab, ws_eq, if_pos hx]
      · rw [pn_upd_ne _ _ e2, pn_sI_ne _ _ _ (by omega), h2 i j hi hj]
        unfold fw
        rw [ws_ne _ _ (fun q => e2 q.2)]
    · rw [pn_sI_ne _ _ _ (by omega), pn_sI_ne _ _ _ (by omega), h2 i j hi hj]
      unfold fw
      rw [ws_ne _ _ (fun q => e q.1)]
  · rw [pn_sI_ne _ _ _ (by omega), pn_sI_eq]
    by_cases e : i = a
    · subst e
      rw [pn_upd_eq, pn_sI_ne _ _ _ (by omega), pn_sI_ne _ _ _ (by omega), h3 i hi, pn_or]
      congr 1
      apply Nat.eq_of_testBit_eq
      intro c
      apply Bool.eq_iff_iff.mpr
      rw [Nat.testBit_or, Bool.or_eq_true, nr_bit, nr_bit, pow_bit]
      constructor
      · rintro (⟨q1, q2⟩ | q)
        · by_cases e2 : c = b
          · subst e2; omega
          · exact ⟨q1, by rw [ws_ne _ _ (fun q => e2 q.2)]; exact q2⟩
        · subst q; exact ⟨hb, by rw [ws_eq]; exact hx⟩
      · rintro ⟨q1, q2⟩
        by_cases e2 : c = b
        · exact Or.inr e2
        · rw [ws_ne _ _ (fun q => e2 q.2)] at q2; exact Or.inl ⟨q1, q2⟩
    · rw [pn_upd_ne _ _ e, pn_sI_ne _ _ _ (by omega), pn_sI_ne _ _ _ (by omega), h3 i hi]
      congr 1
      unfold nr
      exact ro_congr 6 0 (fun j _ _ => by rw [ws_ne _ _ (fun q => e q.1)])
  · rw [pn_sI_eq]
    by_cases e : i = a
    · subst e
      rw [pn_upd_eq, pn_sI_ne _ _ _ (by omega), pn_sI_ne _ _ _ (by omega), pn_sI_ne _ _ _ (by omega), h4 i hi, nI_add]
      congr 1
      have := rs_put (f := w i) (g := wset w i b x i) hw (ws_eq w i b x) (fun j hj => ws_ne w x (fun q => hj q.2)) 6 0
      unfold ou
      rw [this, if_pos (by omega)]
    · rw [pn_upd_ne _ _ e, pn_sI_ne _ _ _ (by omega), pn_sI_ne _ _ _ (by omega), pn_sI_ne _ _ _ (by omega), h4 i hi]
      congr 1
      unfold ou
      exact rs_congr 6 0 (fun j _ _ => by rw [ws_ne _ _ (fun q => e q.1)])
theorem pX1_join {n a b x y jn : Nat} {w : Nat → Nat → Nat} {M : rm_M} (ha : a < 6) (hb : b < 6) (hab : a ≠ b) (hw : w a b = 0) (hw2 : w b a = 0) (hx : 0 < x) (hy : 0 < y) (h : netD M n w) (hj : M.1 n 1 = nI jn) : ∃ M2, fX1_join n (nI a) (nI b) (nI x) (nI y) M = some M2 ∧ netD M2 n (jW w a b x y) ∧ M2.1 n 1 = nI (jn + 1) ∧ (∀ k, k ≠ 1 → M2.1 n k = M.1 n k) ∧ FR (fun q => n ≤ q ∧ q < n + 17) M M2 := by
  unfold fX1_join
  rw [hj, pn_lit 1, nI_add, rm_lt1]
  have r0 : FR (fun q => q = n) M (rm_sI M n 1 (nI (jn + 1))) := FR.sI rfl
  obtain ⟨M1, f1, g1, r1⟩ := pX1_lead ha hb hab hw hx (h.fr r0 (fun a h1 h2 => by omega))
  obtain ⟨M2, f2, g2, r2⟩ := pX1_lead hb ha (Ne.symm hab) (by rw [ws_ne _ _ (fun q => hab q.1.symm)]; exact hw2) hy g1
  rw [f1, pn_bv, f2, pn_bv]
  refine ⟨M2, rfl, g2, ?_, fun k hk => ?_, (r0.mono (fun a ha => by omega)).tr ((r1.mono (fun a ha => by omega)).tr (r2.mono (fun a ha => by omega)))⟩
  · rw [(r2.1 n (by omega)).1, (r1.1 n (by omega)).1, pn_sI_eq, pn_upd_eq]
  · rw [(r2.1 n (by omega)).1, (r1.1 n (by omega)).1, pn_sI_eq, pn_upd_ne _ _ hk]
def vI : Nat → Nat := fun k => if k < 6 then 1 else 0
theorem pX4_begin {s : Nat} {M : rm_M} : ∃ M2, fX4_begin s M = some M2 ∧ SV M2 s vI ∧ FR (fun q => q = s ∨ q = s + 1 ∨ q = s + 2) M M2 := by
  have hF := pn_F
  have key : ∀ d f i M, i + d = 6 → d < f → (∀ c, c < i → M.1 (s + 1) c = nI 1 ∧ M.1 (s + 2) c = nI 0) → ∃ M2, fX4_begin_L2 s f (nI i) M = some M2 ∧ SV M2 s vI ∧ FR (fun q => q = s ∨ q = s + 1 ∨ q = s + 2) M M2 := by
    intro d
    induction d with
    | zero =>
      intro f i M hi hf h0
      obtain ⟨f, rfl⟩ : ∃ z, f = z + 1 := ⟨f - 1, by omega⟩
      have r1 : FR (fun q => q = s ∨ q = s + 1 ∨ q = s + 2) M (rm_sI (rm_sI (rm_sI (rm_sI (rm_sI M s 2 (nI 0)) s 3 (nI 0)) s 4 (nI 0)) s 8 (nI 0)) s 9 (nI 0)) := FR.sIr (FR.sIr (FR.sIr (FR.sIr (FR.sIr FR.rf (Or.inl rfl)) (Or.inl rfl)) (Or.inl rfl)) (Or.inl rfl)) (Or.inl rfl)
      rw [fX4_begin_L2, pn_lit 6, if_pos (by rw [nI_leI (by omega) (by omega)]; omega), pn_lit 0, rm_lt1, rm_lt1, rm_lt1, rm_lt1, rm_lt1]
      unfold fX4_register
      simp only [rm_lt1, pn_lit, pn_bv]
      refine ⟨_, rfl, ⟨fun c hc => ?_, fun c hc => ?_, fun j h1 h2 => ?_⟩, FR.sIr (FR.sIr (FR.sIr r1 (Or.inl rfl)) (Or.inl rfl)) (Or.inl rfl)⟩
      · simp (disch := omega) only [pn_sI_ne]
        rw [(h0 c (by omega)).1]; unfold vI; rw [if_pos hc]
      · simp (disch := omega) only [pn_sI_ne]
        rw [(h0 c (by omega)).2]; unfold vI; rw [if_neg (by omega)]
      · rcases (show j = 2 ∨ j = 3 ∨ j = 4 ∨ j = 5 ∨ j = 6 ∨ j = 7 ∨ j = 8 ∨ j = 9 by omega) with rfl | rfl | rfl | rfl | rfl | rfl | rfl | rfl <;> simp (disch := omega) only [pn_sI_eq, pn_upd_eq, pn_upd_ne] <;> rfl
    | succ d ih =>
      intro f i M hi hf h0
      obtain ⟨f, rfl⟩ : ∃ z, f = z + 1 := ⟨f - 1, by omega⟩
      have hib : rm_ib (nI i) 6 = true := by rw [pn_ib (by omega), decide_eq_true_eq]; omega
      rw [fX4_begin_L2, pn_lit 6, if_neg (by rw [nI_leI (by omega) (by omega)]; omega), if_pos hib, rm_lt1, if_pos hib, rm_lt1, nI_clamp (by omega), pn_lit 0, pn_lit 1, nI_add]
      obtain ⟨M2, f2, g2, r2⟩ := ih f (i + 1) (rm_sI (rm_sI M (s + 1) i (nI 1)) (s + 2) i (nI 0)) (by omega) (by omega) (fun c hc => by
        rw [pn_sI_ne _ _ _ (by omega), pn_sI_eq, pn_sI_eq, pn_sI_ne _ _ _ (by omega)]
        by_cases e : c = i
        · subst e; rw [pn_upd_eq, pn_upd_eq]; exact ⟨rfl, rfl⟩
        · rw [pn_upd_ne _ _ e, pn_upd_ne _ _ e]; exact h0 c (by omega))
      exact ⟨M2, f2, g2, FR.tr (FR.sIr (FR.sIr FR.rf (Or.inr (Or.inl rfl))) (Or.inr (Or.inr rfl))) r2⟩
  unfold fX4_begin
  rw [pn_lit 0]
  exact key 6 rm_F 0 M (by omega) (by omega) (fun c hc => by omega)
theorem ib40 : rm_ib (nI 0) 4 = true := by decide
theorem ib41 : rm_ib (nI 1) 4 = true := by decide
theorem ib42 : rm_ib (nI 2) 4 = true := by decide
theorem ib43 : rm_ib (nI 3) 4 = true := by decide
theorem cl0 : (nI 0).toNatClampNeg = 0 := nI_clamp (by omega)
theorem cl1 : (nI 1).toNatClampNeg = 1 := nI_clamp (by omega)
theorem cl2 : (nI 2).toNatClampNeg = 2 := nI_clamp (by omega)
theorem cl3 : (nI 3).toNatClampNeg = 3 := nI_clamp (by omega)
theorem pX5_takeCells {n : Nat} {M : rm_M} {V : Nat → Nat} (hn : n = 14 ∨ n = 33) (h3 : ∀ j, j < 1 → M.1 3 j = nI (V j)) (hV : ∀ j, V j ≤ 99) : ∃ M2, fX5_takeCells n M = some (nI (if 2 ≤ V 0 ∧ V 0 ≤ 6 then 1 else 0), M2) ∧ (2 ≤ V 0 ∧ V 0 ≤ 6 → M2.1 n 0 = nI (V 0) ∧ M2.1 n 1 = nI 0 ∧ netD M2 n w0 ∧ CPr M2 n prd) ∧ FR (fun q => n ≤ q ∧ q < n + 17) M M2 := by
  have b := hV 0
  unfold fX5_takeCells
  rw [pn_lit 0, pn_lit 2, pn_lit 6, pn_lit 1, if_pos ib40, cl0, h3 0 (by omega)]
  by_cases c : 2 ≤ V 0 ∧ V 0 ≤ 6
  · obtain ⟨M2, f2, a1, a2, a3, a4, r2⟩ := pX1_begin (c := V 0) (M := M) hn
    rw [if_neg (by rw [nI_ltI (by omega) (by omega)]; omega), if_pos ib40, if_pos (by rw [nI_leI (by omega) (by omega)]; omega), if_pos ib40, f2, pn_bv, if_pos c]
    exact ⟨M2, rfl, fun _ => ⟨a1, a2, a3, a4⟩, r2⟩
  · rw [if_neg c]
    refine ⟨M, ?_, fun q => absurd q c, FR.rf⟩
    by_cases c1 : V 0 < 2
    · rw [if_pos (by rw [nI_ltI (by omega) (by omega)]; exact c1)]; rfl
    · rw [if_neg (by rw [nI_ltI (by omega) (by omega)]; exact c1), if_pos ib40, if_neg (by rw [nI_leI (by omega) (by omega)]; omega)]; rfl
theorem pX5_isWeight {x : Nat} (hx : x ≤ 99) (M : rm_M) : fX5_isWeight (nI x) M = some (nI (if 1 ≤ x ∧ x ≤ 4 then 1 else 0), M) := by
  unfold fX5_isWeight
  rw [pn_lit 1, pn_lit 4]
  by_cases c : x < 1
  · rw [if_pos (by rw [nI_ltI (by omega) (by omega)]; exact c), if_neg (by omega)]; rfl
  · rw [if_neg (by rw [nI_ltI (by omega) (by omega)]; exact c)]
    by_cases c2 : 4 < x
    · rw [if_pos (by rw [nI_ltI (by omega) (by omega)]; exact c2), if_neg (by omega)]; rfl
    · rw [if_neg (by rw [nI_ltI (by omega) (by omega)]; exact c2), if_pos (by omega)]; rfl
def jOk (cs : Nat) (w : Nat → Nat → Nat) (V : Nat → Nat) : Prop := V 0 < cs ∧ V 1 < cs ∧ V 0 ≠ V 1 ∧ w (V 0) (V 1) = 0 ∧ (1 ≤ V 2 ∧ V 2 ≤ 4) ∧ (1 ≤ V 3 ∧ V 3 ≤ 4)
theorem pX5_takeJoin {n cs jn : Nat} {w : Nat → Nat → Nat} {M : rm_M} {V : Nat → Nat} (hcs : cs ≤ 6) (h3 : ∀ j, j < 4 → M.1 3 j = nI (V j)) (hV : ∀ j, V j ≤ 99) (h0 : M.1 n 0 = nI cs) (h1 : M.1 n 1 = nI jn) (hN : netD M n w) (hw4 : ∀ a b, w a b ≤ 4) (hsy : ∀ a b, 0 < w a b ↔ 0 < w b a) :
    (¬ jOk cs w V ∧ fX5_takeJoin n M = some (nI 0, M)) ∨ (jOk cs w V ∧ ∃ M2, fX5_takeJoin n M = some (nI 1, M2) ∧ netD M2 n (jW w (V 0) (V 1) (V 2) (V 3)) ∧ M2.1 n 1 = nI (jn + 1) ∧ (∀ k, k ≠ 1 → M2.1 n k = M.1 n k) ∧ FR (fun q => n ≤ q ∧ q < n + 17) M M2) := by
  have b0 := hV 0
  have b1 := hV 1
  have b2 := hV 2
  have b3 := hV 3
  unfold fX5_takeJoin jOk
  rw [pn_lit 0, pn_lit 1, pn_lit 2, pn_lit 3, if_pos ib40, rm_lt1, cl0, h3 0 (by omega), if_pos ib41, rm_lt1, cl1, h3 1 (by omega), h0]
  by_cases c0 : cs ≤ V 0
  · rw [if_pos (by rw [nI_leI (by omega) (by omega)]; exact c0)]
    exact Or.inl ⟨by omega, rfl⟩
  · rw [if_neg (by rw [nI_leI (by omega) (by omega)]; exact c0)]
    by_cases c1 : cs ≤ V 1
    · rw [if_pos (by rw [nI_leI (by omega) (by omega)]; exact c1)]
      exact Or.inl ⟨by omega, rfl⟩
    · rw [if_neg (by rw [nI_leI (by omega) (by omega)]; exact c1)]
      by_cases c2 : V 0 = V 1
      · rw [if_pos (by rw [c2])]
        exact Or.inl ⟨by omega, rfl⟩
      · rw [if_neg (by rw [nI_eq (by omega) (by omega)]; exact c2), if_pos (by rw [pn_ib (by omega), decide_eq_true_eq]; omega), if_pos (by rw [pn_ib (by omega), decide_eq_true_eq]; omega), nI_clamp (by omega), nI_clamp (by omega), hN.1 _ _ (by omega) (by omega)]
        have hw := hw4 (V 0) (V 1)
        by_cases c3 : w (V 0) (V 1) = 0
        · rw [if_pos (by rw [c3]), if_pos ib42, cl2, h3 2 (by omega), pX5_isWeight b2, pn_bd]
          by_cases c4 : 1 ≤ V 2 ∧ V 2 ≤ 4
          · rw [if_pos c4, if_neg z10, if_pos ib43, cl3, h3 3 (by omega), pX5_isWeight b3, pn_bd]
            by_cases c5 : 1 ≤ V 3 ∧ V 3 ≤ 4
            · rw [if_pos c5, if_neg z10, if_pos ib42, if_pos ib43, h3 2 (by omega), h3 3 (by omega)]
              have hw2 : w (V 1) (V 0) = 0 := by have := hsy (V 0) (V 1); omega
              obtain ⟨M2, f2, g1, g2, g3, r2⟩ := pX1_join (a := V 0) (b := V 1) (by omega) (by omega) c2 c3 hw2 (show 0 < V 2 by omega) (show 0 < V 3 by omega) hN h1
              rw [f2, pn_bv]
              exact Or.inr ⟨⟨by omega, by omega, c2, c3, c4, c5⟩, M2, rfl, g1, g2, g3, r2⟩
            · rw [if_neg c5, if_pos rfl]
              exact Or.inl ⟨fun q => c5 q.2.2.2.2.2, rfl⟩
          · rw [if_neg c4, if_pos rfl]
            exact Or.inl ⟨fun q => c4 q.2.2.2.2.1, rfl⟩
        · rw [if_neg (by rw [nI_eq (by omega) (by omega)]; exact c3)]
          exact Or.inl ⟨fun q => c3 q.2.2.2.1, rfl⟩
theorem pX5_takeCellNumber {n q cs lim : Nat} {M : rm_M} {V : Nat → Nat} (hcs : cs ≤ 6) (hk : (rm_kd q).2 = 6) (hl : lim < 100) (h3 : ∀ j, j < 2 → M.1 3 j = nI (V j)) (hV : ∀ j, V j ≤ 99) (h0 : M.1 n 0 = nI cs) :
    (¬ (V 0 < cs ∧ V 1 ≤ lim) ∧ fX5_takeCellNumber n q (nI lim) M = some (nI 0, M)) ∨ ((V 0 < cs ∧ V 1 ≤ lim) ∧ fX5_takeCellNumber n q (nI lim) M = some (nI 1, rm_sI M q (V 0) (nI (V 1)))) := by
  have b0 := hV 0
  have b1 := hV 1
  unfold fX5_takeCellNumber
  rw [pn_lit 0, pn_lit 1, if_pos ib40, cl0, h3 0 (by omega), h0]
  by_cases c0 : cs ≤ V 0
  · rw [if_pos (by rw [nI_leI (by omega) (by omega)]; exact c0)]
    exact Or.inl ⟨by omega, rfl⟩
  · rw [if_neg (by rw [nI_leI (by omega) (by omega)]; exact c0), if_pos ib41, cl1, h3 1 (by omega)]
    by_cases c1 : V 1 ≤ lim
    · rw [if_pos (by rw [nI_leI (by omega) (by omega)]; exact c1), if_pos ib40, if_pos ib41, hk, if_pos (by rw [pn_ib (by omega), decide_eq_true_eq]; omega), rm_lt1, nI_clamp (by omega)]
      exact Or.inr ⟨⟨by omega, c1⟩, rfl⟩
    · rw [if_neg (by rw [nI_leI (by omega) (by omega)]; exact c1)]
      exact Or.inl ⟨by omega, rfl⟩
def lOk (k x : Nat) : Prop := k ≤ 3 ∧ (k = 0 → x = 0) ∧ (k ≠ 0 → 1 ≤ x ∧ x ≤ 9)
theorem isLaw_n {k x : Nat} (hk : k ≤ 99) (hx : x ≤ 99) : (lOk k x ∧ ∀ M, fX7_isLaw (nI k) (nI x) M = some (nI 1, M) ∧ fX8_isLaw (nI k) (nI x) M = some (nI 1, M)) ∨ (¬ lOk k x ∧ ∀ M, fX7_isLaw (nI k) (nI x) M = some (nI 0, M) ∧ fX8_isLaw (nI k) (nI x) M = some (nI 0, M)) := by
  rcases isLaw_or (nI k) (nI x) with ⟨k2, x2, e1, e2, h1, h2, h3, h4⟩ | h
  · have x9 : x2 ≤ 9 := by
      by_cases c : k2 = 0
      · have := h2 c; omega
      · exact (h3 c).2
    rw [nI_eq (by omega) (by omega)] at e1 e2
    subst e1 e2
    exact Or.inl ⟨⟨h1, h2, h3⟩, h4⟩
  · refine Or.inr ⟨fun q => ?_, h⟩
    obtain ⟨q1, q2, q3⟩ := q
    have := (h (fun _ _ => 0, fun _ _ => 0, fun _ => 0)).1
    unfold fX7_isLaw at this
    rw [pn_lit 0, pn_lit 1, pn_lit 3, pn_lit 9] at this
    by_cases c : k = 0
    · rw [if_pos (by rw [c]), if_pos (by rw [q2 c])] at this
      have h5 : (nI 1 : Int32) = nI 0 := by
        have h6 : some (nI 1, ((fun _ _ => 0, fun _ _ => 0, fun _ => 0) : rm_M)) = some (nI 0, (fun _ _ => 0, fun _ _ => 0, fun _ => 0)) := this
        injection h6 with h7
        injection h7
      exact z10 h5
    · have q4 := q3 c
      rw [if_neg (by rw [nI_eq (by omega) (by omega)]; exact c), if_neg (by rw [nI_ltI (by omega) (by omega)]; omega), if_neg (by rw [nI_ltI (by omega) (by omega)]; omega), if_neg (by rw [nI_ltI (by omega) (by omega)]; omega), if_neg (by rw [nI_ltI (by omega) (by omega)]; omega)] at this
      have h5 : (nI 1 : Int32) = nI 0 := by
        have h6 : some (nI 1, ((fun _ _ => 0, fun _ _ => 0, fun _ => 0) : rm_M)) = some (nI 0, (fun _ _ => 0, fun _ _ => 0, fun _ => 0)) := this
        injection h6 with h7
        injection h7
      exact z10 h5
theorem pX5_takeLaw {s : Nat} {M : rm_M} {V v : Nat → Nat} (hs : 3 < s) (h3 : ∀ j, j < 2 → M.1 3 j = nI (V j)) (hV : ∀ j, V j ≤ 99) (hS : SV M s v) :
    (¬ lOk (V 0) (V 1) ∧ fX5_takeLaw s M = some (nI 0, M)) ∨ (lOk (V 0) (V 1) ∧ ∃ M2, fX5_takeLaw s M = some (nI 1, M2) ∧ SV M2 s (vu (vu v 12 (V 0)) 13 (V 1)) ∧ FR (fun q => q = s) M M2) := by
  unfold fX5_takeLaw
  rw [pn_lit 0, pn_lit 1, if_pos ib40, if_pos ib41, cl0, cl1, h3 0 (by omega), h3 1 (by omega)]
  rcases isLaw_n (hV 0) (hV 1) with ⟨c, h⟩ | ⟨c, h⟩
  · right
    refine ⟨c, rm_sI (rm_sI M s 2 (nI (V 0))) s 3 (nI (V 1)), ?_, (hS.put (j := 2) (V 0) (by omega) (by omega)).put (j := 3) (V 1) (by omega) (by omega), FR.sIr (FR.sIr FR.rf rfl) rfl⟩
    rw [(h M).1, pn_bd, if_neg z10, if_pos ib40, rm_lt1, if_pos ib41, h3 0 (by omega), pn_sI_ne _ _ _ (by omega), h3 1 (by omega), rm_lt1]
    rfl
  · left
    refine ⟨c, ?_⟩
    rw [(h M).1, pn_bd, if_pos rfl]
    rfl
theorem pX5_takePrices {n : Nat} {M : rm_M} {V : Nat → Nat} (h3 : ∀ j, j < 4 → M.1 3 j = nI (V j)) (hV : ∀ j, V j ≤ 99) :
    (¬ (1 ≤ V 0 ∧ V 0 ≤ 4) ∧ fX5_takePrices n M = some (nI 0, M)) ∨ ((1 ≤ V 0 ∧ V 0 ≤ 4) ∧ ∃ M2, fX5_takePrices n M = some (nI 1, M2) ∧ (∀ k, k < 2 → M2.1 n k = M.1 n k) ∧ CPr M2 n V ∧ FR (fun q => q = n) M M2) := by
  have b0 := hV 0
  unfold fX5_takePrices
  rw [pn_lit 0, pn_lit 1, pn_lit 4, pn_lit 2, pn_lit 3, if_pos ib40, cl0, cl1, cl2, cl3, h3 0 (by omega), h3 1 (by omega), h3 2 (by omega), h3 3 (by omega)]
  by_cases c0 : V 0 < 1
  · rw [if_pos (by rw [nI_ltI (by omega) (by omega)]; exact c0)]
    exact Or.inl ⟨by omega, rfl⟩
  · rw [if_neg (by rw [nI_ltI (by omega) (by omega)]; exact c0), if_pos ib40]
    by_cases c1 : V 0 ≤ 4
    · obtain ⟨M2, f2, g0, g2, g3, g4, g5, r2⟩ := pX1_price (M := M) (n := n) (r := V 0) (c := V 1) (u := V 2) (q := V 3)
      rw [if_pos (by rw [nI_leI (by omega) (by omega)]; exact c1), if_pos ib40, if_pos ib41, if_pos ib42, if_pos ib43, f2, pn_bv]
      refine Or.inr ⟨⟨by omega, c1⟩, M2, rfl, g0, fun k hk => ?_, r2⟩
      rcases (show k = 0 ∨ k = 1 ∨ k = 2 ∨ k = 3 by omega) with rfl | rfl | rfl | rfl
      · exact g2
      · exact g3
      · exact g4
      · exact g5
    · rw [if_neg (by rw [nI_leI (by omega) (by omega)]; exact c1)]
      exact Or.inl ⟨by omega, rfl⟩
