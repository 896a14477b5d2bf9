/-! ===== reading, the class ===== -/
def jB (cs : Nat) (w : Nat → Nat → Nat) (V : Nat → Nat) : Bool := decide (V 0 < cs) && decide (V 1 < cs) && decide (V 0 ≠ V 1) && decide (w (V 0) (V 1) = 0) && decide (1 ≤ V 2) && decide (V 2 ≤ 4) && decide (1 ≤ V 3) && decide (V 3 ≤ 4)
theorem jB_iff {cs : Nat} {w : Nat → Nat → Nat} {V : Nat → Nat} : jB cs w V = true ↔ jOk cs w V := by
  unfold jB jOk
  simp only [Bool.and_eq_true, decide_eq_true_eq]
  omega
def lB (k x : Nat) : Bool := decide (k ≤ 3) && (if k = 0 then decide (x = 0) else decide (1 ≤ x) && decide (x ≤ 9))
theorem lB_iff {k x : Nat} : lB k x = true ↔ lOk k x := by
  unfold lB lOk
  rw [Bool.and_eq_true, decide_eq_true_eq]
  by_cases c : k = 0
  · rw [if_pos c, decide_eq_true_eq]; omega
  · rw [if_neg c, Bool.and_eq_true, decide_eq_true_eq, decide_eq_true_eq]; omega
/-- an ITEM at p: where it ends, and what it tells -/
def itm (tl : Nat) (tx : Nat → Nat) (p cs jn : Nat) (w : Nat → Nat → Nat) (pr v : Nat → Nat) : Option (Nat × Nat × Nat × (Nat → Nat → Nat) × (Nat → Nat) × (Nat → Nat)) :=
  if tx p = 110 then (if cs = 0 ∧ sy tl tx 1 (p + 1) = true ∧ 2 ≤ vv tl tx 0 (p + 1) ∧ vv tl tx 0 (p + 1) ≤ 6 then some (pkk tl tx 1 (p + 1), vv tl tx 0 (p + 1), jn, w, pr, v) else none)
  else if cs = 0 then none
  else if tx p = 97 then (if sy tl tx 2 (p + 1) = true ∧ vv tl tx 0 (p + 1) < cs ∧ vv tl tx 1 (p + 1) ≤ 5 then some (pkk tl tx 2 (p + 1), cs, jn, w, pr, vu v (6 + vv tl tx 0 (p + 1)) (vv tl tx 1 (p + 1))) else none)
  else if tx p = 106 then (if sy tl tx 4 (p + 1) = true ∧ jB cs w (fun j => vv tl tx j (p + 1)) = true then some (pkk tl tx 4 (p + 1), cs, jn + 1, jW w (vv tl tx 0 (p + 1)) (vv tl tx 1 (p + 1)) (vv tl tx 2 (p + 1)) (vv tl tx 3 (p + 1)), pr, v) else none)
  else if tx p = 108 then (if sy tl tx 2 (p + 1) = true ∧ lB (vv tl tx 0 (p + 1)) (vv tl tx 1 (p + 1)) = true then some (pkk tl tx 2 (p + 1), cs, jn, w, pr, vu (vu v 12 (vv tl tx 0 (p + 1))) 13 (vv tl tx 1 (p + 1))) else none)
  else if tx p = 112 then (if sy tl tx 4 (p + 1) = true ∧ 1 ≤ vv tl tx 0 (p + 1) ∧ vv tl tx 0 (p + 1) ≤ 4 then some (pkk tl tx 4 (p + 1), cs, jn, w, (fun k => vv tl tx k (p + 1)), v) else none)
  else if tx p = 115 then (if sy tl tx 2 (p + 1) = true ∧ vv tl tx 0 (p + 1) < cs ∧ vv tl tx 1 (p + 1) ≤ 9 then some (pkk tl tx 2 (p + 1), cs, jn, w, pr, vu v (vv tl tx 0 (p + 1)) (vv tl tx 1 (p + 1))) else none)
  else none
def VD (v : Nat → Nat) : Prop := (∀ c, c < 6 → v c ≤ 9 ∧ v (6 + c) ≤ 5) ∧ v 12 ≤ 3 ∧ (v 12 = 0 → v 13 = 0) ∧ (v 12 ≠ 0 → 1 ≤ v 13 ∧ v 13 ≤ 9) ∧ ∀ k, 14 ≤ k → k < 20 → v k = 0
/-- what is told keeps to this -/
def WD (cs jn : Nat) (w : Nat → Nat → Nat) (pr v : Nat → Nat) : Prop := ((cs = 0 ∧ jn = 0 ∧ w = w0 ∧ pr = prd) ∨ (2 ≤ cs ∧ cs ≤ 6)) ∧ (∀ a b, w a b ≤ 4) ∧ (∀ a, w a a = 0) ∧ (∀ a b, 0 < w a b ↔ 0 < w b a) ∧ (∀ a b, 0 < w a b → a < cs ∧ b < cs) ∧ (∀ k, k < 4 → pr k ≤ 99) ∧ (1 ≤ pr 0 ∧ pr 0 ≤ 4) ∧ VD v
theorem WD0 : WD 0 0 w0 prd vI := by
  refine ⟨Or.inl ⟨rfl, rfl, rfl, rfl⟩, fun a b => Nat.zero_le _, fun a => rfl, fun a b => Iff.rfl, fun a b h => absurd h (Nat.lt_irrefl 0), fun k hk => ?_, ⟨by decide, by decide⟩, fun c hc => ?_, by decide, fun _ => rfl, fun h => absurd rfl h, fun k h1 h2 => ?_⟩
  · unfold prd; split <;> (try split) <;> (try split) <;> omega
  · unfold vI; rw [if_pos hc, if_neg (by omega)]; omega
  · unfold vI; rw [if_neg (by omega)]
theorem itm_ok {tl p cs jn : Nat} {tx : Nat → Nat} {w : Nat → Nat → Nat} {pr v : Nat → Nat} (h : WD cs jn w pr v) {p' cs' jn' : Nat} {w' : Nat → Nat → Nat} {pr' v' : Nat → Nat} (hi : itm tl tx p cs jn w pr v = some (p', cs', jn', w', pr', v')) (hp : p < tl) : WD cs' jn' w' pr' v' ∧ p < p' ∧ p' ≤ tl ∧ 2 ≤ cs' ∧ cs' ≤ 6 := by
  obtain ⟨h1, h2, h3, h4, h5, h6, h7, h8⟩ := h
  have hcs : cs ≠ 0 → 2 ≤ cs ∧ cs ≤ 6 := fun q => by omega
  unfold itm at hi
  split at hi
  · split at hi
    · rename_i c
      obtain ⟨c1, c2, c3, c4⟩ := c
      injection hi with hi
      obtain ⟨rfl, rfl, rfl, rfl, rfl, rfl⟩ : _ ∧ _ ∧ _ ∧ _ ∧ _ ∧ _ := by simpa [Prod.mk.injEq] using hi
      refine ⟨⟨Or.inr ⟨c3, c4⟩, h2, h3, h4, fun a b q => ?_, h6, h7, h8⟩, ?_, pkk_le _ _ (by omega) c2, c3, c4⟩
      · have := h5 a b q; omega
      · have := pkk_ge tl tx 1 (p + 1); omega
    · cases hi
  · split at hi
    · cases hi
    · rename_i c0
      have hc := hcs c0
      split at hi
      · split at hi
        · rename_i c
          injection hi with hi
          obtain ⟨rfl, rfl, rfl, rfl, rfl, rfl⟩ : _ ∧ _ ∧ _ ∧ _ ∧ _ ∧ _ := by simpa [Prod.mk.injEq] using hi
          refine ⟨⟨Or.inr hc, h2, h3, h4, h5, h6, h7, fun j hj => ?_, ?_, ?_, ?_, fun k k1 k2 => ?_⟩, ?_, pkk_le _ _ (by omega) c.1, hc.1, hc.2⟩
          · rw [vu_ne _ _ (by omega)]
            refine ⟨(h8.1 j hj).1, ?_⟩
            unfold vu
            split
            · exact c.2.2
            · exact (h8.1 j hj).2
          · rw [vu_ne _ _ (by omega)]; exact h8.2.1
          · rw [vu_ne _ _ (by omega), vu_ne _ _ (by omega)]; exact h8.2.2.1
          · rw [vu_ne _ _ (by omega), vu_ne _ _ (by omega)]; exact h8.2.2.2.1
          · rw [vu_ne _ _ (by omega)]; exact h8.2.2.2.2 k k1 k2
          · have := pkk_ge tl tx 2 (p + 1); omega
        · cases hi
      · split at hi
        · split at hi
          · rename_i c
            obtain ⟨j1, j2, j3, j4, j5, j6⟩ : vv tl tx 0 (p + 1) < cs ∧ vv tl tx 1 (p + 1) < cs ∧ vv tl tx 0 (p + 1) ≠ vv tl tx 1 (p + 1) ∧ w (vv tl tx 0 (p + 1)) (vv tl tx 1 (p + 1)) = 0 ∧ (1 ≤ vv tl tx 2 (p + 1) ∧ vv tl tx 2 (p + 1) ≤ 4) ∧ (1 ≤ vv tl tx 3 (p + 1) ∧ vv tl tx 3 (p + 1) ≤ 4) := jB_iff.mp c.2
            injection hi with hi
            obtain ⟨rfl, rfl, rfl, rfl, rfl, rfl⟩ : _ ∧ _ ∧ _ ∧ _ ∧ _ ∧ _ := by simpa [Prod.mk.injEq] using hi
            generalize vv tl tx 0 (p + 1) = A at *
            generalize vv tl tx 1 (p + 1) = B at *
            generalize vv tl tx 2 (p + 1) = X at *
            generalize vv tl tx 3 (p + 1) = Y at *
            have hval : ∀ a b, (a = A ∧ b = B ∧ jW w A B X Y a b = X) ∨ (a = B ∧ b = A ∧ jW w A B X Y a b = Y) ∨ (¬ (a = A ∧ b = B) ∧ ¬ (a = B ∧ b = A) ∧ jW w A B X Y a b = w a b) := by
              intro a b
              unfold jW
              by_cases q2 : a = B ∧ b = A
              · obtain ⟨rfl, rfl⟩ := q2
                exact Or.inr (Or.inl ⟨rfl, rfl, ws_eq _ _ _ _⟩)
              · by_cases q1 : a = A ∧ b = B
                · obtain ⟨rfl, rfl⟩ := q1
                  exact Or.inl ⟨rfl, rfl, by rw [ws_ne _ _ q2, ws_eq]⟩
                · exact Or.inr (Or.inr ⟨q1, q2, by rw [ws_ne _ _ q2, ws_ne _ _ q1]⟩)
            refine ⟨⟨Or.inr hc, fun a b => ?_, fun a => ?_, fun a b => ?_, fun a b q => ?_, h6, h7, h8⟩, ?_, pkk_le _ _ (by omega) c.1, hc.1, hc.2⟩
            · rcases hval a b with q | q | q
              · omega
              · omega
              · rw [q.2.2]; exact h2 a b
            · rcases hval a a with q | q | q
              · omega
              · omega
              · rw [q.2.2]; exact h3 a
            · have hs := h4 a b
              rcases hval a b with q | q | q <;> rcases hval b a with u | u | u <;> omega
            · rcases hval a b with z | z | z
              · omega
              · omega
              · rw [z.2.2] at q; exact h5 a b q
            · have := pkk_ge tl tx 4 (p + 1); omega
          · cases hi
        · split at hi
          · split at hi
            · rename_i c
              obtain ⟨l1, l2, l3⟩ := lB_iff.mp c.2
              injection hi with hi
              obtain ⟨rfl, rfl, rfl, rfl, rfl, rfl⟩ : _ ∧ _ ∧ _ ∧ _ ∧ _ ∧ _ := by simpa [Prod.mk.injEq] using hi
              refine ⟨⟨Or.inr hc, h2, h3, h4, h5, h6, h7, fun j hj => ?_, ?_, ?_, ?_, fun k k1 k2 => ?_⟩, ?_, pkk_le _ _ (by omega) c.1, hc.1, hc.2⟩
              · rw [vu_ne _ _ (by omega), vu_ne _ _ (by omega), vu_ne _ _ (by omega), vu_ne _ _ (by omega)]; exact h8.1 j hj
              · rw [vu_ne _ _ (by omega), vu_eq]; exact l1
              · rw [vu_ne _ _ (by omega), vu_eq, vu_eq]; exact l2
              · rw [vu_ne _ _ (by omega), vu_eq, vu_eq]; exact l3
              · rw [vu_ne _ _ (by omega), vu_ne _ _ (by omega)]; exact h8.2.2.2.2 k k1 k2
              · have := pkk_ge tl tx 2 (p + 1); omega
            · cases hi
          · split at hi
            · split at hi
              · rename_i c
                injection hi with hi
                obtain ⟨rfl, rfl, rfl, rfl, rfl, rfl⟩ : _ ∧ _ ∧ _ ∧ _ ∧ _ ∧ _ := by simpa [Prod.mk.injEq] using hi
                refine ⟨⟨Or.inr hc, h2, h3, h4, h5, fun k _ => vv_le tl tx k _, c.2, h8⟩, ?_, pkk_le _ _ (by omega) c.1, hc.1, hc.2⟩
                have := pkk_ge tl tx 4 (p + 1); omega
              · cases hi
            · split at hi
              · split at hi
                · rename_i c
                  injection hi with hi
                  obtain ⟨rfl, rfl, rfl, rfl, rfl, rfl⟩ : _ ∧ _ ∧ _ ∧ _ ∧ _ ∧ _ := by simpa [Prod.mk.injEq] using hi
                  refine ⟨⟨Or.inr hc, h2, h3, h4, h5, h6, h7, fun j hj => ?_, ?_, ?_, ?_, fun k k1 k2 => ?_⟩, ?_, pkk_le _ _ (by omega) c.1, hc.1, hc.2⟩
                  · rw [vu_ne _ _ (show 6 + j ≠ _ by omega)]
                    refine ⟨?_, (h8.1 j hj).2⟩
                    unfold vu
                    split
                    · exact c.2.2
                    · exact (h8.1 j hj).1
                  · rw [vu_ne _ _ (by omega)]; exact h8.2.1
                  · rw [vu_ne _ _ (by omega), vu_ne _ _ (by omega)]; exact h8.2.2.1
                  · rw [vu_ne _ _ (by omega), vu_ne _ _ (by omega)]; exact h8.2.2.2.1
                  · rw [vu_ne _ _ (by omega)]; exact h8.2.2.2.2 k k1 k2
                  · have := pkk_ge tl tx 2 (p + 1); omega
                · cases hi
              · cases hi
def DC (M : rm_M) (n s cs jn : Nat) (w : Nat → Nat → Nat) (pr v : Nat → Nat) : Prop := M.1 n 0 = nI cs ∧ M.1 n 1 = nI jn ∧ netD M n w ∧ CPr M n pr ∧ SV M s v
/-- places of a reading -/
def rdS (n s q : Nat) : Prop := q = 1 ∨ q = 3 ∨ (n ≤ q ∧ q < n + 17) ∨ q = s ∨ q = s + 1 ∨ q = s + 2
theorem DC.fr {S : Nat → Prop} {M M2 : rm_M} {n s cs jn : Nat} {w : Nat → Nat → Nat} {pr v : Nat → Nat} (h : DC M n s cs jn w pr v) (hF : FR S M M2) (h0 : ∀ a, S a → a < 4) (hn : 14 ≤ n) (hs : 14 ≤ s) : DC M2 n s cs jn w pr v := by
  have g : ∀ a, 4 ≤ a → ¬ S a := fun a ha q => by have := h0 a q; omega
  obtain ⟨h1, h2, h3, h4, h5⟩ := h
  exact ⟨by rw [(hF.1 _ (g _ (by omega))).1]; exact h1, by rw [(hF.1 _ (g _ (by omega))).1]; exact h2, h3.fr hF (fun a q1 q2 => g _ (by omega)), h4.fr hF (g _ (by omega)), h5.fr hF (g _ (by omega)) (g _ (by omega)) (g _ (by omega))⟩
theorem kdst {s : Nat} (hs : s = 55 ∨ s = 58) : (rm_kd (s + 1)).2 = 6 ∧ (rm_kd (s + 2)).2 = 6 := by rcases hs with rfl | rfl <;> exact ⟨rfl, rfl⟩
/-- the answer of a reading of one ITEM -/
def rdA (M M2 : rm_M) (n s : Nat) (r : Option (Int32 × rm_M)) (o : Option (Nat × Nat × Nat × (Nat → Nat → Nat) × (Nat → Nat) × (Nat → Nat))) : Prop :=
  r = some (nI (if o.isSome then 1 else 0), M2) ∧ (∀ p' cs' jn' w' pr' v', o = some (p', cs', jn', w', pr', v') → M2.1 1 2 = nI p' ∧ DC M2 n s cs' jn' w' pr' v') ∧ (∀ k, k ≠ 2 → M2.1 1 k = M.1 1 k) ∧ FR (rdS n s) M M2
theorem rd_no {M M2 : rm_M} {n s : Nat} {r : Option (Int32 × rm_M)} {o : Option (Nat × Nat × Nat × (Nat → Nat → Nat) × (Nat → Nat) × (Nat → Nat))} (ho : o = none) (hr : r = some (nI 0, M2)) (h1 : ∀ k, k ≠ 2 → M2.1 1 k = M.1 1 k) (hF : FR (rdS n s) M M2) : rdA M M2 n s r o := by
  subst ho
  exact ⟨hr, fun p' cs' jn' w' pr' v' q => (by cases q), h1, hF⟩
theorem rd_yes {M M2 : rm_M} {n s p cs jn : Nat} {w : Nat → Nat → Nat} {pr v : Nat → Nat} {r : Option (Int32 × rm_M)} {o : Option (Nat × Nat × Nat × (Nat → Nat → Nat) × (Nat → Nat) × (Nat → Nat))} (ho : o = some (p, cs, jn, w, pr, v)) (hr : r = some (nI 1, M2)) (hp : M2.1 1 2 = nI p) (hD : DC M2 n s cs jn w pr v) (h1 : ∀ k, k ≠ 2 → M2.1 1 k = M.1 1 k) (hF : FR (rdS n s) M M2) : rdA M M2 n s r o := by
  subst ho
  refine ⟨hr, fun p' cs' jn' w' pr' v' q => ?_, h1, hF⟩
  injection q with q
  obtain ⟨rfl, rfl, rfl, rfl, rfl, rfl⟩ : _ ∧ _ ∧ _ ∧ _ ∧ _ ∧ _ := by simpa [Prod.mk.injEq] using q
  exact ⟨hp, hD⟩
theorem pX5_readItem {n s tl p cs jn : Nat} {tx : Nat → Nat} {w : Nat → Nat → Nat} {pr v : Nat → Nat} {M : rm_M} (hn : n = 14 ∨ n = 33) (hs : s = 55 ∨ s = 58) (hB : TB tl tx) (hT : TX M tl tx) (hpl : M.1 1 2 = nI p) (hp : p < tl) (hW : WD cs jn w pr v) (hD : DC M n s cs jn w pr v) : ∃ M2, rdA M M2 n s (fX5_readItem n s M) (itm tl tx p cs jn w pr v) := by
  have hF := pn_F
  have b := hB.1
  have bc := hB.2 p hp
  have r0 : FR (fun q => q = 1) M (rm_sI M 1 2 (nI (p + 1))) := FR.sI rfl
  have g0 : ∀ k, k ≠ 2 → (rm_sI M 1 2 (nI (p + 1))).1 1 k = M.1 1 k := fun k hk => by rw [pn_sI_eq, pn_upd_ne _ _ hk]
  have p0 : (rm_sI M 1 2 (nI (p + 1))).1 1 2 = nI (p + 1) := by rw [pn_sI_eq, pn_upd_eq]
  have T0 : TX (rm_sI M 1 2 (nI (p + 1))) tl tx := hT.pl g0 (r0.1 2 (by omega)).1
  have D0 : DC (rm_sI M 1 2 (nI (p + 1))) n s cs jn w pr v := hD.fr r0 (fun a ha => by omega) (by omega) (by omega)
  have R0 : FR (rdS n s) M (rm_sI M 1 2 (nI (p + 1))) := r0.mono (fun a ha => Or.inl ha)
  have hcs6 : cs ≤ 6 := by have := hW.1; omega
  have nums : ∀ K, 1 ≤ K → K ≤ 4 → ∃ M1, fX5_readNumbers (nI K) (rm_sI M 1 2 (nI (p + 1))) = some (nI (if sy tl tx K (p + 1) = true then 1 else 0), M1) ∧ (sy tl tx K (p + 1) = true → M1.1 1 2 = nI (pkk tl tx K (p + 1)) ∧ ∀ j, j < K → M1.1 3 j = nI (vv tl tx j (p + 1))) ∧ (∀ k, k ≠ 2 → M1.1 1 k = M.1 1 k) ∧ FR (rdS n s) M M1 ∧ DC M1 n s cs jn w pr v := by
    intro K k1 k4
    obtain ⟨M1, f1, s1, j1, q1, r1⟩ := pX5_readNumbers_L2 hB k4 k1 K rm_F 0 (p + 1) _ (by omega) (by omega) (by omega) T0 p0
    refine ⟨M1, ?_, fun hs => ?_, fun k hk => by rw [q1 k hk, g0 k hk], R0.tr (r1.mono (fun a ha => by unfold rdS; omega)), D0.fr r1 (fun a ha => by omega) (by omega) (by omega)⟩
    · unfold fX5_readNumbers; rw [pn_lit 0, f1]
    · obtain ⟨a1, a2⟩ := s1 hs
      refine ⟨a1, fun j hj => ?_⟩
      have := a2 j hj
      rw [Nat.zero_add] at this
      exact this
  have hV : ∀ j, vv tl tx j (p + 1) ≤ 99 := fun j => vv_le tl tx j _
  unfold fX5_readItem
  rw [pX5_letterHere hT hB hpl (by omega), pn_bd, if_pos hp, hpl, pn_lit 1, nI_add, rm_lt1, D0.1, pn_lit 0]
  unfold fX5_readItem_L27
  rw [pn_lit 110, pn_lit 1, pn_lit 0]
  have L42no : ∀ a b, ¬ nI a = nI b → fX5_readItem_L42 n s (nI (tx p)) (nI a) (nI b) (rm_sI M 1 2 (nI (p + 1))) = some (nI 0, rm_sI M 1 2 (nI (p + 1))) := by
    intro a b hab
    unfold fX5_readItem_L42
    rw [if_neg hab]
    rfl
  by_cases cn : tx p = 110
  · have e110 : nI (tx p) = nI 110 := by rw [cn]
    rw [if_pos e110, if_pos e110]
    by_cases c0 : cs = 0
    · rw [if_pos (by rw [c0])]
      obtain ⟨M1, f1, s1, q1, r1, D1⟩ := nums 1 (by omega) (by omega)
      unfold fX5_readItem_L42 fX5_numbersBehind
      rw [if_pos rfl, pn_lit 97, pn_lit 106, pn_lit 108, pn_lit 110, pn_lit 112, pn_lit 115, pn_lit 1, pn_lit 0, e110, if_neg (by decide), if_neg (by decide), if_neg (by decide), if_pos rfl, pn_bd, f1, pn_bd]
      by_cases c1 : sy tl tx 1 (p + 1) = true
      · obtain ⟨a1, a2⟩ := s1 c1
        rw [if_pos c1, if_neg z10, if_neg (by decide), if_neg (by decide), if_neg (by decide), if_pos rfl]
        obtain ⟨M2, f2, g2, r2⟩ := pX5_takeCells (V := fun j => vv tl tx j (p + 1)) hn (fun j hj => a2 j hj) hV
        have r12 : FR (rdS n s) M M2 := r1.tr (r2.mono (fun a ha => by unfold rdS; omega))
        have q12 : ∀ k, k ≠ 2 → M2.1 1 k = M.1 1 k := fun k hk => by rw [(r2.1 1 (by omega)).1]; exact q1 k hk
        rw [f2, pn_bd]
        refine ⟨M2, ?_⟩
        by_cases c2 : 2 ≤ vv tl tx 0 (p + 1) ∧ vv tl tx 0 (p + 1) ≤ 6
        · obtain ⟨b1, b2, b3, b4⟩ := g2 c2
          have hw := hW.1
          obtain ⟨_, rfl, rfl, rfl⟩ : cs = 0 ∧ jn = 0 ∧ w = w0 ∧ pr = prd := by
            rcases hw with q | q
            · exact q
            · omega
          refine rd_yes (p := pkk tl tx 1 (p + 1)) (cs := vv tl tx 0 (p + 1)) (jn := 0) (w := w0) (pr := prd) (v := v) ?_ ?_ (by rw [(r2.1 1 (by omega)).1]; exact a1) ⟨b1, b2, b3, b4, D1.2.2.2.2.fr r2 (by omega) (by omega) (by omega)⟩ q12 r12
          · unfold itm; rw [if_pos cn, if_pos ⟨c0, c1, c2.1, c2.2⟩]
          · rw [if_pos c2]; rfl
        · refine rd_no ?_ ?_ q12 r12
          · unfold itm; rw [if_pos cn, if_neg (fun q => c2 q.2.2)]
          · rw [if_neg c2]; rfl
      · rw [if_neg c1, if_pos rfl]
        refine ⟨M1, rd_no ?_ rfl q1 r1⟩
        unfold itm
        rw [if_pos cn, if_neg (fun q => c1 q.2.1)]
    · rw [if_neg (by rw [nI_eq (by omega) (by omega)]; exact c0), L42no 0 1 (by decide)]
      refine ⟨_, rd_no ?_ rfl g0 R0⟩
      unfold itm
      rw [if_pos cn, if_neg (fun q => c0 q.1)]
  · have e110 : ¬ nI (tx p) = nI 110 := by rw [nI_eq (by omega) (by omega)]; exact cn
    rw [if_neg e110, if_neg e110]
    by_cases c0 : cs = 0
    · rw [if_pos (by rw [c0]), L42no 1 0 (by decide)]
      refine ⟨_, rd_no ?_ rfl g0 R0⟩
      unfold itm
      rw [if_neg cn, if_pos c0]
    · rw [if_neg (by rw [nI_eq (by omega) (by omega)]; exact c0)]
      unfold fX5_readItem_L42 fX5_numbersBehind
      rw [if_pos rfl, pn_lit 97, pn_lit 106, pn_lit 108, pn_lit 110, pn_lit 112, pn_lit 115, pn_lit 1, pn_lit 0, pn_lit 2, pn_lit 4, pn_lit 5, pn_lit 9]
      have ne : ∀ c, c < 200 → ¬ tx p = c → ¬ nI (tx p) = nI c := fun c hc q => by rw [nI_eq (by omega) (by omega)]; exact q
      by_cases ca : tx p = 97
      · have e97 : nI (tx p) = nI 97 := by rw [ca]
        obtain ⟨M1, f1, s1, q1, r1, D1⟩ := nums 2 (by omega) (by omega)
        rw [if_pos e97, pn_bd, f1, pn_bd]
        by_cases c1 : sy tl tx 2 (p + 1) = true
        · obtain ⟨a1, a2⟩ := s1 c1
          rw [if_pos c1, if_neg z10, if_pos e97]
          rcases pX5_takeCellNumber (n := n) (q := s + 2) (lim := 5) (V := fun j => vv tl tx j (p + 1)) hcs6 (kdst hs).2 (by omega) (fun j hj => a2 j hj) hV D1.1 with ⟨c2, f2⟩ | ⟨c2, f2⟩
          · rw [f2, pn_bd]
            refine ⟨M1, rd_no ?_ rfl q1 r1⟩
            unfold itm
            rw [if_neg cn, if_neg c0, if_pos ca, if_neg (fun q => c2 q.2)]
          · have r2 : FR (fun q => q = s + 2) M1 (rm_sI M1 (s + 2) (vv tl tx 0 (p + 1)) (nI (vv tl tx 1 (p + 1)))) := FR.sI rfl
            rw [f2, pn_bd]
            refine ⟨rm_sI M1 (s + 2) (vv tl tx 0 (p + 1)) (nI (vv tl tx 1 (p + 1))), rd_yes (p := pkk tl tx 2 (p + 1)) (cs := cs) (jn := jn) (w := w) (pr := pr) (v := vu v (6 + vv tl tx 0 (p + 1)) (vv tl tx 1 (p + 1))) ?_ rfl ?_ ⟨?_, ?_, D1.2.2.1.fr r2 (fun a q1 q2 => by omega), D1.2.2.2.1.fr r2 (by omega), D1.2.2.2.2.area _ (by omega)⟩ (fun k hk => ?_) (r1.tr (r2.mono (fun a ha => by unfold rdS; omega)))⟩
            · unfold itm; rw [if_neg cn, if_neg c0, if_pos ca, if_pos ⟨c1, c2⟩]
            · rw [(r2.1 1 (by omega)).1]; exact a1
            · rw [(r2.1 n (by omega)).1]; exact D1.1
            · rw [(r2.1 n (by omega)).1]; exact D1.2.1
            · rw [(r2.1 1 (by omega)).1]; exact q1 k hk
        · rw [if_neg c1, if_pos rfl]
          refine ⟨M1, rd_no ?_ rfl q1 r1⟩
          unfold itm
          rw [if_neg cn, if_neg c0, if_pos ca, if_neg (fun q => c1 q.1)]
      · rw [if_neg (ne 97 (by omega) ca)]
        by_cases cj : tx p = 106
        · have e106 : nI (tx p) = nI 106 := by rw [cj]
          obtain ⟨M1, f1, s1, q1, r1, D1⟩ := nums 4 (by omega) (by omega)
          rw [if_pos e106, pn_bd, f1, pn_bd]
          by_cases c1 : sy tl tx 4 (p + 1) = true
          · obtain ⟨a1, a2⟩ := s1 c1
            rw [if_pos c1, if_neg z10, if_neg (ne 97 (by omega) ca), if_pos e106]
            rcases pX5_takeJoin (n := n) (V := fun j => vv tl tx j (p + 1)) hcs6 (fun j hj => a2 j hj) hV D1.1 D1.2.1 D1.2.2.1 hW.2.1 hW.2.2.2.1 with ⟨c2, f2⟩ | ⟨c2, M2, f2, g1, g2, g3, r2⟩
            · rw [f2, pn_bd]
              refine ⟨M1, rd_no ?_ rfl q1 r1⟩
              unfold itm
              rw [if_neg cn, if_neg c0, if_neg ca, if_pos cj, if_neg (fun q => c2 (jB_iff.mp q.2))]
            · rw [f2, pn_bd]
              refine ⟨M2, rd_yes (p := pkk tl tx 4 (p + 1)) (cs := cs) (jn := jn + 1) (pr := pr) (v := v) ?_ rfl ?_ ⟨?_, g2, g1, fun k hk => ?_, D1.2.2.2.2.fr r2 (by omega) (by omega) (by omega)⟩ (fun k hk => ?_) (r1.tr (r2.mono (fun a ha => by unfold rdS; omega)))⟩
              · unfold itm; rw [if_neg cn, if_neg c0, if_neg ca, if_pos cj, if_pos ⟨c1, jB_iff.mpr c2⟩]
              · rw [(r2.1 1 (by omega)).1]; exact a1
              · rw [g3 0 (by omega)]; exact D1.1
              · rw [g3 (k + 2) (by omega)]; exact D1.2.2.2.1 k hk
              · rw [(r2.1 1 (by omega)).1]; exact q1 k hk
          · rw [if_neg c1, if_pos rfl]
            refine ⟨M1, rd_no ?_ rfl q1 r1⟩
            unfold itm
            rw [if_neg cn, if_neg c0, if_neg ca, if_pos cj, if_neg (fun q => c1 q.1)]
        · rw [if_neg (ne 106 (by omega) cj)]
          by_cases cl : tx p = 108
          · have e108 : nI (tx p) = nI 108 := by rw [cl]
            obtain ⟨M1, f1, s1, q1, r1, D1⟩ := nums 2 (by omega) (by omega)
            rw [if_pos e108, pn_bd, f1, pn_bd]
            by_cases c1 : sy tl tx 2 (p + 1) = true
            · obtain ⟨a1, a2⟩ := s1 c1
              rw [if_pos c1, if_neg z10, if_neg (ne 97 (by omega) ca), if_neg (ne 106 (by omega) cj), if_pos e108]
              rcases pX5_takeLaw (s := s) (V := fun j => vv tl tx j (p + 1)) (by omega) (fun j hj => a2 j hj) hV D1.2.2.2.2 with ⟨c2, f2⟩ | ⟨c2, M2, f2, g2, r2⟩
              · rw [f2, pn_bd]
                refine ⟨M1, rd_no ?_ rfl q1 r1⟩
                unfold itm
                rw [if_neg cn, if_neg c0, if_neg ca, if_neg cj, if_pos cl, if_neg (fun q => c2 (lB_iff.mp q.2))]
              · rw [f2, pn_bd]
                refine ⟨M2, rd_yes (p := pkk tl tx 2 (p + 1)) (cs := cs) (jn := jn) (w := w) (pr := pr) ?_ rfl ?_ ⟨?_, ?_, D1.2.2.1.fr r2 (fun a q1 q2 => by omega), D1.2.2.2.1.fr r2 (by omega), g2⟩ (fun k hk => ?_) (r1.tr (r2.mono (fun a ha => by unfold rdS; omega)))⟩
                · unfold itm; rw [if_neg cn, if_neg c0, if_neg ca, if_neg cj, if_pos cl, if_pos ⟨c1, lB_iff.mpr c2⟩]
                · rw [(r2.1 1 (by omega)).1]; exact a1
                · rw [(r2.1 n (by omega)).1]; exact D1.1
                · rw [(r2.1 n (by omega)).1]; exact D1.2.1
                · rw [(r2.1 1 (by omega)).1]; exact q1 k hk
            · rw [if_neg c1, if_pos rfl]
              refine ⟨M1, rd_no ?_ rfl q1 r1⟩
              unfold itm
              rw [if_neg cn, if_neg c0, if_neg ca, if_neg cj, if_pos cl, if_neg (fun q => c1 q.1)]
          · rw [if_neg (ne 108 (by omega) cl), if_neg (ne 110 (by omega) cn)]
            by_cases cp : tx p = 112
            · have e112 : nI (tx p) = nI 112 := by rw [cp]
              obtain ⟨M1, f1, s1, q1, r1, D1⟩ := nums 4 (by omega) (by omega)
              rw [if_pos e112, pn_bd, f1, pn_bd]
              by_cases c1 : sy tl tx 4 (p + 1) = true
              · obtain ⟨a1, a2⟩ := s1 c1
                rw [if_pos c1, if_neg z10, if_neg (ne 97 (by omega) ca), if_neg (ne 106 (by omega) cj), if_neg (ne 108 (by omega) cl), if_neg (ne 110 (by omega) cn), if_pos e112]
                rcases pX5_takePrices (n := n) (V := fun j => vv tl tx j (p + 1)) (fun j hj => a2 j hj) hV with ⟨c2, f2⟩ | ⟨c2, M2, f2, g1, g2, r2⟩
                · rw [f2, pn_bd]
                  refine ⟨M1, rd_no ?_ rfl q1 r1⟩
                  unfold itm
                  rw [if_neg cn, if_neg c0, if_neg ca, if_neg cj, if_neg cl, if_pos cp, if_neg (fun q => c2 q.2)]
                · rw [f2, pn_bd]
                  refine ⟨M2, rd_yes (p := pkk tl tx 4 (p + 1)) (cs := cs) (jn := jn) (w := w) (v := v) ?_ rfl ?_ ⟨?_, ?_, D1.2.2.1.fr r2 (fun a q1 q2 => by omega), g2, D1.2.2.2.2.fr r2 (by omega) (by omega) (by omega)⟩ (fun k hk => ?_) (r1.tr (r2.mono (fun a ha => by unfold rdS; omega)))⟩
                  · unfold itm; rw [if_neg cn, if_neg c0, if_neg ca, if_neg cj, if_neg cl, if_pos cp, if_pos ⟨c1, c2⟩]
                  · rw [(r2.1 1 (by omega)).1]; exact a1
                  · rw [g1 0 (by omega)]; exact D1.1
                  · rw [g1 1 (by omega)]; exact D1.2.1
                  · rw [(r2.1 1 (by omega)).1]; exact q1 k hk
              · rw [if_neg c1, if_pos rfl]
                refine ⟨M1, rd_no ?_ rfl q1 r1⟩
                unfold itm
                rw [if_neg cn, if_neg c0, if_neg ca, if_neg cj, if_neg cl, if_pos cp, if_neg (fun q => c1 q.1)]
            · rw [if_neg (ne 112 (by omega) cp)]
              by_cases cS : tx p = 115
              · have e115 : nI (tx p) = nI 115 := by rw [cS]
                obtain ⟨M1, f1, s1, q1, r1, D1⟩ := nums 2 (by omega) (by omega)
                rw [if_pos e115, pn_bd, f1, pn_bd]
                by_cases c1 : sy tl tx 2 (p + 1) = true
                · obtain ⟨a1, a2⟩ := s1 c1
                  rw [if_pos c1, if_neg z10, if_neg (ne 97 (by omega) ca), if_neg (ne 106 (by omega) cj), if_neg (ne 108 (by omega) cl), if_neg (ne 110 (by omega) cn), if_neg (ne 112 (by omega) cp), if_pos e115]
                  rcases pX5_takeCellNumber (n := n) (q := s + 1) (lim := 9) (V := fun j => vv tl tx j (p + 1)) hcs6 (kdst hs).1 (by omega) (fun j hj => a2 j hj) hV D1.1 with ⟨c2, f2⟩ | ⟨c2, f2⟩
                  · rw [f2, pn_bd]
                    refine ⟨M1, rd_no ?_ rfl q1 r1⟩
                    unfold itm
                    rw [if_neg cn, if_neg c0, if_neg ca, if_neg cj, if_neg cl, if_neg cp, if_pos cS, if_neg (fun q => c2 q.2)]
                  · have r2 : FR (fun q => q = s + 1) M1 (rm_sI M1 (s + 1) (vv tl tx 0 (p + 1)) (nI (vv tl tx 1 (p + 1)))) := FR.sI rfl
                    rw [f2, pn_bd]
                    refine ⟨rm_sI M1 (s + 1) (vv tl tx 0 (p + 1)) (nI (vv tl tx 1 (p + 1))), rd_yes (p := pkk tl tx 2 (p + 1)) (cs := cs) (jn := jn) (w := w) (pr := pr) (v := vu v (vv tl tx 0 (p + 1)) (vv tl tx 1 (p + 1))) ?_ rfl ?_ ⟨?_, ?_, D1.2.2.1.fr r2 (fun a q1 q2 => by omega), D1.2.2.2.1.fr r2 (by omega), D1.2.2.2.2.stay _ (by omega)⟩ (fun k hk => ?_) (r1.tr (r2.mono (fun a ha => by unfold rdS; omega)))⟩
                    · unfold itm; rw [if_neg cn, if_neg c0, if_neg ca, if_neg cj, if_neg cl, if_neg cp, if_pos cS, if_pos ⟨c1, c2⟩]
                    · rw [(r2.1 1 (by omega)).1]; exact a1
                    · rw [(r2.1 n (by omega)).1]; exact D1.1
                    · rw [(r2.1 n (by omega)).1]; exact D1.2.1
                    · rw [(r2.1 1 (by omega)).1]; exact q1 k hk
                · rw [if_neg c1, if_pos rfl]
                  refine ⟨M1, rd_no ?_ rfl q1 r1⟩
                  unfold itm
                  rw [if_neg cn, if_neg c0, if_neg ca, if_neg cj, if_neg cl, if_neg cp, if_pos cS, if_neg (fun q => c1 q.1)]
              · rw [if_neg (ne 115 (by omega) cS), pn_bd]
                have fz : fX5_readNumbers (nI 0) (rm_sI M 1 2 (nI (p + 1))) = some (nI 0, rm_sI M 1 2 (nI (p + 1))) := by
                  unfold fX5_readNumbers
                  obtain ⟨g, hg⟩ : ∃ g, rm_F = g + 1 := ⟨rm_F - 1, by omega⟩
                  have goal : ∀ F, F = g + 1 → fX5_readNumbers_L2 (nI 0) F (nI 0) (rm_sI M 1 2 (nI (p + 1))) = some (nI 0, rm_sI M 1 2 (nI (p + 1))) := by
                    intro F e
                    subst e
                    rw [fX5_readNumbers_L2, if_pos (by decide)]
                    unfold fX5_readNumbers_L70
                    rw [pn_lit 0, if_pos (by decide)]
                    rfl
                  rw [pn_lit 0]
                  exact goal rm_F hg
                rw [fz, pn_bd, if_pos rfl]
                refine ⟨_, rd_no ?_ rfl g0 R0⟩
                unfold itm
                rw [if_neg cn, if_neg c0, if_neg ca, if_neg cj, if_neg cl, if_neg cp, if_neg cS]
