/-! ===== a whole TEXT is read ===== -/
theorem mdN.z {M : rm_M} {tl : Nat} {tx : Nat → Nat} {r : Option (Int32 × rm_M)} (h : mdN M tl tx r) : mdN M tl tx (rm_bd r (fun a b => rm_z a b)) := by
  obtain ⟨M2, m, h | ⟨e, h1, h2⟩⟩ := h
  · exact ⟨M2, m, Or.inl (by rw [h, pn_bd, pn_z0])⟩
  · exact ⟨M2, m, Or.inr ⟨e, by rw [h1, pn_bd, pn_z1], h2⟩⟩
theorem mdY.z {M : rm_M} {tl : Nat} {tx : Nat → Nat} {r : Option (Int32 × rm_M)} {p cs jn : Nat} {w : Nat → Nat → Nat} {pr v : Nat → Nat} (h : mdY M tl tx r p cs jn w pr v) : mdY M tl tx (rm_bd r (fun a b => rm_z a b)) p cs jn w pr v := by
  obtain ⟨M2, e, m, h1, h2⟩ := h
  exact ⟨M2, e, m, by rw [h1, pn_bd, pn_z1], h2⟩
theorem pX8_readsItem {M : rm_M} {tl p cs jn : Nat} {tx : Nat → Nat} {w : Nat → Nat → Nat} {pr v : Nat → Nat} (hT : MX M tl tx) (hB : TB tl tx) (hp : p < tl) (h0 : cs = 0 ↔ p = 0) (hW : WD cs jn w pr v) (hD : DM M cs jn w pr v) :
    (itm tl tx p cs jn w pr v = none ∧ mdN M tl tx (fX8_readsItem (nI (tx p)) (nI (p + 1)) M)) ∨ ∃ p' cs' jn' w' pr' v', itm tl tx p cs jn w pr v = some (p', cs', jn', w', pr', v') ∧ mdY M tl tx (fX8_readsItem (nI (tx p)) (nI (p + 1)) M) p' cs' jn' w' pr' v' := by
  have b := hB.1
  have bc := hB.2 p hp
  have ne : ∀ c, c < 200 → ¬ tx p = c → ¬ nI (tx p) = nI c := fun c hc q => by rw [nI_eq (by omega) (by omega)]; exact q
  unfold fX8_readsItem
  rw [pn_lit 110, pn_lit 97, pn_lit 106, pn_lit 108, pn_lit 112, pn_lit 115, pn_lit 1, pn_lit 0, pn_lit 2, pn_lit 6, hD.1]
  have noop : ∀ M', nF M M' → mdN M tl tx (fX8_readsItem_L27 (nI (tx p)) (nI (p + 1)) (nI 0) M') := by
    intro M' n1
    unfold fX8_readsItem_L27
    rw [pn_lit 0, if_pos rfl, rm_lt1, pn_z0]
    refine mdN.of0 ⟨fun k a1 a2 a3 a4 => ?_, FR.sIr (n1.2.mono (fun a ha => Or.inl ha)) (Or.inl rfl)⟩ rfl
    rw [pn_sI_eq, pn_upd_ne _ _ a1]; exact n1.1 k a3 a4
  by_cases cn : tx p = 110
  · rw [if_pos (show nI (tx p) = nI 110 by rw [cn])]
    unfold itm
    rw [if_pos cn]
    by_cases c0 : p = 0
    · have hc0 := h0.mpr c0
      subst c0
      rw [if_pos rfl]
      obtain ⟨M1, f1, g1, g2, n1⟩ := pX8_number (p := 0 + 1) (lo := 2) (hi := 6) hT hB (by omega) (by omega) (by omega)
      rw [f1, pn_bd]
      by_cases c1 : fgB tl tx (0 + 1) = true ∧ 2 ≤ nV tl tx (0 + 1) ∧ nV tl tx (0 + 1) ≤ 6
      · rw [if_pos c1, if_neg z10]
        have hne := nE_ge tl tx (0 + 1)
        have m2 : mF M (rm_sI M1 79 9 (nI (nV tl tx (0 + 1)))) := ⟨fun k a1 a2 a3 a4 => by rw [pn_sI_eq, pn_upd_ne _ _ a1]; exact n1.1 k a3 a4, FR.sIr (n1.2.mono (fun a ha => Or.inl ha)) (Or.inl rfl)⟩
        have e15 : (rm_sI M1 79 9 (nI (nV tl tx (0 + 1)))).1 79 15 = nI (nE tl tx (0 + 1)) := by rw [pn_sI_eq, pn_upd_ne _ _ (by omega)]; exact g2
        have hr : fX8_readsItem_L27 (nI (tx 0)) (nI (0 + 1)) (nI 1) M1 = some (nI 1, rm_sI M1 79 9 (nI (nV tl tx (0 + 1)))) := by
          unfold fX8_readsItem_L27
          rw [pn_lit 0, if_neg z10, rm_lt1, pn_z1, g1]
        rw [hr]
        by_cases z : chB tl tx (nE tl tx (0 + 1)) 59 = true
        · right
          refine ⟨pkk tl tx 1 (0 + 1), vv tl tx 0 (0 + 1), jn, w, pr, v, ?_, _, nE tl tx (0 + 1), m2, rfl, e15, rfl, z, ?_⟩
          · exact if_pos ⟨hc0, by rw [sy1, c1.1, z]; rfl, c1.2⟩
          · have D1 := hD.n n1
            refine ⟨by rw [pn_sI_eq, pn_upd_eq]; rfl, by rw [pn_sI_eq, pn_upd_ne _ _ (by omega)]; exact D1.2.1, fun a b ha hb => by rw [pn_sI_ne _ _ _ (by omega)]; exact D1.2.2.1 a b ha hb, fun k hk => by rw [pn_sI_ne _ _ _ (by omega)]; exact D1.2.2.2.1 k hk, fun k hk => by rw [pn_sI_ne _ _ _ (by omega)]; exact D1.2.2.2.2 k hk⟩
        · left
          refine ⟨if_neg (fun q => z ?_), _, m2, Or.inr ⟨_, rfl, e15, by omega, Bool.not_eq_true _ ▸ z⟩⟩
          have h9 := q.2.1
          rw [sy1, Bool.and_eq_true] at h9
          exact h9.2
      · rw [if_neg c1, if_pos rfl]
        left
        refine ⟨if_neg (fun q => c1 ?_), ?_⟩
        · have h9 := q.2.1
          rw [sy1, Bool.and_eq_true] at h9
          exact ⟨h9.1, q.2.2⟩
        · unfold fX8_readsItem_L26
          rw [pn_lit 0]
          exact noop M1 n1
    · have hne : ¬ nI (p + 1) = nI 1 := by rw [nI_eq (by omega) (by omega)]; omega
      rw [if_neg hne]
      left
      refine ⟨if_neg (fun q => c0 (h0.mp q.1)), ?_⟩
      unfold fX8_readsItem_L26
      rw [pn_lit 0]
      exact noop M nF.rf
  · rw [if_neg (ne 110 (by omega) cn)]
    have hcs6 : cs ≤ 6 := by have := hW.1; omega
    unfold itm
    rw [if_neg cn]
    by_cases c0 : cs = 0
    · have hcz : nI cs = nI 0 := by rw [c0]
      rw [if_pos hcz, if_pos c0]
      exact Or.inl ⟨rfl, mdN.of0 mF.rf rfl⟩
    · have hcz : ¬ nI cs = nI 0 := by rw [nI_eq (by omega) (by omega)]; exact c0
      rw [if_neg hcz, if_neg c0]
      have hcs : 2 ≤ cs ∧ cs ≤ 6 := by have := hW.1; omega
      by_cases ca : tx p = 97
      · rw [if_pos (show nI (tx p) = nI 97 by rw [ca]), if_pos ca]
        rcases pX8_readsCell (wh := 1) (lim := 5) hT hB (show p + 1 ≤ 200 by omega) hcs hD (by omega) with ⟨c, h⟩ | ⟨c, h⟩
        · exact Or.inl ⟨if_neg c, h.z⟩
        · exact Or.inr ⟨_, _, _, _, _, _, if_pos c, h.z⟩
      · rw [if_neg (ne 97 (by omega) ca), if_neg ca]
        by_cases cj : tx p = 106
        · rw [if_pos (show nI (tx p) = nI 106 by rw [cj]), if_pos cj]
          rcases pX8_readsJoin hT hB (show p + 1 ≤ 200 by omega) hcs hW.2.1 hD with ⟨c, h⟩ | ⟨c, h⟩
          · exact Or.inl ⟨if_neg c, h.z⟩
          · exact Or.inr ⟨_, _, _, _, _, _, if_pos c, h.z⟩
        · rw [if_neg (ne 106 (by omega) cj), if_neg cj]
          by_cases cl : tx p = 108
          · rw [if_pos (show nI (tx p) = nI 108 by rw [cl]), if_pos cl]
            rcases pX8_readsLaw hT hB (show p + 1 ≤ 200 by omega) hD with ⟨c, h⟩ | ⟨c, h⟩
            · exact Or.inl ⟨if_neg c, h.z⟩
            · exact Or.inr ⟨_, _, _, _, _, _, if_pos c, h.z⟩
          · rw [if_neg (ne 108 (by omega) cl), if_neg cl]
            by_cases cp : tx p = 112
            · rw [if_pos (show nI (tx p) = nI 112 by rw [cp]), if_pos cp]
              rcases pX8_readsPrice hT hB (show p + 1 ≤ 200 by omega) hD with ⟨c, h⟩ | ⟨c, h⟩
              · exact Or.inl ⟨if_neg c, h.z⟩
              · exact Or.inr ⟨_, _, _, _, _, _, if_pos c, h.z⟩
            · rw [if_neg (ne 112 (by omega) cp), if_neg cp]
              by_cases cS : tx p = 115
              · rw [if_pos (show nI (tx p) = nI 115 by rw [cS]), if_pos cS]
                rcases pX8_readsCell (wh := 0) (lim := 9) hT hB (show p + 1 ≤ 200 by omega) hcs hD (by omega) with ⟨c, h⟩ | ⟨c, h⟩
                · exact Or.inl ⟨if_neg c, h.z⟩
                · refine Or.inr ⟨_, _, _, _, _, _, if_pos c, ?_⟩
                  have h2 := h.z
                  rw [show 6 * 0 + vv tl tx 0 (p + 1) = vv tl tx 0 (p + 1) by omega] at h2
                  exact h2
              · rw [if_neg (ne 115 (by omega) cS), if_neg cS]
                exact Or.inl ⟨rfl, mdN.of0 mF.rf rfl⟩
abbrev RD : Type := Nat × Nat × (Nat → Nat → Nat) × (Nat → Nat) × (Nat → Nat)
/-- FAULT, or what the TEXT tells -/
def rdF (tl : Nat) (tx : Nat → Nat) : Nat → Nat → RD → Nat ⊕ RD
  | 0, _, R => .inr R
  | f + 1, p, R => if tl ≤ p then .inr R else match itm tl tx p R.1 R.2.1 R.2.2.1 R.2.2.2.1 R.2.2.2.2 with
    | none => .inl p
    | some Q => rdF tl tx f Q.1 Q.2
def rdR (o : Nat ⊕ RD) : Int32 := match o with
  | .inl p => nI p
  | .inr _ => -nI 4
def WDr (R : RD) : Prop := WD R.1 R.2.1 R.2.2.1 R.2.2.2.1 R.2.2.2.2
def DCr (M : rm_M) (n s : Nat) (R : RD) : Prop := DC M n s R.1 R.2.1 R.2.2.1 R.2.2.2.1 R.2.2.2.2
def DMr (M : rm_M) (R : RD) : Prop := DM M R.1 R.2.1 R.2.2.1 R.2.2.2.1 R.2.2.2.2
def RD0 : RD := (0, 0, w0, prd, vI)
theorem rdF_ok {tl : Nat} {tx : Nat → Nat} : ∀ g p R R', p ≤ tl → WDr R → rdF tl tx g p R = .inr R' → WDr R' := by
  intro g
  induction g with
  | zero => intro p R R' hp hW h; rw [rdF] at h; injection h with h; rw [← h]; exact hW
  | succ g ih =>
    intro p R R' hp hW h
    rw [rdF] at h
    by_cases c : tl ≤ p
    · rw [if_pos c] at h; injection h with h; rw [← h]; exact hW
    · rw [if_neg c] at h
      split at h
      · cases h
      · rename_i Q e
        obtain ⟨p', cs', jn', w', pr', v'⟩ := Q
        obtain ⟨k1, k2, k3, k4, k5⟩ := itm_ok hW e (by omega)
        exact ih p' (cs', jn', w', pr', v') R' k3 k1 h
theorem pX5_readInto_L16 {n s tl : Nat} {tx : Nat → Nat} (hn : n = 14 ∨ n = 33) (hs : s = 55 ∨ s = 58) (hB : TB tl tx) : ∀ g f i p R M, tl ≤ p + g → i ≤ p → g < f → p ≤ tl → TX M tl tx → M.1 1 2 = nI p → WDr R → DCr M n s R →
    ∃ M2, fX5_readInto_L16 n s f (nI i) M = some (rdR (rdF tl tx g p R), M2) ∧ (∀ R', rdF tl tx g p R = .inr R' → DCr M2 n s R') ∧ (∀ k, k ≠ 2 → M2.1 1 k = M.1 1 k) ∧ FR (rdS n s) M M2 := by
  have b := hB.1
  have done : ∀ f i p R M, i ≤ p → p ≤ tl → tl ≤ p → TX M tl tx → M.1 1 2 = nI p → DCr M n s R → ∃ M2, fX5_readInto_L16 n s (f + 1) (nI i) M = some (rdR (.inr R), M2) ∧ (∀ R', (.inr R : Nat ⊕ RD) = .inr R' → DCr M2 n s R') ∧ (∀ k, k ≠ 2 → M2.1 1 k = M.1 1 k) ∧ FR (rdS n s) M M2 := by
    intro f i p R M hi hp hp2 hT h2 hD
    refine ⟨M, ?_, fun R' e => by injection e with e; rw [← e]; exact hD, fun k _ => rfl, FR.rf⟩
    rw [fX5_readInto_L16, hT.1, h2, if_pos (show nI tl ≤ nI p by rw [nI_leI (by omega) (by omega)]; exact hp2)]
    by_cases c : (200 : Int32) ≤ nI i
    · rw [if_pos c]; rfl
    · rw [if_neg c]; rfl
  intro g
  induction g with
  | zero =>
    intro f i p R M hg hi hf hp hT h2 hW hD
    obtain ⟨f, rfl⟩ : ∃ z, f = z + 1 := ⟨f - 1, by omega⟩
    rw [rdF]
    exact done f i p R M hi hp (by omega) hT h2 hD
  | succ g ih =>
    intro f i p R M hg hi hf hp hT h2 hW hD
    obtain ⟨f, rfl⟩ : ∃ z, f = z + 1 := ⟨f - 1, by omega⟩
    rw [rdF]
    by_cases c : tl ≤ p
    · rw [if_pos c]
      exact done f i p R M hi hp c hT h2 hD
    · rw [if_neg c, fX5_readInto_L16, pn_lit 200, if_neg (by rw [nI_leI (by omega) (by omega)]; omega), hT.1, h2, if_neg (by rw [nI_leI (by omega) (by omega)]; exact c), rm_lt1]
      obtain ⟨M1, a1, a2, a3, a4⟩ := pX5_readItem hn hs hB hT h2 (by omega) hW hD
      rw [a1, pn_bd]
      cases e : itm tl tx p R.1 R.2.1 R.2.2.1 R.2.2.2.1 R.2.2.2.2 with
      | none =>
        refine ⟨M1, ?_, fun R' q => (by cases q), a3, a4⟩
        rw [pn_lit 0]
        rfl
      | some Q =>
        obtain ⟨p', cs', jn', w', pr', v'⟩ := Q
        obtain ⟨k1, k2, k3, k4, k5⟩ := itm_ok hW e (by omega)
        obtain ⟨b1, b2⟩ := a2 _ _ _ _ _ _ e
        obtain ⟨M2, f2, g2, j2, r2⟩ := ih f (i + 1) p' (cs', jn', w', pr', v') M1 (by omega) (by omega) (by omega) k3 (hT.pl a3 (a4.1 2 (by unfold rdS; omega)).1) b1 k1 b2
        refine ⟨M2, ?_, g2, fun k hk => by rw [j2 k hk, a3 k hk], a4.tr r2⟩
        rw [pn_lit 0, pn_lit 1, nI_add]
        exact f2
theorem pX5_readInto {n s tl : Nat} {tx : Nat → Nat} (hn : n = 14 ∨ n = 33) (hs : s = 55 ∨ s = 58) (hB : TB tl tx) {M : rm_M} (hT : TX M tl tx) : ∃ M2, fX5_readInto n s M = some (rdR (rdF tl tx 200 0 RD0), M2) ∧ (∀ R', rdF tl tx 200 0 RD0 = .inr R' → DCr M2 n s R') ∧ (∀ k, k ≠ 2 → M2.1 1 k = M.1 1 k) ∧ FR (rdS n s) M M2 := by
  have hF := pn_F
  have b := hB.1
  unfold fX5_readInto
  obtain ⟨M1, f1, a1, a2, a3, a4, r1⟩ := pX1_begin (c := 0) (M := M) hn
  obtain ⟨M2, f2, b1, r2⟩ := pX4_begin (s := s) (M := M1)
  rw [pn_lit 0, f1, pn_bv, f2, pn_bv, rm_lt1]
  have r3 : FR (fun q => q = 1) M2 (rm_sI M2 1 2 (nI 0)) := FR.sI rfl
  have q3 : ∀ k, k ≠ 2 → (rm_sI M2 1 2 (nI 0)).1 1 k = M.1 1 k := fun k hk => by rw [pn_sI_eq, pn_upd_ne _ _ hk, (r2.1 1 (by omega)).1, (r1.1 1 (by omega)).1]
  have R3 : FR (rdS n s) M (rm_sI M2 1 2 (nI 0)) := (r1.mono (fun a ha => by unfold rdS; omega)).tr ((r2.mono (fun a ha => by unfold rdS; omega)).tr (r3.mono (fun a ha => Or.inl ha)))
  have D2 : DC M2 n s 0 0 w0 prd vI := ⟨by rw [(r2.1 n (by omega)).1]; exact a1, by rw [(r2.1 n (by omega)).1]; exact a2, a3.fr r2 (fun a h1 h2 => by omega), a4.fr r2 (by omega), b1⟩
  obtain ⟨M3, f4, g4, j4, r4⟩ := pX5_readInto_L16 hn hs hB 200 rm_F 0 0 RD0 (rm_sI M2 1 2 (nI 0)) (by omega) (by omega) (by omega) (by omega) (hT.pl q3 (R3.1 2 (by unfold rdS; omega)).1) (by rw [pn_sI_eq, pn_upd_eq]) WD0 (D2.fr r3 (fun a ha => by omega) (by omega) (by omega))
  exact ⟨M3, f4, g4, fun k hk => by rw [j4 k hk, q3 k hk], R3.tr r4⟩
theorem pX8_reads_L6 {tl : Nat} {tx : Nat → Nat} (hB : TB tl tx) : ∀ g f p R M, tl ≤ p + g → g < f → p ≤ tl → (R.1 = 0 ↔ p = 0) → MX M tl tx → WDr R → DMr M R →
    ∃ M2, fX8_reads_L6 f (nI p) M = some (rdR (rdF tl tx g p R), M2) ∧ (∀ R', rdF tl tx g p R = .inr R' → DMr M2 R') ∧ mF M M2 := by
  have b := hB.1
  have done : ∀ f p R M, p ≤ tl → tl ≤ p → MX M tl tx → DMr M R → ∃ M2, fX8_reads_L6 (f + 1) (nI p) M = some (rdR (.inr R), M2) ∧ (∀ R', (.inr R : Nat ⊕ RD) = .inr R' → DMr M2 R') ∧ mF M M2 := by
    intro f p R M hp hp2 hT hD
    refine ⟨M, ?_, fun R' e => by injection e with e; rw [← e]; exact hD, mF.rf⟩
    rw [fX8_reads_L6, hT.1, if_pos (show nI tl ≤ nI p by rw [nI_leI (by omega) (by omega)]; exact hp2)]
    rfl
  intro g
  induction g with
  | zero =>
    intro f p R M hg hf hp h0 hT hW hD
    obtain ⟨f, rfl⟩ : ∃ z, f = z + 1 := ⟨f - 1, by omega⟩
    rw [rdF]
    exact done f p R M hp (by omega) hT hD
  | succ g ih =>
    intro f p R M hg hf hp h0 hT hW hD
    obtain ⟨f, rfl⟩ : ∃ z, f = z + 1 := ⟨f - 1, by omega⟩
    rw [rdF]
    by_cases c : tl ≤ p
    · rw [if_pos c]
      exact done f p R M hp c hT hD
    · rw [if_neg c, fX8_reads_L6, hT.1, if_neg (by rw [nI_leI (by omega) (by omega)]; exact c), if_pos (by rw [pn_ib (by omega), decide_eq_true_eq]; omega), nI_clamp (by omega), hT.2 p (by omega), pn_lit 1, nI_add, pn_lit 0, pn_lit 59]
      rcases pX8_readsItem hT hB (by omega) h0 hW hD with ⟨e, M1, m1, h | ⟨q, h, h15, hq, hch⟩⟩ | ⟨p', cs', jn', w', pr', v', e, M1, q, m1, h, h15, hq, hch, D1⟩
      · rw [e, h, pn_bd, if_pos rfl]
        exact ⟨M1, rfl, fun R' q => (by cases q), m1⟩
      · rw [e, h, pn_bd, if_neg z10, h15, pX8_letterAt (hT.fr m1) hB (by omega), pn_bd, if_neg]
        · exact ⟨M1, rfl, fun R' q => (by cases q), m1⟩
        · by_cases c1 : q < tl
          · have := hB.2 q c1
            rw [if_pos c1, nI_eq (by omega) (by omega)]
            intro z
            have h9 := ch_iff.mpr ⟨c1, z⟩
            rw [hch] at h9
            cases h9
          · rw [if_neg c1]; decide
      · obtain ⟨k1, k2, k3, k4, k5⟩ := itm_ok hW e (by omega)
        obtain ⟨c1, c2⟩ := ch_iff.mp hch
        obtain ⟨M2, f2, g2, m2⟩ := ih f p' (cs', jn', w', pr', v') M1 (by omega) (by omega) k3 ⟨fun z => by have z2 : cs' = 0 := z; omega, fun z => by omega⟩ (hT.fr m1) k1 D1
        rw [e, h, pn_bd, if_neg z10, h15, pX8_letterAt (hT.fr m1) hB (by omega), pn_bd, if_pos c1, c2, if_pos rfl, rm_lt1, h15, nI_add, hq]
        exact ⟨M2, f2, g2, m1.tr m2⟩
theorem pX8_clears {M : rm_M} : ∃ M2, fX8_clears M = some M2 ∧ DMr M2 RD0 ∧ mF M M2 := by
  have hF := pn_F
  have k33 : ∀ d f i M, i + d = 20 → d < f → M.1 79 9 = nI 0 → M.1 79 10 = nI 0 → (∀ k, k < 36 → M.1 85 k = nI 0) → (∀ k, k < i → M.1 87 k = nI (vI k)) → ∃ M2, fX8_clears_L33 f (nI i) M = some M2 ∧ DMr M2 RD0 ∧ M2.1 79 = M.1 79 ∧ FR (fun q => q = 79 ∨ (85 ≤ q ∧ q ≤ 87)) M M2 := by
    intro d
    induction d with
    | zero =>
      intro f i M hi hf h9 h10 h85 h87
      obtain ⟨f, rfl⟩ : ∃ z, f = z + 1 := ⟨f - 1, by omega⟩
      rw [fX8_clears_L33, pn_lit 20, if_pos (by rw [nI_leI (by omega) (by omega)]; omega), pn_lit 0, pn_lit 1, pn_lit 2, pn_lit 3, pn_lit 5, pn_lit 10, if_pos ib40, rm_lt1, if_pos ib41, rm_lt1, if_pos ib42, rm_lt1, if_pos ib43, rm_lt1, cl0, cl1, cl2, cl3]
      refine ⟨_, rfl, ⟨?_, ?_, fun a b ha hb => ?_, fun k hk => ?_, fun k hk => ?_⟩, ?_, FR.sIr (FR.sIr (FR.sIr (FR.sIr FR.rf (by omega)) (by omega)) (by omega)) (by omega)⟩
      · simp (disch := omega) only [pn_sI_ne]; exact h9
      · simp (disch := omega) only [pn_sI_ne]; exact h10
      · simp (disch := omega) only [pn_sI_ne]; exact h85 _ (by omega)
      · rcases (show k = 0 ∨ k = 1 ∨ k = 2 ∨ k = 3 by omega) with rfl | rfl | rfl | rfl <;> simp (disch := omega) only [pn_sI_eq, pn_upd_eq, pn_upd_ne] <;> rfl
      · simp (disch := omega) only [pn_sI_ne]; exact h87 k (by omega)
      · simp (disch := omega) only [pn_sI_ne]
    | succ d ih =>
      intro f i M hi hf h9 h10 h85 h87
      obtain ⟨f, rfl⟩ : ∃ z, f = z + 1 := ⟨f - 1, by omega⟩
      have hib : rm_ib (nI i) 20 = true := by rw [pn_ib (by omega), decide_eq_true_eq]; omega
      have go : ∀ x, x = vI i → ∃ M2, fX8_clears_L55 (fX8_clears_L33 f) (nI i) (nI i) (nI x) M = some M2 ∧ DMr M2 RD0 ∧ M2.1 79 = M.1 79 ∧ FR (fun q => q = 79 ∨ (85 ≤ q ∧ q ≤ 87)) M M2 := by
        intro x hx
        unfold fX8_clears_L55
        rw [if_pos hib, rm_lt1, nI_clamp (by omega), pn_lit 1, nI_add]
        obtain ⟨M2, f2, g2, e2, r2⟩ := ih f (i + 1) (rm_sI M 87 i (nI x)) (by omega) (by omega) (by rw [pn_sI_ne _ _ _ (by omega)]; exact h9) (by rw [pn_sI_ne _ _ _ (by omega)]; exact h10) (fun k hk => by rw [pn_sI_ne _ _ _ (by omega)]; exact h85 k hk) (fun k hk => by
          rw [pn_sI_eq]
          by_cases e : k = i
          · subst e; rw [pn_upd_eq, hx]
          · rw [pn_upd_ne _ _ e]; exact h87 k (by omega))
        exact ⟨M2, f2, g2, by rw [e2, pn_sI_ne _ _ _ (by omega)], FR.tr (FR.sI (by omega)) r2⟩
      rw [fX8_clears_L33, pn_lit 20, if_neg (by rw [nI_leI (by omega) (by omega)]; omega), pn_lit 6, pn_lit 0, pn_lit 1]
      by_cases c : 6 ≤ i
      · rw [if_pos (by rw [nI_leI (by omega) (by omega)]; exact c)]
        exact go 0 (by unfold vI; rw [if_neg (by omega)])
      · rw [if_neg (by rw [nI_leI (by omega) (by omega)]; exact c)]
        exact go 1 (by unfold vI; rw [if_pos (by omega)])
  have k12 : ∀ d f i M, i + d = 36 → d < f → M.1 79 9 = nI 0 → M.1 79 10 = nI 0 → (∀ k, k < i → M.1 85 k = nI 0) → ∃ M2, fX8_clears_L12 f (nI i) M = some M2 ∧ DMr M2 RD0 ∧ M2.1 79 = M.1 79 ∧ FR (fun q => q = 79 ∨ (85 ≤ q ∧ q ≤ 87)) M M2 := by
    intro d
    induction d with
    | zero =>
      intro f i M hi hf h9 h10 h85
      obtain ⟨f, rfl⟩ : ∃ z, f = z + 1 := ⟨f - 1, by omega⟩
      rw [fX8_clears_L12, pn_lit 36, if_pos (by rw [nI_leI (by omega) (by omega)]; omega), pn_lit 0]
      exact k33 20 rm_F 0 M (by omega) (by omega) h9 h10 (fun k hk => h85 k (by omega)) (fun k hk => by omega)
    | succ d ih =>
      intro f i M hi hf h9 h10 h85
      obtain ⟨f, rfl⟩ : ∃ z, f = z + 1 := ⟨f - 1, by omega⟩
      rw [fX8_clears_L12, pn_lit 36, if_neg (by rw [nI_leI (by omega) (by omega)]; omega), if_pos (by rw [pn_ib (by omega), decide_eq_true_eq]; omega), rm_lt1, nI_clamp (by omega), pn_lit 0, pn_lit 1, nI_add]
      obtain ⟨M2, f2, g2, e2, r2⟩ := ih f (i + 1) (rm_sI M 85 i (nI 0)) (by omega) (by omega) (by rw [pn_sI_ne _ _ _ (by omega)]; exact h9) (by rw [pn_sI_ne _ _ _ (by omega)]; exact h10) (fun k hk => by
        rw [pn_sI_eq]
        by_cases e : k = i
        · subst e; rw [pn_upd_eq]
        · rw [pn_upd_ne _ _ e]; exact h85 k (by omega))
      exact ⟨M2, f2, g2, by rw [e2, pn_sI_ne _ _ _ (by omega)], FR.tr (FR.sI (by omega)) r2⟩
  unfold fX8_clears
  rw [pn_lit 0, rm_lt1, rm_lt1]
  obtain ⟨M2, f2, g2, e2, r2⟩ := k12 36 rm_F 0 (rm_sI (rm_sI M 79 9 (nI 0)) 79 10 (nI 0)) (by omega) (by omega) (by simp (disch := omega) only [pn_sI_eq, pn_upd_eq, pn_upd_ne]) (by simp (disch := omega) only [pn_sI_eq, pn_upd_eq, pn_upd_ne]) (fun k hk => by omega)
  refine ⟨M2, f2, g2, fun k a1 a2 a3 a4 => ?_, FR.tr (FR.sIr (FR.sIr FR.rf (Or.inl rfl)) (Or.inl rfl)) r2⟩
  rw [e2]
  simp (disch := omega) only [pn_sI_eq, pn_upd_ne]
theorem pX8_reads {tl : Nat} {tx : Nat → Nat} (hB : TB tl tx) {M : rm_M} (hT : MX M tl tx) : ∃ M2, fX8_reads M = some (rdR (rdF tl tx 200 0 RD0), M2) ∧ (∀ R', rdF tl tx 200 0 RD0 = .inr R' → DMr M2 R') ∧ mF M M2 := by
  have hF := pn_F
  have b := hB.1
  unfold fX8_reads
  obtain ⟨M1, f1, g1, m1⟩ := pX8_clears (M := M)
  rw [f1, pn_bv, pn_lit 0]
  obtain ⟨M2, f2, g2, m2⟩ := pX8_reads_L6 hB 200 rm_F 0 RD0 M1 (by omega) (by omega) (by omega) ⟨fun _ => rfl, fun _ => rfl⟩ (hT.fr m1) WD0 g1
  exact ⟨M2, f2, g2, m1.tr m2⟩
theorem CI.rd {M M2 : rm_M} {n s tl : Nat} {tx : Nat → Nat} {cs jn : Nat} {w : Nat → Nat → Nat} {pr v : Nat → Nat} {hc nx : Nat} {hv : Nat → Nat → Nat} (h : CI M n s tl tx cs jn w pr v hc nx hv) (hcs : cs ≤ 6) (h1 : ∀ k, k ≠ 2 → M2.1 1 k = M.1 1 k) (hF : FR (rdS (47 - n) (113 - s)) M M2) : CI M2 n s tl tx cs jn w pr v hc nx hv := by
  obtain ⟨c1, c2, c3, c4, c5, c6⟩ := h
  have hn := c1.1
  have hs := c1.2.1
  exact ⟨c1.fr hF, c2.pl h1 (hF.1 2 (by unfold rdS; omega)).1, c3.fr hcs hF (fun a ha hb => by unfold rdS; omega), c4.fr hF (by unfold rdS; omega) (by unfold rdS; omega) (by unfold rdS; omega), c5.fr hF (by unfold rdS; omega) (fun a ha hb => by unfold rdS; omega), c6.fr hF (by unfold rdS; omega) (by unfold rdS; omega) (by unfold rdS; omega)⟩
theorem MI.md {M M2 : rm_M} {tl : Nat} {tx : Nat → Nat} {cs jn : Nat} {w : Nat → Nat → Nat} {pr v : Nat → Nat} {hc : Nat} {hv : Nat → Nat → Nat} (h : MI M tl tx cs jn w pr v hc hv) (hF : mF M M2) : MI M2 tl tx cs jn w pr v hc hv :=
  h.fr hF.2 (fun a ha => by omega) (fun k hk => hF.1 k (by omega) (by omega) (by omega) (by omega))
theorem op_fault {t : Nat} {M : rm_M} (h : Inv t M) : ∃ r M1 M2, fX7_fault M = some (r, M1) ∧ fX8_fault M1 = some (r, M2) ∧ Inv (t + 1) M2 := by
  obtain ⟨n, s, tl, tx, cs, jn, w, pr, v, hc, nx, hv, hC, hM, hA⟩ := h
  have c1 := hC.1
  have hn := c1.1
  have hs := c1.2.1
  have hcs := hA.2.2.1.2.1
  have hB : TB tl tx := ⟨hA.1, hA.2.1⟩
  have hn2 : 47 - n = 14 ∨ 47 - n = 33 := by omega
  have hs2 : 113 - s = 55 ∨ 113 - s = 58 := by omega
  obtain ⟨M1, f1, -, j1, r1⟩ := pX5_readInto hn2 hs2 hB hC.2.1
  have hM1 : MI M1 tl tx cs jn w pr v hc hv := hM.fr2 r1 (fun a ha => by unfold rdS at ha; omega)
  obtain ⟨M2, f2, -, m2⟩ := pX8_reads hB (M := M1) ⟨hM1.1, hM1.2.1⟩
  refine ⟨rdR (rdF tl tx 200 0 RD0), M1, M2, ?_, ?_, ?_⟩
  · unfold fX7_fault
    rw [c1.2.2.2.2.1, c1.2.2.2.2.2, rm_lt1, if_pos (pn_net hn2), rm_lt1, if_pos (pn_sta (by omega)), f1, pn_bd]
  · unfold fX8_fault
    rw [f2, pn_bd]
  · exact ⟨n, s, tl, tx, cs, jn, w, pr, v, hc, nx, hv, (hC.rd hcs j1 r1).fr hcs m2.2 (fun a ha => by unfold scr; omega), hM1.md m2, hA.up⟩
