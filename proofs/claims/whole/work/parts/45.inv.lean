/-! ===== what holds between calls ===== -/
def inn (cs : Nat) (w : Nat → Nat → Nat) (v : Nat → Nat) (c : Nat) : Prop := ¬ ((v 12 = 0 ∧ v (6 + c) ≠ v (6 + v 15)) ∨ (v 12 = 3 ∧ v 13 ≤ fw w cs (v 15) c))
/-- by t TICKS and (by MOVES) m moves it can be in c -/
def LV (cs : Nat) (w : Nat → Nat → Nat) (v : Nat → Nat) : Nat → Nat → Nat → Prop
  | 0, m, c => m = 0 ∧ c = v 15
  | t + 1, m, c => c < cs ∧ inn cs w v c ∧ ((LV cs w v t m c ∧ 0 < v c) ∨ ∃ d, d < cs ∧ 0 < w d c ∧ ((v 12 = 1 ∧ ∃ k, m = k + 1 ∧ LV cs w v t k d) ∨ (v 12 ≠ 1 ∧ LV cs w v t m d)))
def HW (cs : Nat) (w : Nat → Nat → Nat) (v : Nat → Nat) : Prop := LV cs w v (v 17) (if v 12 = 1 then v 16 else 0) (v 14) ∧ (v 12 = 1 → v 16 < v 13)
theorem LV_cong {cs : Nat} {w : Nat → Nat → Nat} {v u : Nat → Nat} (hcs : cs ≤ 6) (h : ∀ k, k < 14 → u k = v k) (h15 : u 15 = v 15) (hv15 : v 15 < cs) : ∀ t m c, LV cs w u t m c ↔ LV cs w v t m c := by
  have hin : ∀ c, c < cs → (inn cs w u c ↔ inn cs w v c) := by
    intro c hc
    unfold inn
    rw [h 12 (by omega), h 13 (by omega), h (6 + c) (by omega), h15, h (6 + v 15) (by omega)]
  intro t
  induction t with
  | zero => intro m c; unfold LV; rw [h15]
  | succ t ih =>
    intro m c
    unfold LV
    constructor
    · rintro ⟨h1, h2, h3⟩
      refine ⟨h1, (hin c h1).mp h2, ?_⟩
      rcases h3 with ⟨a, b⟩ | ⟨d, a, b, e⟩
      · exact Or.inl ⟨(ih m c).mp a, by rw [← h c (by omega)]; exact b⟩
      · refine Or.inr ⟨d, a, b, ?_⟩
        rcases e with ⟨e1, k, e2, e3⟩ | ⟨e1, e2⟩
        · exact Or.inl ⟨by rw [← h 12 (by omega)]; exact e1, k, e2, (ih k d).mp e3⟩
        · exact Or.inr ⟨by rw [← h 12 (by omega)]; exact e1, (ih m d).mp e2⟩
    · rintro ⟨h1, h2, h3⟩
      refine ⟨h1, (hin c h1).mpr h2, ?_⟩
      rcases h3 with ⟨a, b⟩ | ⟨d, a, b, e⟩
      · exact Or.inl ⟨(ih m c).mpr a, by rw [h c (by omega)]; exact b⟩
      · refine Or.inr ⟨d, a, b, ?_⟩
        rcases e with ⟨e1, k, e2, e3⟩ | ⟨e1, e2⟩
        · exact Or.inl ⟨by rw [h 12 (by omega)]; exact e1, k, e2, (ih k d).mpr e3⟩
        · exact Or.inr ⟨by rw [h 12 (by omega)]; exact e1, (ih m d).mpr e2⟩
theorem reg_lo {v : Nat → Nat} {k : Nat} (h : k < 15) : reg v k = v k := by unfold reg; rw [vu_ne _ _ (by omega), vu_ne _ _ (by omega), vu_ne _ _ (by omega)]
theorem reg_15 (v : Nat → Nat) : reg v 15 = v 14 := by unfold reg; rw [vu_ne _ _ (by omega), vu_ne _ _ (by omega), vu_eq]
theorem reg_16 (v : Nat → Nat) : reg v 16 = 0 := by unfold reg; rw [vu_ne _ _ (by omega), vu_eq]
theorem reg_17 (v : Nat → Nat) : reg v 17 = 0 := by unfold reg; rw [vu_eq]
theorem reg_hi {v : Nat → Nat} {k : Nat} (h : 18 ≤ k) : reg v k = v k := by unfold reg; rw [vu_ne _ _ (by omega), vu_ne _ _ (by omega), vu_ne _ _ (by omega)]
theorem WV.reg {cs : Nat} {v : Nat → Nat} (h : WV cs v) (hcs : cs ≤ 6) : WV cs (reg v) := by
  obtain ⟨w1, w2, w3, w4, w5, w6, w7⟩ := h
  refine ⟨fun k hk => ?_, fun k hk => ?_, ?_, ?_, ?_, ?_, ?_⟩
  · rcases (show k < 15 ∨ k = 15 ∨ k = 16 ∨ k = 17 ∨ 18 ≤ k by omega) with h | h | h | h | h
    · rw [reg_lo h]; exact w1 k hk
    · subst h; rw [reg_15]; omega
    · subst h; rw [reg_16]; omega
    · subst h; rw [reg_17]; omega
    · rw [reg_hi h]; exact w1 k hk
  · rw [reg_lo (by omega), reg_lo (by omega)]; exact w2 k hk
  · rw [reg_lo (by omega)]; exact w3
  · rw [reg_lo (by omega), reg_lo (by omega)]; exact w4
  · rw [reg_lo (by omega), reg_lo (by omega)]; exact w5
  · rw [reg_lo (by omega)]; exact w6
  · rw [reg_15]; exact w6
theorem HW.reg {cs : Nat} {w : Nat → Nat → Nat} {v : Nat → Nat} (h : WV cs v) : HW cs w (reg v) := by
  unfold HW
  rw [reg_17, reg_16, reg_lo (by omega : 12 < 15), reg_lo (by omega : 13 < 15), reg_lo (by omega : 14 < 15)]
  refine ⟨?_, fun e => by have := h.2.2.2.2.1 (by omega); omega⟩
  rw [show (if v 12 = 1 then 0 else 0) = 0 by split <;> rfl]
  exact ⟨rfl, (reg_15 v).symm⟩
/-- all that is known of a vector after t calls -/
def GV (t cs : Nat) (w : Nat → Nat → Nat) (v : Nat → Nat) : Prop := WV cs v ∧ v 16 ≤ t ∧ v 17 ≤ t ∧ v 18 ≤ t ∧ v 19 ≤ 6 * t ∧ HW cs w v
theorem GV.mono {t t2 cs : Nat} {w : Nat → Nat → Nat} {v : Nat → Nat} (h : GV t cs w v) (ht : t ≤ t2) : GV t2 cs w v := by
  obtain ⟨h1, h2, h3, h4, h5, h6⟩ := h
  exact ⟨h1, by omega, by omega, by omega, by omega, h6⟩
theorem GV.reg {t cs : Nat} {w : Nat → Nat → Nat} {v : Nat → Nat} (h : WV cs v) (hcs : cs ≤ 6) (h18 : v 18 ≤ t) (h19 : v 19 ≤ 6 * t) : GV t cs w (reg v) := by
  refine ⟨h.reg hcs, ?_, ?_, ?_, ?_, HW.reg h⟩
  · rw [reg_16]; omega
  · rw [reg_17]; omega
  · rw [reg_hi (by omega)]; omega
  · rw [reg_hi (by omega)]; omega
theorem WV.vu18 {cs x : Nat} {v : Nat → Nat} (h : WV cs v) {k : Nat} (hk : 16 ≤ k) (hx : x < 2 ^ 31) : WV cs (vu v k x) := by
  obtain ⟨w1, w2, w3, w4, w5, w6, w7⟩ := h
  refine ⟨fun j hj => ?_, fun j hj => ?_, ?_, ?_, ?_, ?_, ?_⟩
  · by_cases e : j = k
    · subst e; rw [vu_eq]; exact hx
    · rw [vu_ne _ _ e]; exact w1 j hj
  · rw [vu_ne _ _ (by omega), vu_ne _ _ (by omega)]; exact w2 j hj
  · rw [vu_ne _ _ (by omega)]; exact w3
  · rw [vu_ne _ _ (by omega), vu_ne _ _ (by omega)]; exact w4
  · rw [vu_ne _ _ (by omega), vu_ne _ _ (by omega)]; exact w5
  · rw [vu_ne _ _ (by omega)]; exact w6
  · rw [vu_ne _ _ (by omega)]; exact w7
/-- it can go to c -/
def cgo (w : Nat → Nat → Nat) (v : Nat → Nat) (c : Nat) : Prop := (c = v 14 ∧ 0 < v c) ∨ (c ≠ v 14 ∧ 0 < w (v 14) c)
theorem GV.go {t cs c : Nat} {w : Nat → Nat → Nat} {v : Nat → Nat} (h : GV t cs w v) (hcs : cs ≤ 6) (ht : t < 100000) (hc : c < cs) (hg : cgo w v c) : GV (t + 1) cs w (goV (fw w cs) c v) := by
  obtain ⟨h1, h2, h3, h4, h5, h6⟩ := h
  have hm := h1.mv1 hc hcs (by omega) (by omega)
  unfold goV
  by_cases d : due (fw w cs) (mv1 c v) = true
  · rw [if_pos d]
    refine GV.reg (hm.vu18 (by omega) (by omega)) hcs ?_ ?_
    · rw [vu_eq]; omega
    · rw [vu_ne _ _ (by omega), mv1_18 (by omega)]; omega
  · rw [if_neg d]
    have e12 : mv1 c v 12 = v 12 := mv1_lo (by omega)
    have e13 : mv1 c v 13 = v 13 := mv1_lo (by omega)
    refine ⟨hm, ?_, ?_, ?_, ?_, ?_, ?_⟩
    · rw [mv1_16]; split <;> omega
    · rw [mv1_17]; omega
    · rw [mv1_18 (by omega)]; omega
    · rw [mv1_18 (by omega)]; omega
    · rw [LV_cong (v := v) (u := mv1 c v) hcs (fun k hk => mv1_lo hk) mv1_15 h1.2.2.2.2.2.2, mv1_17, mv1_14, e12, mv1_16]
      unfold due at d
      rw [e12, e13, mv1_14, mv1_15, mv1_16, mv1_17, mv1_lo (show 6 + c < 14 by omega), mv1_lo (show 6 + v 15 < 14 by have := h1.2.2.2.2.2.2; omega)] at d
      obtain ⟨L, hL⟩ := h6
      unfold LV
      refine ⟨hc, ?_, ?_⟩
      · unfold inn
        rintro (⟨a, b⟩ | ⟨a, b⟩)
        · rw [if_pos a] at d; simp [b] at d
        · rw [if_neg (by omega), if_neg (by omega), if_neg (by omega)] at d; simp at d; omega
      · rcases hg with ⟨g1, g2⟩ | ⟨g1, g2⟩
        · refine Or.inl ⟨?_, g2⟩
          rw [if_pos g1, g1]
          exact L
        · rw [if_neg g1]
          refine Or.inr ⟨v 14, h1.2.2.2.2.2.1, g2, ?_⟩
          by_cases k : v 12 = 1
          · rw [if_pos k] at L ⊢
            exact Or.inl ⟨k, v 16, rfl, L⟩
          · rw [if_neg k] at L ⊢
            exact Or.inr ⟨k, L⟩
    · rw [e12, e13]
      intro k
      unfold due at d
      rw [e12, e13, if_neg (by omega), if_pos k] at d
      simp at d
      omega
/-! the class between calls -/
def PT (M : rm_M) (n s : Nat) : Prop := (n = 14 ∨ n = 33) ∧ (s = 55 ∨ s = 58) ∧ M.2.2 6 = n ∧ M.2.2 7 = s ∧ M.2.2 8 = 47 - n ∧ M.2.2 9 = 113 - s
def TX (M : rm_M) (tl : Nat) (tx : Nat → Nat) : Prop := M.1 1 3 = nI tl ∧ ∀ k, k < tl → M.1 2 k = nI (tx k)
def NI (M : rm_M) (n cs jn : Nat) (w : Nat → Nat → Nat) (pr : Nat → Nat) : Prop := CN M n cs w ∧ M.1 n 1 = nI jn ∧ (∀ c, c < cs → M.1 (n + 15) c = nI (nr cs w c)) ∧ CD M n cs (fw w cs) ∧ CT M n cs w ∧ CPr M n pr
def RI (M : rm_M) (cs : Nat) (w : Nat → Nat → Nat) (v pr : Nat → Nat) : Prop := CA M cs w v ∧ M.2.1 6 1 = J (bI cs w v) ∧ CB M cs w v pr
def CI (M : rm_M) (n s tl : Nat) (tx : Nat → Nat) (cs jn : Nat) (w : Nat → Nat → Nat) (pr v : Nat → Nat) (hc nx : Nat) (hv : Nat → Nat → Nat) : Prop := PT M n s ∧ TX M tl tx ∧ NI M n cs jn w pr ∧ SV M s v ∧ CP M hc nx hv ∧ RI M cs w v pr
/-- the model between calls -/
def MI (M : rm_M) (tl : Nat) (tx : Nat → Nat) (cs jn : Nat) (w : Nat → Nat → Nat) (pr v : Nat → Nat) (hc : Nat) (hv : Nat → Nat → Nat) : Prop := M.1 79 0 = nI tl ∧ (∀ k, k < tl → M.1 80 k = nI (tx k)) ∧ MW M cs w ∧ M.1 79 3 = nI jn ∧ MPr M pr ∧ MV M 83 v ∧ MP M hc hv
/-- what is told and told anew -/
def AI (t tl : Nat) (tx : Nat → Nat) (cs : Nat) (w : Nat → Nat → Nat) (pr v : Nat → Nat) (hc : Nat) (hv : Nat → Nat → Nat) : Prop := tl ≤ 200 ∧ (∀ k, k < tl → 32 ≤ tx k ∧ tx k ≤ 126) ∧ WN cs w ∧ (∀ k, k < 4 → pr k ≤ 99) ∧ 1 ≤ pr 0 ∧ pr 0 ≤ 4 ∧ GV t cs w v ∧ ∀ i, i < hc → GV t cs w (hv i)
def Inv (t : Nat) (M : rm_M) : Prop := ∃ n s tl tx cs jn w pr v hc nx hv, CI M n s tl tx cs jn w pr v hc nx hv ∧ MI M tl tx cs jn w pr v hc hv ∧ AI t tl tx cs w pr v hc hv
theorem PT.fr {S : Nat → Prop} {M M2 : rm_M} {n s : Nat} (h : PT M n s) (hF : FR S M M2) : PT M2 n s := by
  unfold PT at *
  rw [hF.2]
  exact h
theorem TX.fr {S : Nat → Prop} {M M2 : rm_M} {tl : Nat} {tx : Nat → Nat} (h : TX M tl tx) (hF : FR S M M2) (h1 : ¬ S 1) (h2 : ¬ S 2) : TX M2 tl tx := ⟨by rw [(hF.1 _ h1).1]; exact h.1, fun k hk => by rw [(hF.1 _ h2).1]; exact h.2 k hk⟩
theorem NI.fr {S : Nat → Prop} {M M2 : rm_M} {n cs jn : Nat} {w : Nat → Nat → Nat} {pr : Nat → Nat} (h : NI M n cs jn w pr) (hcs : cs ≤ 6) (hF : FR S M M2) (h0 : ∀ a, n ≤ a → a < n + 19 → ¬ S a) : NI M2 n cs jn w pr := by
  obtain ⟨h1, h2, h3, h4, h5, h6⟩ := h
  refine ⟨h1.fr hcs hF h0, ?_, fun c hc => ?_, fun a b ha hb => ?_, h5.fr hF (h0 _ (by omega) (by omega)), h6.fr hF (h0 _ (by omega) (by omega))⟩
  · rw [(hF.1 _ (h0 _ (by omega) (by omega))).1]; exact h2
  · rw [(hF.1 _ (h0 _ (by omega) (by omega))).1]; exact h3 c hc
  · rw [(hF.1 _ (h0 _ (by omega) (by omega))).1]; exact h4 a b ha hb
theorem CP.fr {S : Nat → Prop} {M M2 : rm_M} {hc nx : Nat} {hv : Nat → Nat → Nat} (h : CP M hc nx hv) (hF : FR S M M2) (h4 : ¬ S 4) (h0 : ∀ a, 61 ≤ a → a < 79 → ¬ S a) : CP M2 hc nx hv := by
  obtain ⟨p1, p2, p3, p4, p5⟩ := h
  refine ⟨by rw [(hF.1 _ h4).1]; exact p1, by rw [(hF.1 _ h4).1]; exact p2, p3, p4, fun i hi => ?_⟩
  have e3 : slot nx hc i < 6 := by unfold slot; omega
  exact (p5 i hi).fr hF (h0 _ (by omega) (by omega)) (h0 _ (by omega) (by omega)) (h0 _ (by omega) (by omega))
theorem CB.fr {S : Nat → Prop} {M M2 : rm_M} {cs : Nat} {w : Nat → Nat → Nat} {v pr : Nat → Nat} (h : CB M cs w v pr) (hF : FR S M M2) (h6 : ¬ S 6) (h8 : ¬ S 8) : CB M2 cs w v pr := by
  unfold CB TR at *
  rw [(hF.1 _ h6).1, (hF.1 _ h6).2, (hF.1 _ h8).1]
  exact h
theorem RI.fr {S : Nat → Prop} {M M2 : rm_M} {cs : Nat} {w : Nat → Nat → Nat} {v pr : Nat → Nat} (h : RI M cs w v pr) (hF : FR S M M2) (h6 : ¬ S 6) (h7 : ¬ S 7) (h8 : ¬ S 8) : RI M2 cs w v pr := ⟨h.1.fr hF h7, by rw [(hF.1 _ h6).2]; exact h.2.1, h.2.2.fr hF h6 h8⟩
/-- places that no call looks at before it writes them -/
def scr (a : Nat) : Prop := a = 3 ∨ a = 5 ∨ (9 ≤ a ∧ a < 14) ∨ (52 ≤ a ∧ a < 55) ∨ 79 ≤ a
theorem CI.fr {S : Nat → Prop} {M M2 : rm_M} {n s tl : Nat} {tx : Nat → Nat} {cs jn : Nat} {w : Nat → Nat → Nat} {pr v : Nat → Nat} {hc nx : Nat} {hv : Nat → Nat → Nat} (h : CI M n s tl tx cs jn w pr v hc nx hv) (hcs : cs ≤ 6) (hF : FR S M M2) (hS : ∀ a, S a → scr a) : CI M2 n s tl tx cs jn w pr v hc nx hv := by
  obtain ⟨h1, h2, h3, h4, h5, h6⟩ := h
  have g : ∀ a, ¬ scr a → ¬ S a := fun a q z => q (hS a z)
  have hn := h1.1
  have hs := h1.2.1
  unfold scr at g
  exact ⟨h1.fr hF, h2.fr hF (g _ (by omega)) (g _ (by omega)), h3.fr hcs hF (fun a ha hb => g _ (by omega)), h4.fr hF (g _ (by omega)) (g _ (by omega)) (g _ (by omega)), h5.fr hF (g _ (by omega)) (fun a ha hb => g _ (by omega)), h6.fr hF (g _ (by omega)) (g _ (by omega)) (g _ (by omega))⟩
theorem MI.fr {S : Nat → Prop} {M M2 : rm_M} {tl : Nat} {tx : Nat → Nat} {cs jn : Nat} {w : Nat → Nat → Nat} {pr v : Nat → Nat} {hc : Nat} {hv : Nat → Nat → Nat} (h : MI M tl tx cs jn w pr v hc hv) (hF : FR S M M2) (hS : ∀ a, S a → a < 80 ∨ 85 ≤ a) (h79 : ∀ k, k = 0 ∨ k = 2 ∨ k = 3 ∨ k = 8 → M2.1 79 k = M.1 79 k) : MI M2 tl tx cs jn w pr v hc hv := by
  obtain ⟨h1, h2, h3, h4, h5, h6, h7⟩ := h
  have g : ∀ a, 80 ≤ a → a < 85 → ¬ S a := fun a q q2 z => by have := hS a z; omega
  refine ⟨by rw [h79 0 (by omega)]; exact h1, fun k hk => by rw [(hF.1 80 (g _ (by omega) (by omega))).1]; exact h2 k hk, ⟨by rw [h79 2 (by omega)]; exact h3.1, fun a b ha hb => by rw [(hF.1 81 (g _ (by omega) (by omega))).1]; exact h3.2 a b ha hb⟩, by rw [h79 3 (by omega)]; exact h4, h5.fr hF (g _ (by omega) (by omega)), h6.fr hF (g _ (by omega) (by omega)), by rw [h79 8 (by omega)]; exact h7.1, fun i k hi hk => by rw [(hF.1 84 (g _ (by omega) (by omega))).1]; exact h7.2 i k hi hk⟩
theorem MI.fr2 {S : Nat → Prop} {M M2 : rm_M} {tl : Nat} {tx : Nat → Nat} {cs jn : Nat} {w : Nat → Nat → Nat} {pr v : Nat → Nat} {hc : Nat} {hv : Nat → Nat → Nat} (h : MI M tl tx cs jn w pr v hc hv) (hF : FR S M M2) (hS : ∀ a, S a → a < 79 ∨ 85 ≤ a) : MI M2 tl tx cs jn w pr v hc hv :=
  h.fr hF (fun a ha => by have := hS a ha; omega) (fun k _ => by rw [(hF.1 79 (fun z => by have := hS _ z; omega)).1])
theorem AI.up {t tl : Nat} {tx : Nat → Nat} {cs : Nat} {w : Nat → Nat → Nat} {pr v : Nat → Nat} {hc : Nat} {hv : Nat → Nat → Nat} (h : AI t tl tx cs w pr v hc hv) : AI (t + 1) tl tx cs w pr v hc hv := by
  obtain ⟨h1, h2, h3, h4, h5, h6, h7, h8⟩ := h
  exact ⟨h1, h2, h3, h4, h5, h6, h7.mono (by omega), fun i hi => (h8 i hi).mono (by omega)⟩
/-- a change is told: the old vector is kept -/
theorem AI.kp {t tl : Nat} {tx : Nat → Nat} {cs : Nat} {w : Nat → Nat → Nat} {pr v u : Nat → Nat} {hc : Nat} {hv : Nat → Nat → Nat} (h : AI t tl tx cs w pr v hc hv) (hh : hc ≤ 6) (hu : GV (t + 1) cs w u) : AI (t + 1) tl tx cs w pr u (kpN hc) (kpV hc hv v) := by
  obtain ⟨h1, h2, h3, h4, h5, h6, h7, h8⟩ := h
  refine ⟨h1, h2, h3, h4, h5, h6, hu, fun i hi => ?_⟩
  unfold kpN at hi
  unfold kpV
  by_cases c : hc = 6
  · rw [if_pos c] at hi
    rw [if_pos c]
    by_cases e : i = 5
    · rw [if_pos e]; exact h7.mono (by omega)
    · rw [if_neg e]; exact (h8 _ (by omega)).mono (by omega)
  · rw [if_neg c] at hi
    rw [if_neg c]
    by_cases e : i = hc
    · rw [if_pos e]; exact h7.mono (by omega)
    · rw [if_neg e]; exact (h8 _ (by omega)).mono (by omega)
