/-! best, least, give -/
theorem bfd_ok {cs : Nat} {val : Nat → Int64} : ∀ f x l b, chk cs f x = true → l = val b → (∀ k, k < 6 → dg b k ≤ 5) → (bfd cs val f x l b).1 = val (bfd cs val f x l b).2 ∧ ∀ k, k < 6 → dg (bfd cs val f x l b).2 k ≤ 5 := by
  intro f
  induction f with
  | zero => intro x l b hc; cases hc
  | succ f ih =>
    intro x l b hc hl hb
    obtain ⟨o1, o2, o3, o4⟩ := chk_ok hc
    rw [bfd]
    cases hy : ncf x (cs - 1) with
    | none => exact ⟨hl, hb⟩
    | some y =>
      have hcy := o4 y hy
      have hyd : ∀ k, k < 6 → dg y k ≤ 5 := by
        cases f with
        | zero => cases hcy
        | succ f => exact (chk_ok hcy).2.1
      show _ ∧ _
      by_cases e : val y < l
      · simp only [if_pos e]; exact ih y _ y hcy rfl hyd
      · simp only [if_neg e]; exact ih y l b hcy hl hb
theorem bst_ok {cs : Nat} {w : Nat → Nat → Nat} (h : WN cs w) (v pr : Nat → Nat) : (bstF cs w v pr).1 = J (exI cs w v pr (dg (bstF cs w v pr).2)) ∧ ∀ k, k < 6 → dg (bstF cs w v pr).2 k ≤ 5 :=
  bfd_ok (val := fun x => J (exI cs w v pr (dg x))) bN 0 _ 0 (chk_cs h.1 h.2.1) rfl (fun k _ => by rw [dg0]; omega)
theorem CI.best {t : Nat} {M : rm_M} {n s tl : Nat} {tx : Nat → Nat} {cs jn : Nat} {w : Nat → Nat → Nat} {pr v : Nat → Nat} {hc nx : Nat} {hv : Nat → Nat → Nat} (h : CI M n s tl tx cs jn w pr v hc nx hv) (hA : AI t tl tx cs w pr v hc hv) : ∃ M2, fX0_findBest n M = some M2 ∧ CI M2 n s tl tx cs jn w pr v hc nx hv ∧ TR M2 8 (bstF cs w v pr).2 ∧ M2.2.1 6 3 = (bstF cs w v pr).1 ∧ FR (fun q => q < 79) M M2 := by
  obtain ⟨c1, c2, c3, c4, c5, c6⟩ := h
  have hn := c1.1
  have hs := c1.2.1
  have hW := hA.2.2.1
  obtain ⟨M2, f2, g1, g2, g3, g4, g5, r2⟩ := pX0_findBest hW hn hA.2.2.2.1 c3.1 c3.2.2.2.2.1 c6.1 c3.2.2.2.2.2 c6.2.2
  exact ⟨M2, f2, ⟨c1.fr r2, c2.fr r2 (by omega) (by omega), c3.fr hW.2.1 r2 (fun a ha hb => by omega), c4.fr r2 (by omega) (by omega) (by omega), c5.fr r2 (by omega) (fun a ha hb => by omega), ⟨fun c hc => by rw [g5]; exact c6.1 c hc, by rw [g4]; exact c6.2.1, Or.inr ⟨g1, g2, g3⟩⟩⟩, g2, g3, r2.mono (fun a ha => by omega)⟩
theorem op_best {t : Nat} {M : rm_M} (h : Inv t M) (a : Int32) : ∃ r M1 M2, fX7_best a M = some (r, M1) ∧ fX8_best a M1 = some (r, M2) ∧ Inv (t + 1) M2 := by
  have h0 := h.ro FR.rf (fun a (ha : False) => ha.elim)
  obtain ⟨n, s, tl, tx, cs, jn, w, pr, v, hc, nx, hv, hC, hM, hA⟩ := h
  have hn := hC.1.1
  have p6 := hC.1.2.2.1
  have kn := pn_net hn
  have hW := hA.2.2.1
  have h1 := hW.1
  have h2 := hW.2.1
  have hG := hA.2.2.2.2.2.2.1
  have hc0 := hC.2.2.1.1.1
  have hm0 := hM.2.2.1.1
  unfold fX7_best fX8_best
  rcases natOr a (n := cs) (by omega) with ⟨k, hk, rfl⟩ | hno
  · obtain ⟨M1, f1, z1, t1, e1, r1⟩ := hC.best hA
    have hM1 := hM.fr2 r1 (fun a ha => by omega)
    obtain ⟨M2, f2, t2, g2, r2⟩ := pX8_finds hW (fun c hc => (hG.1.2.1 c hc).1) hA.2.2.2.1 hM1.2.2.1 hM1.2.2.2.2.2.1 hM1.2.2.2.2.1
    refine ⟨nI (dg (bstF cs w v pr).2 k), M1, M2, ?_, ?_, Inv.mk z1 (hM1.fr2 r2 (fun a ha => by omega)) hA.up (r2.mono (fun a ha => by omega))⟩
    · rw [pX7_isCell_yes p6 hn hc0 h2 hk, pn_bd, pn_lit 0, if_neg z10, rm_lt1, p6, if_pos kn, f1, pn_bv, if_pos (by rw [pn_ib (by omega), decide_eq_true_eq]; omega), nI_clamp (by omega), t1 k (by omega)]
    · rw [pX8_isCell_yes hM1.2.2.1.1 h2 hk, pn_bd, pn_lit 0, if_neg z10, f2, pn_bd, if_pos (by rw [pn_ib (by omega), decide_eq_true_eq]; omega), nI_clamp (by omega), t2 k (by omega)]
  · rw [pX7_isCell_no p6 hn hc0 hno, pn_bd, pn_lit 0, if_pos rfl]
    refine ⟨_, _, M, rfl, ?_, h0⟩
    rw [pX8_isCell_no hm0 h2 (by omega) hno, pn_bd, if_pos rfl]
theorem op_least {t : Nat} {M : rm_M} (h : Inv t M) (a : Int32) : ∃ r M1 M2, fX7_least a M = some (r, M1) ∧ fX8_least a M1 = some (r, M2) ∧ Inv (t + 1) M2 := by
  have h0 := h.ro FR.rf (fun a (ha : False) => ha.elim)
  obtain ⟨n, s, tl, tx, cs, jn, w, pr, v, hc, nx, hv, hC, hM, hA⟩ := h
  have hn := hC.1.1
  have p6 := hC.1.2.2.1
  have kn := pn_net hn
  have hW := hA.2.2.1
  have h2 := hW.2.1
  have hG := hA.2.2.2.2.2.2.1
  have hv9 : ∀ c, c < 6 → v c ≤ 9 := fun c hc => (hG.1.2.1 c hc).1
  unfold fX7_least fX8_least
  rcases natOr a (n := 2) (by omega) with ⟨p, hp, rfl⟩ | hno
  · obtain ⟨M1, f1, z1, t1, e1, r1⟩ := hC.best hA
    have hM1 := hM.fr2 r1 (fun a ha => by omega)
    obtain ⟨M2, f2, t2, g2, r2⟩ := pX8_finds hW hv9 hA.2.2.2.1 hM1.2.2.1 hM1.2.2.2.2.2.1 hM1.2.2.2.2.1
    have hM2 := hM1.fr2 r2 (fun a ha => by omega)
    have eb := exI_bd hW hv9 hA.2.2.2.1 (dg (bstF cs w v pr).2)
    have bb := bI_bd hW hv9
    refine ⟨lwI (exI cs w v pr (dg (bstF cs w v pr).2)) (((100 : Nat) : Int) * bI cs w v) p, M1, M2, ?_, ?_, Inv.mk z1 hM2 hA.up (r2.mono (fun a ha => by omega))⟩
    · rw [pX7_isPart_yes hp, pn_bd, pn_lit 0, if_neg z10, rm_lt1, p6, if_pos kn, f1, pn_bv, e1, (bst_ok hW v pr).1, z1.2.2.2.2.2.2.1, J_lit 100, J_mul, pX7_lowest (by omega) (by omega) (by omega) (by omega) hp, pn_bd]
    · rw [pn_lit 0, pn_lit 1, pX8_isIn_yes (by omega) (by omega) (by omega), pn_bd, if_neg z10, f2, pn_bd, pX8_below hW hv9 hM2.2.2.1 g2 hM2.2.2.2.2.2.1, pn_bd, (bst_ok hW v pr).1, J_lit 100, J_mul, pX8_term (by omega) (by omega) (by omega) (by omega) hp, pn_bd]
  · rw [pX7_isPart_no hno, pn_bd, pn_lit 0, if_pos rfl]
    refine ⟨_, _, M, rfl, ?_, h0⟩
    rw [pn_lit 1, pX8_isIn_no hno (by omega), pn_bd, if_pos rfl]
/-- areas of the cells below i are given -/
def gvV (x i : Nat) (v : Nat → Nat) : Nat → Nat := fun k => if 6 ≤ k ∧ k < 6 + i then dg x (k - 6) else v k
theorem gv0 (x : Nat) (v : Nat → Nat) : gvV x 0 v = v := by funext k; unfold gvV; rw [if_neg (by omega)]
theorem gv1 (x i : Nat) (v : Nat → Nat) : vu (gvV x i v) (6 + i) (dg x i) = gvV x (i + 1) v := by
  funext k
  unfold gvV vu
  by_cases e : k = 6 + i
  · subst e; rw [if_pos rfl, if_pos (by omega)]; congr 1; omega
  · rw [if_neg e]
    show (if 6 ≤ k ∧ k < 6 + i then dg x (k - 6) else v k) = _
    by_cases e2 : 6 ≤ k ∧ k < 6 + i
    · rw [if_pos e2, if_pos (by omega)]
    · rw [if_neg e2, if_neg (by omega)]
theorem gv_o {x i k : Nat} {v : Nat → Nat} (h : k < 6 ∨ 6 + i ≤ k) : gvV x i v k = v k := by unfold gvV; rw [if_neg (by omega)]
theorem WV.gv {cs x : Nat} {v : Nat → Nat} (h : WV cs v) (hcs : cs ≤ 6) (hx : ∀ k, k < 6 → dg x k ≤ 5) : WV cs (gvV x cs v) := by
  obtain ⟨w1, w2, w3, w4, w5, w6, w7⟩ := h
  refine ⟨fun j hj => ?_, fun j hj => ?_, ?_, ?_, ?_, ?_, ?_⟩
  · unfold gvV
    split
    · have := hx (j - 6) (by omega); omega
    · exact w1 j hj
  · rw [gv_o (by omega)]
    refine ⟨(w2 j hj).1, ?_⟩
    unfold gvV
    split
    · exact hx _ (by omega)
    · exact (w2 j hj).2
  · rw [gv_o (by omega)]; exact w3
  · rw [gv_o (by omega), gv_o (by omega)]; exact w4
  · rw [gv_o (by omega), gv_o (by omega)]; exact w5
  · rw [gv_o (by omega)]; exact w6
  · rw [gv_o (by omega)]; exact w7
theorem pX7_give_L26 {cs n s x : Nat} {v : Nat → Nat} (hcs : cs ≤ 6) (hx : ∀ k, k < 6 → dg x k ≤ 5) (hv : ∀ c, c < 6 → v (6 + c) ≤ 5) : ∀ d f i acc M, i + d = cs → d < f → PT M n s → M.1 n 0 = nI cs → TR M 8 x → SV M s (gvV x i v) →
    ∃ M2, fX7_give_L26 f (nI acc) (nI i) M = some (nI (acc + rs (fun c => if v (6 + c) = dg x c then 0 else 1) i d), M2) ∧ SV M2 s (reg (gvV x cs v)) ∧ FR (fun q => q = s ∨ q = s + 1 ∨ q = s + 2) M M2 := by
  intro d
  induction d with
  | zero =>
    intro f i acc M hi hf hP h0 hT hS
    obtain ⟨f, rfl⟩ : ∃ z, f = z + 1 := ⟨f - 1, by omega⟩
    have hn := hP.1
    have hs := hP.2.1
    have kn := pn_net hn
    have ks := pn_sta (s := s) (by omega)
    obtain ⟨M2, f2, s2, r2⟩ := pX4_register hS
    rw [fX7_give_L26, rm_lt1, hP.2.2.1, if_pos kn, h0, if_pos (by rw [nI_leI (by omega) (by omega)]; omega), rm_lt1, hP.2.2.2.1, if_pos ks, f2, pn_bv, rs, Nat.add_zero]
    rw [show i = cs by omega] at s2
    exact ⟨M2, rfl, s2, r2.mono (fun a ha => Or.inl ha)⟩
  | succ d ih =>
    intro f i acc M hi hf hP h0 hT hS
    obtain ⟨f, rfl⟩ : ∃ z, f = z + 1 := ⟨f - 1, by omega⟩
    have hn := hP.1
    have hs := hP.2.1
    have kn := pn_net hn
    have ks := pn_sta (s := s) (by omega)
    have hib : rm_ib (nI i) 6 = true := by rw [pn_ib (by omega), decide_eq_true_eq]; omega
    have ev : gvV x i v (6 + i) = v (6 + i) := gv_o (by omega)
    have b1 := hx i (by omega)
    have b2 := hv i (by omega)
    have r1 : FR (fun q => q = s ∨ q = s + 1 ∨ q = s + 2) M (rm_sI M (s + 2) i (nI (dg x i))) := FR.sI (Or.inr (Or.inr rfl))
    have s1 := hS.area (c := i) (dg x i) (by omega)
    rw [gv1] at s1
    have go : ∀ acc2, ∃ M2, fX7_give_L61 (fX7_give_L26 f) (nI acc2) (nI i) M = some (nI (acc2 + rs (fun c => if v (6 + c) = dg x c then 0 else 1) (i + 1) d), M2) ∧ SV M2 s (reg (gvV x cs v)) ∧ FR (fun q => q = s ∨ q = s + 1 ∨ q = s + 2) M M2 := by
      intro acc2
      unfold fX7_give_L61
      rw [rm_lt1, hP.2.2.2.1, if_pos ks, if_pos hib, if_pos hib, nI_clamp (by omega), hT i (by omega), rm_lt1, pn_lit 1, nI_add]
      obtain ⟨M2, f2, s2, r2⟩ := ih f (i + 1) acc2 _ (by omega) (by omega) (hP.fr r1) (by rw [(r1.1 n (by omega)).1]; exact h0) (fun k hk => by rw [(r1.1 8 (by omega)).1]; exact hT k hk) s1
      exact ⟨M2, f2, s2, r1.tr r2⟩
    rw [fX7_give_L26, rm_lt1, hP.2.2.1, if_pos kn, h0, if_neg (by rw [nI_leI (by omega) (by omega)]; omega), rm_lt1, hP.2.2.2.1, if_pos ks, if_pos hib, if_pos hib, nI_clamp (by omega), hT i (by omega), hS.2.1 i (by omega), ev, pn_lit 1, nI_add, rs]
    by_cases e : v (6 + i) = dg x i
    · rw [if_pos (by rw [e]), if_pos e, Nat.zero_add]
      exact go acc
    · rw [if_neg (by rw [nI_eq (by omega) (by omega)]; exact e), if_neg e, ← Nat.add_assoc]
      exact go (acc + 1)
theorem pX8_give_L13 {cs x : Nat} {v : Nat → Nat} (hcs : cs ≤ 6) (hx : ∀ k, k < 6 → dg x k ≤ 5) (hv : ∀ c, c < 6 → v (6 + c) ≤ 5) : ∀ d f i acc M, i + d = cs → d < f → M.1 79 2 = nI cs → TR M 93 x → MV M 83 (gvV x i v) →
    ∃ M2, fX8_give_L13 f (nI acc) (nI i) M = some (nI (acc + rs (fun c => if v (6 + c) = dg x c then 0 else 1) i d), M2) ∧ MV M2 83 (reg (gvV x cs v)) ∧ FR (fun q => q = 83) M M2 := by
  intro d
  induction d with
  | zero =>
    intro f i acc M hi hf h0 hT hS
    obtain ⟨f, rfl⟩ : ∃ z, f = z + 1 := ⟨f - 1, by omega⟩
    obtain ⟨M2, f2, s2, r2⟩ := pX8_registers kd83 hS
    rw [fX8_give_L13, h0, if_pos (by rw [nI_leI (by omega) (by omega)]; omega), f2, pn_bv, rs, Nat.add_zero]
    rw [show i = cs by omega] at s2
    exact ⟨M2, rfl, s2, r2⟩
  | succ d ih =>
    intro f i acc M hi hf h0 hT hS
    obtain ⟨f, rfl⟩ : ∃ z, f = z + 1 := ⟨f - 1, by omega⟩
    have hib : rm_ib (nI i) 6 = true := by rw [pn_ib (by omega), decide_eq_true_eq]; omega
    have hib2 : rm_ib (nI (6 + i)) 20 = true := by rw [pn_ib (by omega), decide_eq_true_eq]; omega
    have ev : gvV x i v (6 + i) = v (6 + i) := gv_o (by omega)
    have b1 := hx i (by omega)
    have b2 := hv i (by omega)
    have r1 : FR (fun q => q = 83) M (rm_sI M 83 (6 + i) (nI (dg x i))) := FR.sI rfl
    have s1 := hS.put (j := 6 + i) (dg x i)
    rw [gv1] at s1
    have go : ∀ acc2 y, ∃ M2, fX8_give_L45 (fX8_give_L13 f) (nI i) (nI acc2) (nI y) M = some (nI (acc2 + y + rs (fun c => if v (6 + c) = dg x c then 0 else 1) (i + 1) d), M2) ∧ MV M2 83 (reg (gvV x cs v)) ∧ FR (fun q => q = 83) M M2 := by
      intro acc2 y
      unfold fX8_give_L45
      rw [rm_lt1, if_pos hib, pn_lit 6, nI_add, nI_add, if_pos hib2, nI_clamp (by omega), nI_clamp (by omega), hT i (by omega), rm_lt1, pn_lit 1, nI_add]
      obtain ⟨M2, f2, s2, r2⟩ := ih f (i + 1) (acc2 + y) _ (by omega) (by omega) (by rw [(r1.1 79 (by omega)).1]; exact h0) (fun k hk => by rw [(r1.1 93 (by omega)).1]; exact hT k hk) s1
      exact ⟨M2, f2, s2, r1.tr r2⟩
    rw [fX8_give_L13, h0, if_neg (by rw [nI_leI (by omega) (by omega)]; omega), pn_lit 6, nI_add, if_pos hib2, if_pos hib, nI_clamp (by omega), nI_clamp (by omega), hT i (by omega), hS (6 + i) (by omega), ev, pn_lit 0, pn_lit 1, rs]
    by_cases e : v (6 + i) = dg x i
    · rw [if_pos (by rw [e]), if_pos e, ← Nat.add_assoc]
      exact go acc 0
    · rw [if_neg (by rw [nI_eq (by omega) (by omega)]; exact e), if_neg e, ← Nat.add_assoc]
      exact go acc 1
theorem op_give {t : Nat} {M : rm_M} (h : Inv t M) : ∃ r M1 M2, fX7_give M = some (r, M1) ∧ fX8_give M1 = some (r, M2) ∧ Inv (t + 1) M2 := by
  have hF := pn_F
  obtain ⟨n, s, tl, tx, cs, jn, w, pr, v, hc, nx, hv, hC, hM, hA⟩ := h
  have hn := hC.1.1
  have hs := hC.1.2.1
  have p6 := hC.1.2.2.1
  have kn := pn_net hn
  have ks := pn_sta (s := s) (by omega)
  have hW := hA.2.2.1
  have h2 := hW.2.1
  have hG := hA.2.2.2.2.2.2.1
  have hh := hC.2.2.2.2.1.2.2.1
  have hv9 : ∀ c, c < 6 → v c ≤ 9 := fun c hc => (hG.1.2.1 c hc).1
  have hv5 : ∀ c, c < 6 → v (6 + c) ≤ 5 := fun c hc => (hG.1.2.1 c hc).2
  have hx := (bst_ok hW v pr).2
  obtain ⟨M1, f1, z1, t1, e1, r1⟩ := hC.best hA
  have hB := z1.2.2.2.2.2.2.2
  obtain ⟨M2, nx2, f2, z2, r2⟩ := z1.keep h2
  have t2 : TR M2 8 (bstF cs w v pr).2 := by
    intro k hk
    obtain ⟨M2', nx2', f2', p2', r2'⟩ := pX2_keep z1.2.2.2.2.1 z1.2.2.2.1 hs
    rw [f2] at f2'
    cases f2'
    rw [(r2'.1 8 (by omega)).1]
    exact t1 k hk
  obtain ⟨M3, f3, s3, r3⟩ := pX7_give_L26 (n := n) h2 hx hv5 cs rm_F 0 0 M2 (by omega) (by omega) z2.1 z2.2.2.1.1.1 t2 (by rw [gv0]; exact z2.2.2.2.1)
  have z3 := z2.st h2 r3 s3 (fun c hc => by rw [reg_lo (by omega), gv_o (by omega)])
  have r13 : FR (fun q => q < 79) M M3 := r1.tr (r2.tr (r3.mono (fun a ha => by omega)))
  have hM3 := hM.fr2 r13 (fun a ha => by omega)
  obtain ⟨M4, f4, t4, g4, r4⟩ := pX8_finds hW hv9 hA.2.2.2.1 hM3.2.2.1 hM3.2.2.2.2.2.1 hM3.2.2.2.2.1
  have hM4 := hM3.fr2 r4 (fun a ha => by omega)
  obtain ⟨M5, f5, y5, r5⟩ := hM4.keep hh
  have t5 : TR M5 93 (bstF cs w v pr).2 := by
    intro k hk
    obtain ⟨M5', f5', p5', g5', r5'⟩ := pX8_keeps hM4.2.2.2.2.2.2 hh hM4.2.2.2.2.2.1
    rw [f5] at f5'
    cases f5'
    rw [(r5'.1 93 (by omega)).1]
    exact t4 k hk
  obtain ⟨M6, f6, s6, r6⟩ := pX8_give_L13 h2 hx hv5 cs rm_F 0 0 M5 (by omega) (by omega) y5.2.2.1.1 t5 (by rw [gv0]; exact y5.2.2.2.2.2.1)
  have y6 := y5.st r6 s6
  refine ⟨nI (0 + rs (fun c => if v (6 + c) = dg (bstF cs w v pr).2 c then 0 else 1) 0 cs), M3, M6, ?_, ?_, Inv.mk z3 y6 (hA.kp hh ?_) ((r4.mono (fun a ha => by omega)).tr (r5.tr (r6.mono (fun a ha => by omega))))⟩
  · unfold fX7_give
    rw [rm_lt1, p6, if_pos kn, f1, pn_bv, rm_lt1, z1.1.2.2.2.1, if_pos ks, f2, pn_bv, pn_lit 0, f3]
  · unfold fX8_give
    rw [f4, pn_bd, f5, pn_bv, pn_lit 0, f6]
  · refine GV.reg (hG.1.gv h2 hx) h2 ?_ ?_
    · rw [gv_o (by omega)]; have := hG.2.2.2.1; omega
    · rw [gv_o (by omega)]; have := hG.2.2.2.2.1; omega
