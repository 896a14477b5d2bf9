/-! ===== what the first TEXT tells ===== -/
def wF : Nat → Nat → Nat := jW (jW (jW (jW (jW (jW (jW w0 0 1 2 1) 1 2 1 1) 2 3 3 1) 3 4 1 2) 4 5 1 1) 5 0 2 2) 1 4 1 1
def vF : Nat → Nat := vu (vu (vu (vu vI 2 4) 9 1) 10 1) 11 1
def rF_ck (o : Nat ⊕ RD) : Bool := match o with
  | .inl _ => false
  | .inr R => decide (R.1 = 6) && decide (R.2.1 = 7) && (List.range 36).all (fun k => decide (R.2.2.1 (k / 6) (k % 6) = wF (k / 6) (k % 6))) && (List.range 4).all (fun k => decide (R.2.2.2.1 k = prd k)) && (List.range 20).all (fun k => decide (R.2.2.2.2 k = vF k)) && (List.range 6).all (fun c => decide (fw R.2.2.1 6 0 c < 99))
set_option maxRecDepth 20000 in
theorem rF_yes : rF_ck (rdF 96 ftx 200 0 RD0) = true := by decide +kernel
theorem rF_ok : ∃ w pr v, rdF 96 ftx 200 0 RD0 = .inr (6, 7, w, pr, v) ∧ hgT 6 w ∧ (∀ a b, a < 6 → b < 6 → w a b = wF a b) ∧ (∀ k, k < 4 → pr k = prd k) ∧ ∀ k, k < 20 → v k = vF k := by
  have h := rF_yes
  generalize hR : rdF 96 ftx 200 0 RD0 = o at h
  cases o with
  | inl p => cases h
  | inr R =>
    obtain ⟨cs, jn, w, pr, v⟩ := R
    unfold rF_ck at h
    simp only [Bool.and_eq_true, decide_eq_true_eq, List.all_eq_true, List.mem_range] at h
    obtain ⟨⟨⟨⟨⟨h1, h2⟩, h3⟩, h4⟩, h5⟩, h6⟩ := h
    subst h1
    subst h2
    refine ⟨w, pr, v, rfl, ⟨by omega, h6⟩, fun a b ha hb => ?_, h4, h5⟩
    have := h3 (6 * a + b) (by omega)
    rw [show (6 * a + b) / 6 = a by omega, show (6 * a + b) % 6 = b by omega] at this
    exact this
def M0 : rm_M := (fun _ _ => 0, fun _ _ => 0, fun k => if k = 6 then 14 else if k = 7 then 55 else if k = 8 then 33 else if k = 9 then 58 else 0)
/-- i letters are appended -/
def AppI (i : Nat) (M : rm_M) : Prop := M.1 1 3 = nI i ∧ (∀ k, k < i → M.1 2 k = nI (ftx k)) ∧ (∀ q, q ≠ 1 → q ≠ 2 → M.1 q = fun _ => 0) ∧ M.2 = M0.2
theorem AppI0 : AppI 0 M0 := ⟨rfl, fun k hk => by omega, fun _ _ _ => rfl, rfl⟩
theorem app1 {i : Nat} {M : rm_M} (h : AppI i M) (hi : i < 96) : ∃ M2, fX5_append (nI (ftx i)) M = some (nI 1, M2) ∧ AppI (i + 1) M2 := by
  obtain ⟨h1, h2, h3, h4⟩ := h
  refine ⟨rm_sI (rm_sI M 2 i (nI (ftx i))) 1 3 (nI (i + 1)), ?_, ?_, fun k hk => ?_, fun q q1 q2 => ?_, ?_⟩
  · unfold fX5_append
    rw [h1, pn_lit 200, if_pos (by rw [nI_ltI (by omega) (by omega)]; omega), if_pos (by rw [pn_ib (by omega), decide_eq_true_eq]; omega), rm_lt1, nI_clamp (by omega), rm_lt1, pn_sI_ne M _ _ (show (1 : Nat) ≠ 2 by omega), h1, pn_lit 1, nI_add, pn_z1]
  · rw [pn_sI_eq, pn_upd_eq]
  · rw [pn_sI_ne _ _ _ (by omega), pn_sI_eq]
    by_cases c : k = i
    · subst c; rw [pn_upd_eq]
    · rw [pn_upd_ne _ _ c]; exact h2 k (by omega)
  · rw [pn_sI_ne _ _ _ q1, pn_sI_ne _ _ _ q2]; exact h3 q q1 q2
  · exact h4
/-- the class behind its constructor -/
def Fst (M : rm_M) : Prop := ∃ w pr v, CI M 33 58 0 ftx 6 7 w pr v 0 0 (fun _ _ => 0) ∧ WD 6 7 w pr v ∧ hgT 6 w ∧ (∀ a b, a < 6 → b < 6 → w a b = wF a b) ∧ (∀ k, k < 4 → pr k = prd k) ∧ ∀ k, k < 20 → v k = vF k
theorem TBF : TB 96 ftx := ⟨by decide, by decide +kernel⟩
theorem first_lay {M : rm_M} (h : AppI 96 M) : ∃ M2, fX7_layText M = some (nI 1, M2) ∧ Fst (rm_sI M2 1 3 (nI 0)) := by
  obtain ⟨h1, h2, h3, h4⟩ := h
  have e6 : M.2.2 = M0.2.2 := by rw [h4]
  have hPT : PT M 14 55 := ⟨Or.inl rfl, Or.inl rfl, by rw [e6]; rfl, by rw [e6]; rfl, by rw [e6]; rfl, by rw [e6]; rfl⟩
  obtain ⟨w, pr, v, hr, hg, hw, hp, hv⟩ := rF_ok
  have hW := rdF_ok 200 0 RD0 _ (by omega) WD0 hr
  rcases pX7_layText (nx := 0) hPT ⟨h1, h2⟩ TBF (by rw [h3 4 (by omega) (by omega)]; rfl) (by omega) with ⟨M2, f2, no, -, -⟩ | ⟨M2, R, hR, hg2, f2, C2, -⟩
  · exact absurd hg (no _ hr)
  · have eR : R = (6, 7, w, pr, v) := by
      have := hr.symm.trans hR
      injection this with this
      exact this.symm
    subst eR
    refine ⟨M2, f2, w, pr, v, ?_, hW, hg, hw, hp, hv⟩
    obtain ⟨c1, c2, c3, c4, c5, c6⟩ := C2 (fun _ _ => 0)
    have r1 : FR (fun q => q = 1) M2 (rm_sI M2 1 3 (nI 0)) := FR.sI rfl
    exact ⟨c1.fr r1, ⟨by rw [pn_sI_eq, pn_upd_eq], fun k hk => by omega⟩, c3.fr (by omega) r1 (fun a ha hb => by omega), c4.fr r1 (by omega) (by omega) (by omega), c5.fr r1 (by omega) (fun a ha hb => by omega), c6.fr r1 (by omega) (by omega) (by omega)⟩
/-! the model behind its constructor -/
def mod1 (M : rm_M) : rm_M := rm_sI M 79 9 (nI 6)
def mod2 (M : rm_M) : rm_M := rm_sI (rm_sI (rm_sI (rm_sI M 87 2 (nI 4)) 87 9 (nI 1)) 87 10 (nI 1)) 87 11 (nI 1)
theorem DM.put {M : rm_M} {cs jn k x : Nat} {w : Nat → Nat → Nat} {pr v : Nat → Nat} (h : DM M cs jn w pr v) : DM (rm_sI M 87 k (nI x)) cs jn w pr (vu v k x) := by
  obtain ⟨a1, a2, a3, a4, a5⟩ := h
  refine ⟨by rw [pn_sI_ne _ _ _ (by omega)]; exact a1, by rw [pn_sI_ne _ _ _ (by omega)]; exact a2, fun a b ha hb => by rw [pn_sI_ne _ _ _ (by omega)]; exact a3 a b ha hb, fun j hj => by rw [pn_sI_ne _ _ _ (by omega)]; exact a4 j hj, fun j hj => ?_⟩
  rw [pn_sI_eq]
  by_cases c : j = k
  · subst c; rw [pn_upd_eq, vu_eq]
  · rw [pn_upd_ne _ _ c, vu_ne _ _ c]; exact a5 j hj
theorem DM.cells {M : rm_M} {cs jn : Nat} {w : Nat → Nat → Nat} {pr v : Nat → Nat} (h : DM M cs jn w pr v) (x : Nat) : DM (rm_sI M 79 9 (nI x)) x jn w pr v := by
  obtain ⟨a1, a2, a3, a4, a5⟩ := h
  refine ⟨by rw [pn_sI_eq, pn_upd_eq], by rw [pn_sI_eq, pn_upd_ne _ _ (by omega)]; exact a2, fun a b ha hb => by rw [pn_sI_ne _ _ _ (by omega)]; exact a3 a b ha hb, fun j hj => by rw [pn_sI_ne _ _ _ (by omega)]; exact a4 j hj, fun j hj => by rw [pn_sI_ne _ _ _ (by omega)]; exact a5 j hj⟩
/-- the road of the model's constructor behind its arrays -/
def modR (M Z : rm_M) : Prop := ∃ A B C D E F G H, fX8_clears M = some A ∧ fX8_joinOf (nI 0) (nI 1) (nI 2) (nI 1) (mod1 A) = some B ∧ fX8_joinOf (nI 1) (nI 2) (nI 1) (nI 1) B = some C ∧ fX8_joinOf (nI 2) (nI 3) (nI 3) (nI 1) C = some D ∧ fX8_joinOf (nI 3) (nI 4) (nI 1) (nI 2) D = some E ∧ fX8_joinOf (nI 4) (nI 5) (nI 1) (nI 1) E = some F ∧ fX8_joinOf (nI 5) (nI 0) (nI 2) (nI 2) F = some G ∧ fX8_joinOf (nI 1) (nI 4) (nI 1) (nI 1) G = some H ∧ fX8_takes (mod2 H) = some Z
theorem first_mod {M : rm_M} (h79 : M.1 79 0 = nI 0) (hF : Fst M) : ∃ Z, modR M Z ∧ Inv 0 Z := by
  obtain ⟨A, fA, dA, mA⟩ := pX8_clears (M := M)
  have d0 : DM A 0 0 w0 prd vI := dA
  have d1 := d0.cells 6
  have m1 : mF A (mod1 A) := ⟨fun k k1 k2 k3 k4 => by unfold mod1; rw [pn_sI_eq, pn_upd_ne _ _ k1], FR.sI (Or.inl rfl)⟩
  obtain ⟨B, fB, dB, -, mB⟩ := pX8_joinOf (x := 2) (y := 1) (show 0 < 6 by omega) (show 1 < 6 by omega) (by omega) (M := mod1 A) d1
  obtain ⟨C, fC, dC, -, mC⟩ := pX8_joinOf (x := 1) (y := 1) (show 1 < 6 by omega) (show 2 < 6 by omega) (by omega) dB
  obtain ⟨D, fD, dD, -, mD⟩ := pX8_joinOf (x := 3) (y := 1) (show 2 < 6 by omega) (show 3 < 6 by omega) (by omega) dC
  obtain ⟨E, fE, dE, -, mE⟩ := pX8_joinOf (x := 1) (y := 2) (show 3 < 6 by omega) (show 4 < 6 by omega) (by omega) dD
  obtain ⟨F, fF, dF, -, mF5⟩ := pX8_joinOf (x := 1) (y := 1) (show 4 < 6 by omega) (show 5 < 6 by omega) (by omega) dE
  obtain ⟨G, fG, dG, -, mG⟩ := pX8_joinOf (x := 2) (y := 2) (show 5 < 6 by omega) (show 0 < 6 by omega) (by omega) dF
  obtain ⟨H, fH, dH, -, mH⟩ := pX8_joinOf (x := 1) (y := 1) (show 1 < 6 by omega) (show 4 < 6 by omega) (by omega) dG
  have d2 : DM (mod2 H) 6 7 wF prd vF := (((dH.put (k := 2) (x := 4)).put (k := 9) (x := 1)).put (k := 10) (x := 1)).put (k := 11) (x := 1)
  have m2 : mF H (mod2 H) := ⟨fun k _ _ _ _ => by unfold mod2; rw [pn_sI_ne _ _ _ (by omega), pn_sI_ne _ _ _ (by omega), pn_sI_ne _ _ _ (by omega), pn_sI_ne _ _ _ (by omega)], FR.sIr (FR.sIr (FR.sIr (FR.sI (Or.inr ⟨by omega, by omega⟩)) (Or.inr ⟨by omega, by omega⟩)) (Or.inr ⟨by omega, by omega⟩)) (Or.inr ⟨by omega, by omega⟩)⟩
  have mAll : mF M (mod2 H) := mA.tr (m1.tr (mB.tr (mC.tr (mD.tr (mE.tr (mF5.tr (mG.tr (mH.tr m2))))))))
  obtain ⟨w, pr, v, hC, hW, hg, hw, hp, hv⟩ := hF
  have d3 : DM (mod2 H) 6 7 w pr v := ⟨d2.1, d2.2.1, fun a b ha hb => by rw [hw a b ha hb]; exact d2.2.2.1 a b ha hb, fun k hk => by rw [hp k hk]; exact d2.2.2.2.1 k hk, fun k hk => by rw [hv k hk]; exact d2.2.2.2.2 k hk⟩
  obtain ⟨Z, fZ, t1, t2, t3, t4, t5, t6, rZ⟩ := pX8_takes d3
  refine ⟨Z, ⟨A, B, C, D, E, F, G, H, fA, fB, fC, fD, fE, fF, fG, fH, fZ⟩, 33, 58, 0, ftx, 6, 7, w, pr, v, 0, 0, fun _ _ => 0, ?_, ⟨?_, fun k hk => by omega, t1, t2, t3, t4, t5, fun i k hi hk => by omega⟩, AI.lay ⟨by omega, fun k hk => by omega⟩ hW hg _⟩
  · exact (hC.fr (by omega) mAll.2 (fun a ha => by unfold scr; omega)).fr (by omega) rZ (fun a ha => by unfold scr; omega)
  · rw [t6, mAll.1 0 (by omega) (by omega) (by omega) (by omega)]; exact h79
