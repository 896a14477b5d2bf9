/-! ===== CHANCE, CROSSES, EXPENSE: both sides ===== -/
def aI (cs : Nat) (w : Nat → Nat → Nat) (v : Nat → Nat) (c : Nat) : Int := ((ou cs w c + v c : Nat) : Int) * trI cs w c
def bI (cs : Nat) (w : Nat → Nat → Nat) (v : Nat → Nat) : Int := isu (aI cs w v) 0 cs
def crI (cs : Nat) (w : Nat → Nat → Nat) (ar : Nat → Nat) (all : Bool) : Int := isu (fun a => isu (fun b => if all = true ∨ ar a ≠ ar b then trI cs w a * (w a b : Int) else 0) 0 cs) 0 cs
def cnt (cs : Nat) (ar : Nat → Nat) (c : Nat) : Nat := rs (fun d => if ar d = ar c then 1 else 0) 0 cs
def exI (cs : Nat) (w : Nat → Nat → Nat) (v pr ar : Nat → Nat) : Int := ((100 * pr 2 : Nat) : Int) * crI cs w ar false + ((pr 1 * pr 3 : Nat) : Int) * isu (fun c => aI cs w v c * (cnt cs ar c : Int)) 0 cs
def CT (M : rm_M) (n cs : Nat) (w : Nat → Nat → Nat) : Prop := ∀ c, c < cs → M.2.1 (n + 17) c = J (trI cs w c)
def CA (M : rm_M) (cs : Nat) (w : Nat → Nat → Nat) (v : Nat → Nat) : Prop := ∀ c, c < cs → M.2.1 7 c = J (aI cs w v c)
def CPr (M : rm_M) (n : Nat) (pr : Nat → Nat) : Prop := ∀ k, k < 4 → M.1 n (k + 2) = nI (pr k)
def MPr (M : rm_M) (pr : Nat → Nat) : Prop := ∀ k, k < 4 → M.1 82 k = nI (pr k)
def MT (M : rm_M) (cs : Nat) (w : Nat → Nat → Nat) : Prop := ∀ c, c < cs → M.2.1 90 c = J (trI cs w c)
/-- areas at a place of a row of ints -/
def AR (M : rm_M) (q at0 cs : Nat) (ar : Nat → Nat) : Prop := at0 + cs ≤ (rm_kd q).2 ∧ (rm_kd q).2 ≤ 20 ∧ (∀ c, c < cs → ar c < 100) ∧ ∀ c, c < cs → M.1 q (at0 + c) = nI (ar c)
theorem cnt_le (cs : Nat) (ar : Nat → Nat) (c : Nat) : cnt cs ar c ≤ cs := by
  have := rs_le (f := fun d => if ar d = ar c then 1 else 0) (m := 1) cs 0 (fun j _ _ => by split <;> omega)
  unfold cnt; omega
theorem pX7_sameArea_L5 {M : rm_M} {q cs c : Nat} {ar : Nat → Nat} (h : AR M q 0 cs ar) (hcs : cs ≤ 6) (hc : c < cs) : ∀ d f i acc, i + d = cs → d < f → fX7_sameArea_L5 (nI cs) q (nI c) f (nI acc) (nI i) M = some (nI (acc + rs (fun d => if ar d = ar c then 1 else 0) i d), M) := by
  obtain ⟨h1, h1b, h2, h3⟩ := h
  simp only [Nat.zero_add] at h1 h3
  intro d
  induction d with
  | zero =>
    intro f i acc hi hf
    obtain ⟨f, rfl⟩ : ∃ z, f = z + 1 := ⟨f - 1, by omega⟩
    rw [fX7_sameArea_L5]
    simp (disch := omega) only [nI_leI, rs, Nat.add_zero]
    rw [if_pos (by omega)]
  | succ d ih =>
    intro f i acc hi hf
    obtain ⟨f, rfl⟩ : ∃ z, f = z + 1 := ⟨f - 1, by omega⟩
    have b1 := h2 i (by omega)
    have b2 := h2 c hc
    rw [fX7_sameArea_L5]
    simp (disch := omega) only [nI_leI, pn_ib, nI_clamp, h3 i (by omega), h3 c hc, nI_eq, fX7_sameArea_L24, pn_lit, nI_add, decide_eq_true_eq]
    rw [if_neg (by omega), if_pos (by omega), if_pos (by omega)]
    by_cases e : ar i = ar c
    · rw [if_pos e, ih f (i + 1) _ (by omega) (by omega), rs, if_pos e, Nat.add_assoc]
    · rw [if_neg e, ih f (i + 1) _ (by omega) (by omega), rs, if_neg e, Nat.zero_add]
theorem pX7_sameArea {M : rm_M} {q cs c : Nat} {ar : Nat → Nat} (h : AR M q 0 cs ar) (hcs : cs ≤ 6) (hc : c < cs) : fX7_sameArea (nI cs) q (nI c) M = some (nI (cnt cs ar c), M) := by
  have hF := pn_F
  unfold fX7_sameArea
  simp only [pn_lit]
  rw [pX7_sameArea_L5 h hcs hc cs rm_F 0 0 (by omega) (by omega), Nat.zero_add]
  rfl
theorem pX0_reckon_L7 {cs : Nat} {w : Nat → Nat → Nat} {v : Nat → Nat} (h : WN cs w) {n s : Nat} (hn : n = 14 ∨ n = 33) (hs : s = 55 ∨ s = 58) (hv : ∀ c, c < 6 → v c ≤ 9) : ∀ d f i M acc, i + d = cs → d < f → CN M n cs w → CT M n cs w → SV M s v → M.2.1 6 1 = J acc → (∀ c, c < i → M.2.1 7 c = J (aI cs w v c)) →
    ∃ M2, fX0_reckon_L7 n s f (nI i) M = some M2 ∧ (∀ c, c < cs → M2.2.1 7 c = J (aI cs w v c)) ∧ M2.2.1 6 1 = J (acc + isu (aI cs w v) i d) ∧ M2.1 6 4 = nI 0 ∧ FR (fun q => q = 6 ∨ q = 7) M M2 := by
  have h1 := h.1
  have h2 := h.2.1
  intro d
  induction d with
  | zero =>
    intro f i M acc hi hf hN hT hS ha hc
    obtain ⟨f, rfl⟩ : ∃ z, f = z + 1 := ⟨f - 1, by omega⟩
    rw [fX0_reckon_L7]
    simp (disch := omega) only [hN.1, nI_leI, rm_lt1, pn_lit]
    rw [if_pos (by omega)]
    refine ⟨_, rfl, fun c hc2 => ?_, ?_, ?_, FR.sIr FR.rf (Or.inl rfl)⟩
    · rw [pn_sI2]; exact hc c (by omega)
    · rw [pn_sI2, ha]; simp [isu]
    · rw [pn_sI_eq, pn_upd_eq]
  | succ d ih =>
    intro f i M acc hi hf hN hT hS ha hc
    obtain ⟨f, rfl⟩ : ∃ z, f = z + 1 := ⟨f - 1, by omega⟩
    have ho := ou_le h (show i < cs by omega)
    have hvi := hv i (by omega)
    have e1 : (nI (v i + ou cs w i)).toInt64 * J (trI cs w i) = J (aI cs w v i) := by
      rw [nI_J (by omega), J_mul, Nat.add_comm (v i)]
      rfl
    rw [fX0_reckon_L7]
    simp (disch := omega) only [hN.1, nI_leI, rm_lt1, pn_lit, pn_ib, nI_clamp, hS.1 i (by omega), hN.2.2 i (by omega), hT i (by omega), e1, decide_eq_true_eq, nI_add]
    rw [if_neg (by omega), if_pos (by omega)]
    simp (disch := omega) only [if_pos (show i < 6 by omega), pn_sJ_ne, ha]
    rw [pn_sJ_eq, pn_updL_eq, J_add]
    have r1 : FR (fun q => q = 6 ∨ q = 7) M (rm_sJ (rm_sJ M 7 i (J (aI cs w v i))) 6 1 (J (acc + aI cs w v i))) := FR.sJr (FR.sJr FR.rf (Or.inr rfl)) (Or.inl rfl)
    obtain ⟨M2, f2, a2, b2, c2, r2⟩ := ih f (i + 1) _ (acc + aI cs w v i) (by omega) (by omega)
      (show CN (rm_sJ (rm_sJ M 7 i (J (aI cs w v i))) 6 1 (J (acc + aI cs w v i))) n cs w from hN)
      (fun c hc2 => by rw [(r1.1 _ (by omega)).2]; exact hT c hc2)
      (hS.fr r1 (by omega) (by omega) (by omega))
      (by rw [pn_sJ_eq, pn_updL_eq])
      (fun c hc2 => by
        rw [pn_sJ_ne _ _ _ (by omega), pn_sJ_eq]
        by_cases e : c = i
        · subst e; rw [pn_updL_eq]
        · rw [pn_updL_ne _ _ e]; exact hc c (by omega))
    refine ⟨M2, f2, a2, ?_, c2, r1.tr r2⟩
    rw [b2, isu, Int.add_assoc]
theorem pX0_reckon {cs : Nat} {w : Nat → Nat → Nat} {v : Nat → Nat} (h : WN cs w) {n s : Nat} (hn : n = 14 ∨ n = 33) (hs : s = 55 ∨ s = 58) (hv : ∀ c, c < 6 → v c ≤ 9) {M : rm_M} (hN : CN M n cs w) (hT : CT M n cs w) (hS : SV M s v) :
    ∃ M2, fX0_reckon n s M = some M2 ∧ CA M2 cs w v ∧ M2.2.1 6 1 = J (bI cs w v) ∧ M2.1 6 4 = nI 0 ∧ FR (fun q => q = 6 ∨ q = 7) M M2 := by
  have hF := pn_F
  have h2 := h.2.1
  unfold fX0_reckon
  simp only [rm_lt1, J_lit, pn_lit]
  have r1 : FR (fun q => q = 6 ∨ q = 7) M (rm_sJ M 6 1 (J ((0 : Nat) : Int))) := FR.sJr FR.rf (Or.inl rfl)
  obtain ⟨M2, f2, a2, b2, c2, r2⟩ := pX0_reckon_L7 h hn hs hv cs rm_F 0 (rm_sJ M 6 1 (J ((0 : Nat) : Int))) ((0 : Nat) : Int) (by omega) (by omega) hN
    (fun c hc => by rw [(r1.1 _ (by omega)).2]; exact hT c hc) (hS.fr r1 (by omega) (by omega) (by omega)) (by rw [pn_sJ_eq, pn_updL_eq]) (fun c hc => by omega)
  refine ⟨M2, f2, a2, ?_, c2, r1.tr r2⟩
  rw [b2, show ((0 : Nat) : Int) = 0 from rfl, Int.zero_add]
  rfl
theorem pX0_crosses_L17 {cs : Nat} {w : Nat → Nat → Nat} (h : WN cs w) {n q a : Nat} {ar : Nat → Nat} {M : rm_M} (hN : CN M n cs w) (hT : CT M n cs w) (hA : AR M q 0 cs ar) (ha : a < cs) (q5 : Int64 → Int32 → rm_M → Option (Int64 × rm_M)) : ∀ d f i acc, i + d = cs → d < f →
    fX0_crosses_L17 n q q5 f (J acc) (nI a) (nI i) M = q5 (J (acc + isu (fun b => if false = true ∨ ar a ≠ ar b then trI cs w a * (w a b : Int) else 0) i d)) (nI (a + 1)) M := by
  have h1 := h.1
  have h2 := h.2.1
  obtain ⟨k1, k1b, k2, k3⟩ := hA
  simp only [Nat.zero_add] at k1 k3
  intro d
  induction d with
  | zero =>
    intro f i acc hi hf
    obtain ⟨f, rfl⟩ : ∃ z, f = z + 1 := ⟨f - 1, by omega⟩
    rw [fX0_crosses_L17]
    simp (disch := omega) only [hN.1, nI_leI, isu, Int.add_zero, pn_lit, nI_add]
    rw [if_pos (by omega)]
  | succ d ih =>
    intro f i acc hi hf
    obtain ⟨f, rfl⟩ : ∃ z, f = z + 1 := ⟨f - 1, by omega⟩
    have b1 := k2 i (by omega)
    have b2 := k2 a ha
    have e1 : J (trI cs w a) * (nI (w a i)).toInt64 = J (trI cs w a * (w a i : Int)) := by rw [nI_J (h.lt a i), J_mul]
    rw [fX0_crosses_L17]
    simp (disch := omega) only [hN.1, nI_leI, pn_ib, nI_clamp, k3 i (by omega), k3 a ha, nI_eq, fX0_crosses_L59, rm_lt1, hT a ha, hN.2.1 a i (by omega) (by omega), e1, J_add, pn_lit, nI_add, decide_eq_true_eq]
    rw [if_neg (by omega), if_pos (by omega), if_pos (by omega)]
    by_cases e : ar a = ar i
    · rw [if_pos e, ih f (i + 1) _ (by omega) (by omega), isu, if_neg (by simp [e]), Int.zero_add]
    · rw [if_neg e, if_pos (by omega), if_pos (by omega), if_pos (by omega), ih f (i + 1) _ (by omega) (by omega), isu, if_pos (Or.inr e), Int.add_assoc]
theorem pX0_crosses_L5 {cs : Nat} {w : Nat → Nat → Nat} (h : WN cs w) {n q : Nat} {ar : Nat → Nat} {M : rm_M} (hN : CN M n cs w) (hT : CT M n cs w) (hA : AR M q 0 cs ar) : ∀ d f i acc, i + d = cs → d < f →
    fX0_crosses_L5 n q f (J acc) (nI i) M = some (J (acc + isu (fun a => isu (fun b => if false = true ∨ ar a ≠ ar b then trI cs w a * (w a b : Int) else 0) 0 cs) i d), M) := by
  have h1 := h.1
  have h2 := h.2.1
  have hF := pn_F
  intro d
  induction d with
  | zero =>
    intro f i acc hi hf
    obtain ⟨f, rfl⟩ : ∃ z, f = z + 1 := ⟨f - 1, by omega⟩
    rw [fX0_crosses_L5]
    simp (disch := omega) only [hN.1, nI_leI, isu, Int.add_zero]
    rw [if_pos (by omega)]
  | succ d ih =>
    intro f i acc hi hf
    obtain ⟨f, rfl⟩ : ∃ z, f = z + 1 := ⟨f - 1, by omega⟩
    rw [fX0_crosses_L5]
    simp (disch := omega) only [hN.1, nI_leI, pn_lit]
    rw [if_neg (by omega), pX0_crosses_L17 h hN hT hA (by omega) _ cs rm_F 0 acc (by omega) (by omega), ih f (i + 1) _ (by omega) (by omega), isu, Int.add_assoc]
theorem pX0_crosses {cs : Nat} {w : Nat → Nat → Nat} (h : WN cs w) {n q : Nat} {ar : Nat → Nat} {M : rm_M} (hN : CN M n cs w) (hT : CT M n cs w) (hA : AR M q 0 cs ar) : fX0_crosses n q M = some (J (crI cs w ar false), M) := by
  have hF := pn_F
  have h2 := h.2.1
  unfold fX0_crosses
  simp only [J_lit, pn_lit]
  rw [pX0_crosses_L5 h hN hT hA cs rm_F 0 _ (by omega) (by omega), show ((0 : Nat) : Int) = 0 from rfl, Int.zero_add]
  rfl
theorem pX0_movesOn {cs : Nat} {w : Nat → Nat → Nat} (h : WN cs w) {n : Nat} {M : rm_M} (hN : CN M n cs w) (hT : CT M n cs w) : fX0_movesOn n M = some (J (isu (fun c => trI cs w c * (ou cs w c : Int)) 0 cs), M) := by
  have hF := pn_F
  have h1 := h.1
  have h2 := h.2.1
  have key : ∀ d f i acc, i + d = cs → d < f → fX0_movesOn_L5 n f (J acc) (nI i) M = some (J (acc + isu (fun c => trI cs w c * (ou cs w c : Int)) i d), M) := by
    intro d
    induction d with
    | zero =>
      intro f i acc hi hf
      obtain ⟨f, rfl⟩ : ∃ z, f = z + 1 := ⟨f - 1, by omega⟩
      rw [fX0_movesOn_L5]
      simp (disch := omega) only [hN.1, nI_leI, isu, Int.add_zero]
      rw [if_pos (by omega)]
    | succ d ih =>
      intro f i acc hi hf
      obtain ⟨f, rfl⟩ : ∃ z, f = z + 1 := ⟨f - 1, by omega⟩
      have ho := ou_le h (show i < cs by omega)
      have e1 : J (trI cs w i) * (nI (ou cs w i)).toInt64 = J (trI cs w i * (ou cs w i : Int)) := by rw [nI_J (by omega), J_mul]
      rw [fX0_movesOn_L5]
      simp (disch := omega) only [hN.1, nI_leI, pn_ib, nI_clamp, hT i (by omega), hN.2.2 i (by omega), e1, J_add, rm_lt1, pn_lit, nI_add, decide_eq_true_eq]
      rw [if_neg (by omega), if_pos (by omega), if_pos (by omega), ih f (i + 1) _ (by omega) (by omega), isu, Int.add_assoc]
  unfold fX0_movesOn
  simp only [J_lit, pn_lit]
  rw [key cs rm_F 0 _ (by omega) (by omega), show ((0 : Nat) : Int) = 0 from rfl, Int.zero_add]
theorem pX0_expense {cs : Nat} {w : Nat → Nat → Nat} (h : WN cs w) {n q : Nat} {v pr ar : Nat → Nat} {M : rm_M} (hN : CN M n cs w) (hT : CT M n cs w) (hA : AR M q 0 cs ar) (hC : CA M cs w v) (hP : CPr M n pr) (hpr : ∀ k, k < 4 → pr k ≤ 99) : fX0_expense n q M = some (J (exI cs w v pr ar), M) := by
  have hF := pn_F
  have h1 := h.1
  have h2 := h.2.1
  have p1 : M.1 n 3 = nI (pr 1) := hP 1 (by omega)
  have p2 : M.1 n 4 = nI (pr 2) := hP 2 (by omega)
  have p3 : M.1 n 5 = nI (pr 3) := hP 3 (by omega)
  have q1 := hpr 1 (by omega)
  have q2 := hpr 2 (by omega)
  have q3 := hpr 3 (by omega)
  have q13 : pr 1 * pr 3 ≤ 99 * 99 := Nat.mul_le_mul q1 q3
  have key : ∀ d f i acc, i + d = cs → d < f → fX0_expense_L5 n q f (J acc) (nI i) M = some (J (((100 * pr 2 : Nat) : Int) * crI cs w ar false + ((pr 1 * pr 3 : Nat) : Int) * (acc + isu (fun c => aI cs w v c * (cnt cs ar c : Int)) i d)), M) := by
    intro d
    induction d with
    | zero =>
      intro f i acc hi hf
      obtain ⟨f, rfl⟩ : ∃ z, f = z + 1 := ⟨f - 1, by omega⟩
      rw [fX0_expense_L5]
      simp (disch := omega) only [hN.1, nI_leI, isu, Int.add_zero, pX0_crosses h hN hT hA, pn_bd, p1, p2, p3, pn_lit, pk_mul, nI_J, J_mul, J_add]
      rw [if_pos (by omega)]
    | succ d ih =>
      intro f i acc hi hf
      obtain ⟨f, rfl⟩ : ∃ z, f = z + 1 := ⟨f - 1, by omega⟩
      have hcn := cnt_le cs ar i
      rw [fX0_expense_L5]
      simp (disch := omega) only [hN.1, nI_leI, pn_ib, nI_clamp, pX7_sameArea hA h2 (show i < cs by omega), pn_bd, hC i (by omega), nI_J, J_mul, J_add, rm_lt1, pn_lit, nI_add, decide_eq_true_eq]
      rw [if_neg (by omega), if_pos (by omega), ih f (i + 1) _ (by omega) (by omega), isu, Int.add_assoc]
  unfold fX0_expense
  simp only [J_lit, pn_lit]
  rw [key cs rm_F 0 _ (by omega) (by omega), show ((0 : Nat) : Int) = 0 from rfl, Int.zero_add]
  rfl
