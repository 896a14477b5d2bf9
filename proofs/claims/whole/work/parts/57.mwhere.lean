/-! ===== WHERE, the model ===== -/
theorem pX8_allowed {cs : Nat} {w : Nat → Nat → Nat} {v : Nat → Nat} {M : rm_M} (hW : WN cs w) (hV : WV cs v) (hM : MW M cs w) (hS : MV M 83 v) : fX8_allowed M = some (nI (inB cs w v), M) := by
  have hF := pn_F
  have h2 := hW.2.1
  have b12 := hV.2.2.1
  have b15 := hV.2.2.2.2.2.2
  have b13 := hV.1 13 (by omega)
  have e12 : M.1 83 (nI 12).toNatClampNeg = nI (v 12) := by rw [nI_clamp (by omega)]; exact hS 12 (by omega)
  have e13 : M.1 83 (nI 13).toNatClampNeg = nI (v 13) := by rw [nI_clamp (by omega)]; exact hS 13 (by omega)
  have e15 : M.1 83 (nI 15).toNatClampNeg = nI (v 15) := by rw [nI_clamp (by omega)]; exact hS 15 (by omega)
  have k2 := (hV.2.1 (v 15) (by omega)).2
  have key : ∀ d f i acc, i + d = cs → d < f → fX8_allowed_L12 f (nI (v 15)) (nI acc) (nI i) M = some (nI (acc ||| ro (fun c => if (v 12 = 0 ∧ v (6 + c) ≠ v (6 + v 15)) ∨ (v 12 = 3 ∧ v 13 ≤ fw w cs (v 15) c) then 0 else 2 ^ c) i d), M) := by
    intro d
    induction d with
    | zero =>
      intro f i acc hi hf
      obtain ⟨f, rfl⟩ : ∃ z, f = z + 1 := ⟨f - 1, by omega⟩
      rw [fX8_allowed_L12, hM.1, if_pos (by rw [nI_leI (by omega) (by omega)]; omega), ro, Nat.or_zero]
    | succ d ih =>
      intro f i acc hi hf
      obtain ⟨f, rfl⟩ : ∃ z, f = z + 1 := ⟨f - 1, by omega⟩
      have k1 := (hV.2.1 i (by omega)).2
      have ffar := hW.2.2.2.2.2 i (v 15) (by omega) b15
      have L0 : fX8_allowed_L91 (fX8_allowed_L12 f) (nI (v 15)) (nI acc) (nI i) (nI 0) M = fX8_allowed_L12 f (nI (v 15)) (nI acc) (nI (i + 1)) M := by
        unfold fX8_allowed_L91 fX8_allowed_L106
        rw [pn_lit 0, if_pos rfl, rm_lt1, pn_or, Nat.or_zero, pn_lit 1, nI_add]
      have L1 : fX8_allowed_L91 (fX8_allowed_L12 f) (nI (v 15)) (nI acc) (nI i) (nI 1) M = fX8_allowed_L12 f (nI (v 15)) (nI (acc ||| 2 ^ i)) (nI (i + 1)) M := by
        unfold fX8_allowed_L91 fX8_allowed_L106
        rw [pn_lit 0, if_neg z10, rm_lt1, pn_lit 1, pn_lit 31, sh1 (by omega), pn_or, nI_add]
      rw [fX8_allowed_L12, hM.1, if_neg (by rw [nI_leI (by omega) (by omega)]; omega), pn_lit 12, pn_lit 13, pn_lit 0, pn_lit 1, pn_lit 3, pn_lit 6, if_pos (by decide), e12, nI_add, nI_add, ro]
      unfold fX8_allowed_L86
      rw [pn_lit 1]
      by_cases k : v 12 = 0
      · rw [if_pos (by rw [k]), if_pos (by rw [pn_ib (by omega), decide_eq_true_eq]; omega), if_pos (by rw [pn_ib (by omega), decide_eq_true_eq]; omega), nI_clamp (by omega), nI_clamp (by omega), hS (6 + i) (by omega), hS (6 + v 15) (by omega), L0, L1, ih f (i + 1) _ (by omega) (by omega), ih f (i + 1) _ (by omega) (by omega)]
        by_cases c : v (6 + i) = v (6 + v 15)
        · rw [if_pos (by rw [c]), if_neg (by omega), Nat.or_assoc]
        · rw [if_neg (by rw [nI_eq (by omega) (by omega)]; exact c), if_pos (Or.inl ⟨k, c⟩), Nat.zero_or]
      · rw [if_neg (by rw [nI_eq (by omega) (by omega)]; exact k), if_pos (by decide)]
        by_cases k3 : v 12 = 3
        · rw [if_pos (by rw [k3]), pX8_far hM h2 hW.lt (show i < cs by omega) b15 ffar, pn_bd, if_pos (by decide), e13, L0, L1, ih f (i + 1) _ (by omega) (by omega), ih f (i + 1) _ (by omega) (by omega)]
          have hsym := fw_sym hW.2.2.2.2.1 cs i (v 15)
          by_cases c : v 13 ≤ fw w cs (v 15) i
          · rw [if_pos (by rw [nI_leI (by omega) (by omega)]; omega), if_pos (Or.inr ⟨k3, c⟩), Nat.zero_or]
          · rw [if_neg (by rw [nI_leI (by omega) (by omega)]; omega), if_neg (by omega), Nat.or_assoc]
        · rw [if_neg (by rw [nI_eq (by omega) (by omega)]; exact k3), L1, ih f (i + 1) _ (by omega) (by omega), if_neg (by omega), Nat.or_assoc]
  unfold fX8_allowed
  rw [pn_lit 15, pn_lit 0, if_pos (by decide), rm_lt1, e15, key cs rm_F 0 0 (by omega) (by omega), Nat.zero_or]
  rfl
theorem pX8_wI_L234 (q69 : Int32 → Int32 → Int32 → rm_M → Option (Int32 × rm_M)) (x1 x2 x3 : Int32) : ∀ d f i M, i + d = 10 → d < f → ∃ M2, fX8_whereIs_L234 q69 f x1 x2 x3 (nI i) M = q69 x1 x2 (x3 + nI 1) M2 ∧ (∀ j, i ≤ j → j < 10 → M2.1 88 j = M.1 89 j) ∧ (∀ j, j < i → M2.1 88 j = M.1 88 j) ∧ FR (fun q => q = 88) M M2 := by
  intro d
  induction d with
  | zero =>
    intro f i M hi hf
    obtain ⟨f, rfl⟩ : ∃ z, f = z + 1 := ⟨f - 1, by omega⟩
    refine ⟨M, ?_, fun j h1 h2 => by omega, fun j _ => rfl, FR.rf⟩
    rw [fX8_whereIs_L234, pn_lit 10, pn_lit 1, if_pos (by rw [nI_leI (by omega) (by omega)]; omega)]
  | succ d ih =>
    intro f i M hi hf
    obtain ⟨f, rfl⟩ : ∃ z, f = z + 1 := ⟨f - 1, by omega⟩
    have hib : rm_ib (nI i) 10 = true := by rw [pn_ib (by omega), decide_eq_true_eq]; omega
    obtain ⟨M2, f2, g1, g2, r2⟩ := ih f (i + 1) (rm_sI M 88 i (M.1 89 i)) (by omega) (by omega)
    refine ⟨M2, ?_, fun j h1 h2 => ?_, fun j hj => ?_, FR.tr (S := fun q => q = 88) (FR.sI rfl) r2⟩
    · rw [fX8_whereIs_L234, pn_lit 10, if_neg (by rw [nI_leI (by omega) (by omega)]; omega), if_pos hib, if_pos hib, rm_lt1, nI_clamp (by omega), pn_lit 1, nI_add, f2]
    · by_cases e : j = i
      · subst e; rw [g2 j (by omega), pn_sI_eq, pn_upd_eq]
      · rw [g1 j (by omega) h2, pn_sI_ne _ _ _ (by omega)]
    · rw [g2 j (by omega), pn_sI_eq, pn_upd_ne _ _ (by omega)]
theorem pX8_wI_L83 (q69 : Int32 → Int32 → Int32 → rm_M → Option (Int32 × rm_M)) (x1 x2 x3 : Int32) : ∀ d f i M, i + d = 10 → d < f → (∀ j, j < i → M.1 89 j = nI 0) → ∃ M2, fX8_whereIs_L83 q69 f x1 x2 x3 (nI i) M = fX8_whereIs_L107 q69 rm_F x1 x2 x3 (nI 0) M2 ∧ (∀ j, j < 10 → M2.1 89 j = nI 0) ∧ FR (fun q => q = 89) M M2 := by
  intro d
  induction d with
  | zero =>
    intro f i M hi hf h0
    obtain ⟨f, rfl⟩ : ∃ z, f = z + 1 := ⟨f - 1, by omega⟩
    refine ⟨M, ?_, fun j hj => h0 j (by omega), FR.rf⟩
    rw [fX8_whereIs_L83, pn_lit 10, pn_lit 0, if_pos (by rw [nI_leI (by omega) (by omega)]; omega)]
  | succ d ih =>
    intro f i M hi hf h0
    obtain ⟨f, rfl⟩ : ∃ z, f = z + 1 := ⟨f - 1, by omega⟩
    have hib : rm_ib (nI i) 10 = true := by rw [pn_ib (by omega), decide_eq_true_eq]; omega
    obtain ⟨M2, f2, g1, r2⟩ := ih f (i + 1) (rm_sI M 89 i (nI 0)) (by omega) (by omega) (fun j hj => by
      rw [pn_sI_eq]
      by_cases e : j = i
      · subst e; rw [pn_upd_eq]
      · rw [pn_upd_ne _ _ e]; exact h0 j (by omega))
    refine ⟨M2, ?_, g1, FR.tr (S := fun q => q = 89) (FR.sI rfl) r2⟩
    rw [fX8_whereIs_L83, pn_lit 10, pn_lit 0, if_neg (by rw [nI_leI (by omega) (by omega)]; omega), if_pos hib, rm_lt1, nI_clamp (by omega), pn_lit 1, nI_add, f2]
def toM (v : Nat → Nat) (k : Nat) : Nat := if v 12 = 1 then k + 1 else k
def stf (v : Nat → Nat) (X c : Nat) : Nat := if X.testBit c ∧ 0 < v c then 2 ^ c else 0
def mvf (cs : Nat) (w : Nat → Nat → Nat) (v : Nat → Nat) (mo m X c : Nat) : Nat := if X.testBit c ∧ toM v m ≤ mo then nr cs w c &&& inB cs w v else 0
theorem or_help (x a b A B : Nat) : ((x ||| a) ||| b ||| A) ||| B = (x ||| (a ||| A)) ||| (b ||| B) := by
  apply Nat.eq_of_testBit_eq
  intro i
  simp only [Nat.testBit_or]
  cases x.testBit i <;> cases a.testBit i <;> cases b.testBit i <;> cases A.testBit i <;> cases B.testBit i <;> rfl
theorem if_or (P : Prop) [Decidable P] (a b : Nat) : (if P then a ||| b else 0) = (if P then a else 0) ||| (if P then b else 0) := by
  split <;> simp
theorem pX8_wI_L116 {cs mo m X : Nat} {w : Nat → Nat → Nat} {v : Nat → Nat} (hW : WN cs w) (hV : WV cs v) (hX : X < 64) (hm : m ≤ mo) (hmo : mo ≤ 8) (q69 : Int32 → Int32 → Int32 → rm_M → Option (Int32 × rm_M)) (q107 : Int32 → Int32 → Int32 → Int32 → rm_M → Option (Int32 × rm_M)) (x3 : Int32) : ∀ (d f i : Nat) (Z : Nat → Nat) (M : rm_M), i + d = cs → d < f → MW M cs w → MV M 83 v → M.1 88 m = nI X → (∀ j, j < 10 → M.1 89 j = nI (Z j)) →
    ∃ M2, fX8_whereIs_L116 q69 q107 f (nI (inB cs w v)) (nI mo) x3 (nI m) (nI i) M = q107 (nI (inB cs w v)) (nI mo) x3 (nI (m + 1)) M2 ∧ (∀ j, j < 10 → M2.1 89 j = nI ((Z j ||| (if j = m then ro (stf v X) i d else 0)) ||| (if j = toM v m then ro (mvf cs w v mo m X) i d else 0))) ∧ FR (fun q => q = 89) M M2 := by
  have h2 := hW.2.1
  have b12 := hV.2.2.1
  intro d
  induction d with
  | zero =>
    intro f i Z M hi hf hM hS h88 h89
    obtain ⟨f, rfl⟩ : ∃ z, f = z + 1 := ⟨f - 1, by omega⟩
    refine ⟨M, ?_, fun j hj => ?_, FR.rf⟩
    · rw [fX8_whereIs_L116, hM.1, if_pos (by rw [nI_leI (by omega) (by omega)]; omega), pn_lit 1, nI_add]
    · rw [h89 j hj, ro, ro]
      simp
  | succ d ih =>
    intro f i Z M hi hf hM hS h88 h89
    obtain ⟨f, rfl⟩ : ∃ z, f = z + 1 := ⟨f - 1, by omega⟩
    have hib : rm_ib (nI m) 10 = true := by rw [pn_ib (by omega), decide_eq_true_eq]; omega
    have hvi := (hV.2.1 i (by omega)).1
    rw [fX8_whereIs_L116, hM.1, if_neg (by rw [nI_leI (by omega) (by omega)]; omega), if_pos hib, nI_clamp (by omega), h88, pn_lit 1, pn_lit 31, pn_lit 0, pn_tb (by omega) (by omega)]
    by_cases c : X.testBit i = true
    · rw [if_pos c, if_pos rfl, if_pos hib, if_pos (by rw [pn_ib (by omega), decide_eq_true_eq]; omega), nI_clamp (by omega), hS i (by omega), h89 m (by omega), sh1 (by omega)]
      have hto : toM v m ≤ 9 := by unfold toM; split <;> omega
      have hibt : rm_ib (nI (toM v m)) 10 = true := by rw [pn_ib (by omega), decide_eq_true_eq]; omega
      have go : ∃ M2, fX8_whereIs_L167 q69 q107 (fX8_whereIs_L116 q69 q107 f) (nI (inB cs w v)) (nI mo) x3 (nI m) (nI i) (nI m) (nI (Z m)) (nI (stf v X i)) M = q107 (nI (inB cs w v)) (nI mo) x3 (nI (m + 1)) M2 ∧ (∀ j, j < 10 → M2.1 89 j = nI ((Z j ||| (if j = m then ro (stf v X) i (d + 1) else 0)) ||| (if j = toM v m then ro (mvf cs w v mo m X) i (d + 1) else 0))) ∧ FR (fun q => q = 89) M M2 := by
        unfold fX8_whereIs_L167
        rw [if_pos hib, nI_clamp (by omega), pn_or, rm_lt1, pn_lit 12, pn_lit 1, if_pos (by decide), nI_add]
        have r1 : FR (fun q => q = 89) M (rm_sI M 89 m (nI (Z m ||| stf v X i))) := FR.sI rfl
        have e12 : (rm_sI M 89 m (nI (Z m ||| stf v X i))).1 83 (nI 12).toNatClampNeg = nI (v 12) := by rw [pn_sI_ne _ _ _ (by omega), nI_clamp (by omega)]; exact hS 12 (by omega)
        rw [e12]
        have go2 : ∃ M2, fX8_whereIs_L189 q69 q107 (fX8_whereIs_L116 q69 q107 f) (nI (inB cs w v)) (nI mo) x3 (nI m) (nI i) (nI (toM v m)) (rm_sI M 89 m (nI (Z m ||| stf v X i))) = q107 (nI (inB cs w v)) (nI mo) x3 (nI (m + 1)) M2 ∧ (∀ j, j < 10 → M2.1 89 j = nI ((Z j ||| (if j = m then ro (stf v X) i (d + 1) else 0)) ||| (if j = toM v m then ro (mvf cs w v mo m X) i (d + 1) else 0))) ∧ FR (fun q => q = 89) M M2 := by
          have hM1 := hM.fr r1 (by omega) (by omega)
          have hS1 := hS.fr r1 (by omega)
          have h881 : (rm_sI M 89 m (nI (Z m ||| stf v X i))).1 88 m = nI X := by rw [(r1.1 88 (by omega)).1]; exact h88
          have h891 : ∀ j, j < 10 → (rm_sI M 89 m (nI (Z m ||| stf v X i))).1 89 j = nI (Z j ||| (if j = m then stf v X i else 0)) := by
            intro j hj
            rw [pn_sI_eq]
            by_cases e : j = m
            · subst e; rw [pn_upd_eq, if_pos rfl]
            · rw [pn_upd_ne _ _ e, if_neg e, Nat.or_zero]; exact h89 j hj
          have fin : ∀ y, y = mvf cs w v mo m X i → ∃ M2, fX8_whereIs_L217 q69 q107 (fX8_whereIs_L116 q69 q107 f) (nI (inB cs w v)) (nI mo) x3 (nI m) (nI i) (nI (toM v m)) (nI (Z (toM v m) ||| (if toM v m = m then stf v X i else 0))) (nI y) (rm_sI M 89 m (nI (Z m ||| stf v X i))) = q107 (nI (inB cs w v)) (nI mo) x3 (nI (m + 1)) M2 ∧ (∀ j, j < 10 → M2.1 89 j = nI ((Z j ||| (if j = m then ro (stf v X) i (d + 1) else 0)) ||| (if j = toM v m then ro (mvf cs w v mo m X) i (d + 1) else 0))) ∧ FR (fun q => q = 89) M M2 := by
            intro y hy
            unfold fX8_whereIs_L217 fX8_whereIs_L219
            rw [if_pos hibt, rm_lt1, nI_clamp (by omega), pn_or, pn_lit 1, nI_add]
            have r2 : FR (fun q => q = 89) (rm_sI M 89 m (nI (Z m ||| stf v X i))) (rm_sI (rm_sI M 89 m (nI (Z m ||| stf v X i))) 89 (toM v m) (nI ((Z (toM v m) ||| (if toM v m = m then stf v X i else 0)) ||| y))) := FR.sI rfl
            obtain ⟨M2, f2, g2, r3⟩ := ih f (i + 1) (fun j => (Z j ||| (if j = m then stf v X i else 0)) ||| (if j = toM v m then mvf cs w v mo m X i else 0)) _ (by omega) (by omega) (hM1.fr r2 (by omega) (by omega)) (hS1.fr r2 (by omega)) (by rw [(r2.1 88 (by omega)).1]; exact h881) (fun j hj => by
              rw [pn_sI_eq]
              by_cases e : j = toM v m
              · subst e; rw [pn_upd_eq, if_pos rfl, hy]
              · rw [pn_upd_ne _ _ e, if_neg e, Nat.or_zero]; exact h891 j hj)
            refine ⟨M2, f2, fun j hj => ?_, r1.tr (r2.tr r3)⟩
            rw [g2 j hj, ro, ro, if_or, if_or]
            congr 1
            exact or_help _ _ _ _ _
          unfold fX8_whereIs_L189
          rw [if_pos hibt, nI_clamp (by omega), h891 _ (by omega), pX8_joined hM1 h2 (by omega) hW.lt, pn_bd, pn_and, pn_lit 0]
          by_cases e : toM v m ≤ mo
          · rw [if_neg (by rw [nI_ltI (by omega) (by omega)]; omega)]
            exact fin _ (by unfold mvf; rw [if_pos ⟨c, e⟩])
          · rw [if_pos (by rw [nI_ltI (by omega) (by omega)]; omega)]
            exact fin _ (by unfold mvf; rw [if_neg (fun q => e q.2)])
        by_cases k : v 12 = 1
        · have : toM v m = m + 1 := by unfold toM; rw [if_pos k]
          rw [if_pos (by rw [k])]
          rw [this] at go2
          rw [this]
          exact go2
        · have : toM v m = m := by unfold toM; rw [if_neg k]
          rw [if_neg (by rw [nI_eq (by omega) (by omega)]; exact k)]
          rw [this] at go2
          rw [this]
          exact go2
      by_cases c2 : v i ≤ 0
      · rw [if_pos (by rw [nI_leI (by omega) (by omega)]; exact c2)]
        have e : stf v X i = 0 := by unfold stf; rw [if_neg (fun q => by omega)]
        rw [e] at go
        exact go
      · rw [if_neg (by rw [nI_leI (by omega) (by omega)]; exact c2)]
        have e : stf v X i = 2 ^ i := by unfold stf; rw [if_pos ⟨c, by omega⟩]
        rw [e] at go
        exact go
    · rw [if_neg c, if_neg (by rw [nI_eq (by omega) (by omega)]; omega)]
      unfold fX8_whereIs_L219
      rw [pn_lit 1, nI_add]
      obtain ⟨M2, f2, g2, r2⟩ := ih f (i + 1) Z M (by omega) (by omega) hM hS h88 h89
      refine ⟨M2, f2, fun j hj => ?_, r2⟩
      have e1 : stf v X i = 0 := by unfold stf; rw [if_neg (fun q => c q.1)]
      have e2 : mvf cs w v mo m X i = 0 := by unfold mvf; rw [if_neg (fun q => c q.1)]
      rw [g2 j hj, ro, ro, e1, e2, Nat.zero_or, Nat.zero_or]
def Yf (cs : Nat) (w : Nat → Nat → Nat) (v : Nat → Nat) (mo : Nat) (R : Nat → Nat) : Nat → Nat → Nat
  | 0, _ => 0
  | m + 1, j => (Yf cs w v mo R m j ||| (if j = m then ro (stf v (R m)) 0 cs else 0)) ||| (if j = toM v m then ro (mvf cs w v mo m (R m)) 0 cs else 0)
theorem Yf_bit {cs mo : Nat} {w : Nat → Nat → Nat} {v R : Nat → Nat} {c : Nat} : ∀ m j, (Yf cs w v mo R m j).testBit c = true ↔ (j < m ∧ (sN cs v (R j)).testBit c = true) ∨ ∃ k, k < m ∧ j = toM v k ∧ toM v k ≤ mo ∧ (mN cs w (R k)).testBit c = true ∧ (inB cs w v).testBit c = true := by
  have hmv : ∀ m, (ro (mvf cs w v mo m (R m)) 0 cs).testBit c = true ↔ toM v m ≤ mo ∧ (mN cs w (R m)).testBit c = true ∧ (inB cs w v).testBit c = true := by
    intro m
    rw [ro_bit, mN_bit]
    constructor
    · rintro ⟨d, h1, h2, h3⟩
      unfold mvf at h3
      rw [if_bit, Nat.testBit_and, Bool.and_eq_true, nr_bit] at h3
      exact ⟨h3.1.2, ⟨d, by omega, h3.1.1, h3.2.1.1, h3.2.1.2⟩, h3.2.2⟩
    · rintro ⟨h1, ⟨d, h2, h3, h4, h5⟩, h6⟩
      refine ⟨d, by omega, by omega, ?_⟩
      unfold mvf
      rw [if_bit, Nat.testBit_and, Bool.and_eq_true, nr_bit]
      exact ⟨⟨h3, h1⟩, ⟨h4, h5⟩, h6⟩
  intro m
  induction m with
  | zero =>
    intro j
    rw [Yf, Nat.zero_testBit]
    constructor
    · intro q; cases q
    · rintro (⟨q, _⟩ | ⟨k, q, _⟩) <;> omega
  | succ m ih =>
    intro j
    rw [Yf, Nat.testBit_or, Nat.testBit_or, Bool.or_eq_true, Bool.or_eq_true, ih j, if_bit, if_bit, hmv m]
    constructor
    · rintro ((h | h) | h)
      · rcases h with ⟨h1, h2⟩ | ⟨k, h1, h2⟩
        · exact Or.inl ⟨by omega, h2⟩
        · exact Or.inr ⟨k, by omega, h2⟩
      · obtain ⟨rfl, h⟩ := h
        exact Or.inl ⟨by omega, h⟩
      · exact Or.inr ⟨m, by omega, h⟩
    · rintro (⟨h1, h2⟩ | ⟨k, h1, h2⟩)
      · by_cases e : j = m
        · subst e; exact Or.inl (Or.inr ⟨rfl, h2⟩)
        · exact Or.inl (Or.inl (Or.inl ⟨by omega, h2⟩))
      · by_cases e : k = m
        · subst e; exact Or.inr h2
        · exact Or.inl (Or.inl (Or.inr ⟨k, by omega, h2⟩))
theorem Yf_st {cs mo : Nat} {w : Nat → Nat → Nat} {v R : Nat → Nat} (hmo : mo + 1 = lvs v) (hR : ∀ j c, j ≤ mo → (R j).testBit c = true → (inB cs w v).testBit c = true) {j : Nat} (hj : j ≤ mo) : Yf cs w v mo R (mo + 1) j = stB cs w v R j := by
  apply Nat.eq_of_testBit_eq
  intro c
  apply Bool.eq_iff_iff.mpr
  rw [Yf_bit]
  unfold stB
  rw [Nat.testBit_and, Bool.and_eq_true, Nat.testBit_or, Bool.or_eq_true]
  constructor
  · rintro (⟨h1, h2⟩ | ⟨k, h1, h2, h3, h4, h5⟩)
    · exact ⟨Or.inl h2, hR j c hj (sN_bit.mp h2).2.1⟩
    · refine ⟨Or.inr ?_, h5⟩
      unfold toM at h2
      by_cases q : v 12 = 1
      · rw [if_pos q] at h2 ⊢
        rw [if_neg (by omega), show j - 1 = k by omega]
        exact h4
      · rw [if_neg q] at h2 ⊢
        rw [h2]; exact h4
  · rintro ⟨h1 | h1, h2⟩
    · exact Or.inl ⟨by omega, h1⟩
    · by_cases q : v 12 = 1
      · rw [if_pos q] at h1
        by_cases z : j = 0
        · rw [if_pos z, Nat.zero_testBit] at h1; cases h1
        · rw [if_neg z] at h1
          refine Or.inr ⟨j - 1, by omega, ?_, ?_, h1, h2⟩
          · unfold toM; rw [if_pos q]; omega
          · unfold toM; rw [if_pos q]; omega
      · rw [if_neg q] at h1
        refine Or.inr ⟨j, by omega, ?_, ?_, h1, h2⟩
        · unfold toM; rw [if_neg q]
        · unfold toM; rw [if_neg q]; exact hj
theorem pX8_wI_L107 {cs mo : Nat} {w : Nat → Nat → Nat} {v R : Nat → Nat} (hW : WN cs w) (hV : WV cs v) (hmo : mo ≤ 8) (hR : ∀ j, j ≤ mo → R j < 64) (q69 : Int32 → Int32 → Int32 → rm_M → Option (Int32 × rm_M)) (x3 : Int32) : ∀ d f m M, m + d = mo + 1 → d < f → MW M cs w → MV M 83 v → (∀ j, j ≤ mo → M.1 88 j = nI (R j)) → (∀ j, j < 10 → M.1 89 j = nI (Yf cs w v mo R m j)) →
    ∃ M2, fX8_whereIs_L107 q69 f (nI (inB cs w v)) (nI mo) x3 (nI m) M = fX8_whereIs_L234 q69 rm_F (nI (inB cs w v)) (nI mo) x3 (nI 0) M2 ∧ (∀ j, j < 10 → M2.1 89 j = nI (Yf cs w v mo R (mo + 1) j)) ∧ FR (fun q => q = 89) M M2 := by
  have hF := pn_F
  have h2 := hW.2.1
  intro d
  induction d with
  | zero =>
    intro f m M hi hf hM hS h88 h89
    obtain ⟨f, rfl⟩ : ∃ z, f = z + 1 := ⟨f - 1, by omega⟩
    refine ⟨M, ?_, ?_, FR.rf⟩
    · rw [fX8_whereIs_L107, if_pos (by rw [nI_ltI (by omega) (by omega)]; omega), pn_lit 0]
    · rw [show mo + 1 = m by omega]; exact h89
  | succ d ih =>
    intro f m M hi hf hM hS h88 h89
    obtain ⟨f, rfl⟩ : ∃ z, f = z + 1 := ⟨f - 1, by omega⟩
    rw [fX8_whereIs_L107, if_neg (by rw [nI_ltI (by omega) (by omega)]; omega), pn_lit 0]
    obtain ⟨M1, f1, g1, r1⟩ := pX8_wI_L116 hW hV (hR m (by omega)) (show m ≤ mo by omega) hmo q69 (fX8_whereIs_L107 q69 f) x3 cs rm_F 0 _ M (by omega) (by omega) hM hS (h88 m (by omega)) h89
    rw [f1]
    obtain ⟨M2, f2, g2, r2⟩ := ih f (m + 1) M1 (by omega) (by omega) (hM.fr r1 (by omega) (by omega)) (hS.fr r1 (by omega)) (fun j hj => by rw [(r1.1 88 (by omega)).1]; exact h88 j hj) g1
    exact ⟨M2, f2, g2, r1.tr r2⟩
theorem pX8_wI_L272 {lv : Nat} {R : Nat → Nat} {M : rm_M} (hl1 : 1 ≤ lv) (hl9 : lv ≤ 9) (h : ∀ j, j < lv → M.1 88 j = nI (R j)) : ∀ d f i acc, i + d = lv → d < f → fX8_whereIs_L272 f (nI (lv - 1)) (nI acc) (nI i) M = some (nI (acc ||| ro R i d), M) := by
  intro d
  induction d with
  | zero =>
    intro f i acc hi hf
    obtain ⟨f, rfl⟩ : ∃ z, f = z + 1 := ⟨f - 1, by omega⟩
    rw [fX8_whereIs_L272, if_pos (by rw [nI_ltI (by omega) (by omega)]; omega), ro, Nat.or_zero]
  | succ d ih =>
    intro f i acc hi hf
    obtain ⟨f, rfl⟩ : ∃ z, f = z + 1 := ⟨f - 1, by omega⟩
    rw [fX8_whereIs_L272, if_neg (by rw [nI_ltI (by omega) (by omega)]; omega), if_pos (by rw [pn_ib (by omega), decide_eq_true_eq]; omega), rm_lt1, nI_clamp (by omega), h i (by omega), pn_or, pn_lit 1, nI_add, ih f _ _ (by omega) (by omega), ro, Nat.or_assoc]
theorem pX8_wI_L69 {cs mo : Nat} {w : Nat → Nat → Nat} {v : Nat → Nat} (hW : WN cs w) (hV : WV cs v) (hmo : mo + 1 = lvs v) (hm8 : mo ≤ 8) (h17 : v 17 < 100000) : ∀ d f t R M, t + d = v 17 → d < f → MW M cs w → MV M 83 v → (∀ j, R j < 2 ^ cs) → (∀ j c, j ≤ mo → (R j).testBit c = true → (inB cs w v).testBit c = true) → (∀ j, j ≤ mo → M.1 88 j = nI (R j)) →
    ∃ M2, fX8_whereIs_L69 f (nI (inB cs w v)) (nI mo) (nI t) M = some (nI (ro (itB cs w v d R) 0 (lvs v)), M2) ∧ FR (fun q => q = 88 ∨ q = 89) M M2 := by
  have hF := pn_F
  have h2 := hW.2.1
  intro d
  induction d with
  | zero =>
    intro f t R M ht hf hM hS hR hI h88
    obtain ⟨f, rfl⟩ : ∃ z, f = z + 1 := ⟨f - 1, by omega⟩
    have e17 : M.1 83 (nI 17).toNatClampNeg = nI (v 17) := by rw [nI_clamp (by omega)]; exact hS 17 (by omega)
    refine ⟨M, ?_, FR.rf⟩
    have L := pX8_wI_L272 (R := R) (M := M) (lv := lvs v) (by omega) (by omega) (fun j hj => h88 j (by omega)) (lvs v) rm_F 0 0 (by omega) (by omega)
    rw [show lvs v - 1 = mo by omega, Nat.zero_or] at L
    rw [fX8_whereIs_L69, pn_lit 17, pn_lit 0, if_pos (by decide), e17, if_pos (by rw [nI_leI (by omega) (by omega)]; omega), L]
    rfl
  | succ d ih =>
    intro f t R M ht hf hM hS hR hI h88
    obtain ⟨f, rfl⟩ : ∃ z, f = z + 1 := ⟨f - 1, by omega⟩
    have e17 : M.1 83 (nI 17).toNatClampNeg = nI (v 17) := by rw [nI_clamp (by omega)]; exact hS 17 (by omega)
    rw [fX8_whereIs_L69, pn_lit 17, pn_lit 0, if_pos (by decide), e17, if_neg (by rw [nI_leI (by omega) (by omega)]; omega)]
    obtain ⟨M1, f1, g1, r1⟩ := pX8_wI_L83 (fX8_whereIs_L69 f) (nI (inB cs w v)) (nI mo) (nI t) 10 rm_F 0 M (by omega) (by omega) (fun j hj => by omega)
    obtain ⟨M2, f2, g2, r2⟩ := pX8_wI_L107 (R := R) hW hV hm8 (fun j hj => b31 (hR j) h2) (fX8_whereIs_L69 f) (nI t) (mo + 1) rm_F 0 M1 (by omega) (by omega) (hM.fr r1 (by omega) (by omega)) (hS.fr r1 (by omega)) (fun j hj => by rw [(r1.1 88 (by omega)).1]; exact h88 j hj) (fun j hj => g1 j hj)
    obtain ⟨M3, f3, g3, g3b, r3⟩ := pX8_wI_L234 (fX8_whereIs_L69 f) (nI (inB cs w v)) (nI mo) (nI t) 10 rm_F 0 M2 (by omega) (by omega)
    have r13 : FR (fun q => q = 88 ∨ q = 89) M M3 := (r1.mono (fun a ha => Or.inr ha)).tr ((r2.mono (fun a ha => Or.inr ha)).tr (r3.mono (fun a ha => Or.inl ha)))
    rw [f1, f2, f3, nI_add]
    obtain ⟨M4, f4, r4⟩ := ih f (t + 1) (stB cs w v R) M3 (by omega) (by omega) (hM.fr r13 (by omega) (by omega)) (hS.fr r13 (by omega)) (fun j => stB_lt w v R j) (fun j c _ q => by
      unfold stB at q
      rw [Nat.testBit_and, Bool.and_eq_true] at q
      exact q.2) (fun j hj => by rw [g3 j (by omega) (by omega), g2 j (by omega), Yf_st hmo hI hj])
    exact ⟨M4, f4, r13.tr r4⟩
theorem pX8_whereIs {cs : Nat} {w : Nat → Nat → Nat} {v : Nat → Nat} {M : rm_M} (hW : WN cs w) (hV : WV cs v) (hM : MW M cs w) (hS : MV M 83 v) (h17 : v 17 < 1000) : ∃ M2, fX8_whereIs M = some (nI (whr cs w v), M2) ∧ FR (fun q => q = 88 ∨ q = 89) M M2 := by
  have hF := pn_F
  have h2 := hW.2.1
  have b12 := hV.2.2.1
  have b13 := hV.2.2.2.2.1
  have b15 := hV.2.2.2.2.2.2
  have e12 : M.1 83 (nI 12).toNatClampNeg = nI (v 12) := by rw [nI_clamp (by omega)]; exact hS 12 (by omega)
  have e13 : M.1 83 (nI 13).toNatClampNeg = nI (v 13) := by rw [nI_clamp (by omega)]; exact hS 13 (by omega)
  have hlb : 1 ≤ lvs v ∧ lvs v ≤ 9 := by
    unfold lvs
    split
    · rename_i c; exact b13 (by omega)
    · omega
  have key : ∀ d f i M1, i + d = 10 → d < f → FR (fun q => q = 88 ∨ q = 89) M M1 → (∀ j, j < i → M1.1 88 j = nI (R0 v j)) → ∃ M2, fX8_whereIs_L32 f (nI (inB cs w v)) (nI (lvs v - 1)) (nI i) M1 = some (nI (whr cs w v), M2) ∧ FR (fun q => q = 88 ∨ q = 89) M M2 := by
    intro d
    induction d with
    | zero =>
      intro f i M1 hi hf r1 hz
      obtain ⟨f, rfl⟩ : ∃ z, f = z + 1 := ⟨f - 1, by omega⟩
      rw [fX8_whereIs_L32, pn_lit 10, pn_lit 0, if_pos (by rw [nI_leI (by omega) (by omega)]; omega)]
      obtain ⟨M2, f2, r2⟩ := pX8_wI_L69 hW hV (mo := lvs v - 1) (by omega) (by omega) (by omega) (v 17) rm_F 0 (R0 v) M1 (by omega) (by omega) (hM.fr r1 (by omega) (by omega)) (hS.fr r1 (by omega)) (fun j => itB_lt (w := w) b15 0 j) (fun j c hj q => by
        rw [inB_bit]
        unfold R0 at q
        by_cases e : j = 0
        · rw [if_pos e, pow_bit] at q
          subst q
          refine ⟨b15, ?_⟩
          unfold inn
          rw [fw_self]
          rintro (⟨_, q⟩ | ⟨q1, q2⟩)
          · exact q rfl
          · have := b13 (by omega); omega
        · rw [if_neg e, Nat.zero_testBit] at q; cases q) (fun j hj => hz j (by omega))
      exact ⟨M2, f2, r1.tr r2⟩
    | succ d ih =>
      intro f i M1 hi hf r1 hz
      obtain ⟨f, rfl⟩ : ∃ z, f = z + 1 := ⟨f - 1, by omega⟩
      have e15 : M1.1 83 (nI 15).toNatClampNeg = nI (v 15) := by rw [nI_clamp (by omega), (r1.1 83 (by omega)).1]; exact hS 15 (by omega)
      have hib : rm_ib (nI i) 10 = true := by rw [pn_ib (by omega), decide_eq_true_eq]; omega
      have go : ∃ M2, fX8_whereIs_L60 (fX8_whereIs_L32 f) (nI (inB cs w v)) (nI (lvs v - 1)) (nI i) (nI i) (nI (R0 v i)) M1 = some (nI (whr cs w v), M2) ∧ FR (fun q => q = 88 ∨ q = 89) M M2 := by
        unfold fX8_whereIs_L60
        rw [if_pos hib, rm_lt1, nI_clamp (by omega), pn_lit 1, nI_add]
        refine ih f (i + 1) _ (by omega) (by omega) (FR.sIr r1 (Or.inl rfl)) (fun j hj => ?_)
        rw [pn_sI_eq]
        by_cases e : j = i
        · subst e; rw [pn_upd_eq]
        · rw [pn_upd_ne _ _ e]; exact hz j (by omega)
      rw [fX8_whereIs_L32, pn_lit 10, pn_lit 0, pn_lit 15, pn_lit 1, pn_lit 31, if_neg (by rw [nI_leI (by omega) (by omega)]; omega)]
      unfold R0 at go
      by_cases e : i = 0
      · subst e
        rw [if_pos rfl, if_pos (by decide), e15, sh1 (by omega)]
        rw [if_pos rfl] at go
        exact go
      · rw [if_neg (by rw [nI_eq (by omega) (by omega)]; exact e)]
        rw [if_neg e] at go
        exact go
  have fin := key 10 rm_F 0 M (by omega) (by omega) FR.rf (fun j h1 => by omega)
  unfold fX8_whereIs fX8_whereIs_L29
  rw [pX8_allowed hW hV hM hS, pn_bd, pn_lit 12, pn_lit 13, pn_lit 1, pn_lit 0, if_pos (by decide), e12, e13]
  by_cases k : v 12 = 1
  · have b := b13 (by omega)
    have : lvs v = v 13 := by unfold lvs; rw [if_pos k]
    rw [if_pos (by rw [k]), if_pos (by decide), pk_sub (by omega)]
    rw [this] at fin
    exact fin
  · rw [if_neg (by rw [nI_eq (by omega) (by omega)]; exact k)]
    have : lvs v = 1 := by unfold lvs; rw [if_neg k]
    rw [this] at fin
    exact fin
theorem op_where {t : Nat} {M : rm_M} (h : Inv t M) (ht : t < 1000) : ∃ r M1 M2, fX7_where M = some (r, M1) ∧ fX8_where M1 = some (r, M2) ∧ Inv (t + 1) M2 := by
  have hi := h
  obtain ⟨n, s, tl, tx, cs, jn, w, pr, v, hc, nx, hv, hC, hM, hA⟩ := h
  have hn := hC.1.1
  have hs := hC.1.2.1
  have kn := pn_net hn
  have ks := pn_sta (s := s) (by omega)
  have hW := hA.2.2.1
  have hG := hA.2.2.2.2.2.2.1
  have g17 := hG.2.2.1
  obtain ⟨M1, f1, r1⟩ := pX6_find hW hG.1 hs hn (by omega) hC.2.2.2.1 hC.2.2.1.1.1 hC.2.2.1.2.2.1 hC.2.2.1.2.2.2.1
  have hM1 := hM.fr2 r1 (fun a ha => by omega)
  obtain ⟨M2, f2, r2⟩ := pX8_whereIs hW hG.1 hM1.2.2.1 hM1.2.2.2.2.2.1 (by omega)
  refine ⟨nI (whr cs w v), M1, M2, ?_, ?_, hi.ro (S := fun q => q = 11 ∨ q = 88 ∨ q = 89) ((r1.mono (fun a ha => Or.inl ha)).tr (r2.mono (fun a ha => Or.inr ha))) (fun a ha => ⟨by unfold scr; omega, by omega⟩)⟩
  · unfold fX7_where
    rw [rm_lt1, hC.1.2.2.1, if_pos kn, rm_lt1, hC.1.2.2.2.1, if_pos ks, f1, pn_bd]
  · unfold fX8_where
    rw [f2, pn_bd]
