/-! ===== the class' trees ===== -/
theorem dd_tr {cs p : Nat} (w : Nat → Nat → Nat) (h1 : 2 ≤ cs) (h2 : cs ≤ 6) (hp : p < cs) : dd (Em cs w p) (cs - 1) (2 ^ cs - 1 - 2 ^ p) = trI cs w p := by
  rcases (show cs = 2 ∨ cs = 3 ∨ cs = 4 ∨ cs = 5 ∨ cs = 6 by omega) with rfl | rfl | rfl | rfl | rfl
  · rcases (show p = 0 ∨ p = 1 by omega) with rfl | rfl
    · exact dd1_2 _
    · exact dd1_1 _
  · rcases (show p = 0 ∨ p = 1 ∨ p = 2 by omega) with rfl | rfl | rfl
    · exact dd2_6 _
    · exact dd2_5 _
    · exact dd2_3 _
  · rcases (show p = 0 ∨ p = 1 ∨ p = 2 ∨ p = 3 by omega) with rfl | rfl | rfl | rfl
    · exact dd3_14 _
    · exact dd3_13 _
    · exact dd3_11 _
    · exact dd3_7 _
  · rcases (show p = 0 ∨ p = 1 ∨ p = 2 ∨ p = 3 ∨ p = 4 by omega) with rfl | rfl | rfl | rfl | rfl
    · exact dd4_30 _
    · exact dd4_29 _
    · exact dd4_27 _
    · exact dd4_23 _
    · exact dd4_15 _
  · rcases (show p = 0 ∨ p = 1 ∨ p = 2 ∨ p = 3 ∨ p = 4 ∨ p = 5 by omega) with rfl | rfl | rfl | rfl | rfl | rfl
    · exact dd5_62 _
    · exact dd5_61 _
    · exact dd5_59 _
    · exact dd5_55 _
    · exact dd5_47 _
    · exact dd5_31 _
def bcI (a0 : Int32) : Int32 :=
  let v1 := a0 - ((((a0).toUInt32 >>> (((1 : Int32)).toUInt32 &&& Int32.toUInt32 31)).toInt32) &&& (1431655765 : Int32))
  let v2 := (v1 &&& (858993459 : Int32)) + ((((v1).toUInt32 >>> (((2 : Int32)).toUInt32 &&& Int32.toUInt32 31)).toInt32) &&& (858993459 : Int32))
  let v3 := (v2 + (((v2).toUInt32 >>> (((4 : Int32)).toUInt32 &&& Int32.toUInt32 31)).toInt32)) &&& (252645135 : Int32)
  let v4 := v3 + (((v3).toUInt32 >>> (((8 : Int32)).toUInt32 &&& Int32.toUInt32 31)).toInt32)
  let v5 := v4 + (((v4).toUInt32 >>> (((16 : Int32)).toUInt32 &&& Int32.toUInt32 31)).toInt32)
  v5 &&& (63 : Int32)
theorem bc_val : ∀ b, b < 64 → bcI (nI b) = nI (pop b) := by decide +kernel
theorem pJ6_bitCount {b : Nat} (h : b < 64) (M : rm_M) : fJ6_bitCount_0f7a4 (nI b) M = some (nI (pop b), M) := by
  rw [← bc_val b h]
  rfl
theorem bf1 : ∀ b, b < 64 → ∀ c, c < 6 → nI b &&& ((nI 1 <<< (nI c &&& nI 31)) ^^^ (-nI 1)) = nI (if b.testBit c then b - 2 ^ c else b) := by decide +kernel
theorem bf3 : ∀ x, x < 64 → ∀ o, o < 64 → ((nI x &&& (nI o ^^^ (-nI 1))) = nI 0 ↔ x &&& o = x) := by decide +kernel
theorem bf4 : ∀ cs, cs < 7 → ∀ p, p < cs → ((nI 1 <<< (nI cs &&& nI 31)) - nI 1) &&& ((nI 1 <<< (nI p &&& nI 31)) ^^^ (-nI 1)) = nI (2 ^ cs - 1 - 2 ^ p) := by decide +kernel
theorem bf5 : ∀ b, b < 64 → ∀ c, c < 6 → b.testBit c = true → b - 2 ^ c < b ∧ pop b = pop (b - 2 ^ c) + 1 := by decide +kernel
theorem bf6 : ∀ b, b < 64 → ∀ o, o < 64 → b &&& o = b → ∀ c, c < 6 → b.testBit c = true → (b - 2 ^ c) &&& o = b - 2 ^ c := by decide +kernel
def ck7 (cs p b : Nat) : Bool := !(decide (p < cs) && decide (b &&& (2 ^ cs - 1 - 2 ^ p) = b) && decide (b ≠ 0)) || (decide (pop b ≤ cs - 1) && decide (0 < pop b) && decide (b < 2 ^ cs))
theorem bf7b : ∀ cs, cs < 7 → ∀ p, p < 6 → ∀ b, b < 64 → ck7 cs p b = true := by decide +kernel
theorem bf7a (cs : Nat) (h : cs < 7) (p : Nat) (hp : p < cs) (b : Nat) (hb : b < 64) (hs : b &&& (2 ^ cs - 1 - 2 ^ p) = b) (h0 : b ≠ 0) : pop b ≤ cs - 1 ∧ 0 < pop b ∧ b < 2 ^ cs := by
  have := bf7b cs h p (by omega) b hb
  unfold ck7 at this
  rw [decide_eq_true hp, decide_eq_true hs, decide_eq_true h0] at this
  simp only [Bool.true_and, Bool.not_true, Bool.false_or, Bool.and_eq_true, decide_eq_true_eq] at this
  exact ⟨this.1.1, this.1.2, this.2⟩
theorem ot_lt : ∀ cs, cs < 7 → ∀ p, p < cs → 2 ^ cs - 1 - 2 ^ p < 64 := by decide +kernel
theorem bf7 (cs : Nat) (h : cs < 7) (p : Nat) (hp : p < cs) (b : Nat) (hb : b < 64) (hs : b &&& (2 ^ cs - 1 - 2 ^ p) = b) (h0 : b ≠ 0) : pop b ≤ cs - 1 ∧ 0 < pop b ∧ ∀ c, c < 6 → b.testBit c = true → c < cs := by
  obtain ⟨q1, q2, q3⟩ := bf7a cs h p hp b hb hs h0
  · refine ⟨q1, q2, fun c _ hc => ?_⟩
    rcases Nat.lt_or_ge c cs with z | z
    · exact z
    · have : b < 2 ^ c := Nat.lt_of_lt_of_le q3 (Nat.pow_le_pow_right (by decide) z)
      rw [Nat.testBit_lt_two_pow this] at hc
      cases hc
theorem bf8 : ∀ cs, cs < 7 → ∀ p, p < cs → pop (2 ^ cs - 1 - 2 ^ p) = cs - 1 := by decide +kernel
theorem pX7_holds {S c : Nat} (hS : S < 2 ^ 31) (hc : c < 31) (M : rm_M) : fX7_holds (nI S) (nI c) M = some (nI (if S.testBit c then 1 else 0), M) := by
  unfold fX7_holds
  simp only [pn_lit]
  rw [pn_tb hS hc]
  by_cases h : S.testBit c = true
  · rw [if_pos h, if_neg (by rw [nI_eq (by omega) (by omega)]; omega)]; rfl
  · rw [if_neg h, if_pos rfl]; rfl
/-- the class' net: cells, weights, what leads out -/
def CN (M : rm_M) (n cs : Nat) (w : Nat → Nat → Nat) : Prop := M.1 n 0 = nI cs ∧ (∀ a b, a < 6 → b < 6 → M.1 (n + 1 + 1 + a) b = nI (w a b)) ∧ ∀ c, c < cs → M.1 (n + 16) c = nI (ou cs w c)
theorem pX1_minorOf_L5 {cs : Nat} {w : Nat → Nat → Nat} (h : WN cs w) {n p k b : Nat} (hp : p < cs) (hk : k < cs - 1) (hb : b < 64) {M : rm_M} (hN : CN M n cs w) (hm : ∀ c, c < cs → b.testBit c = true → M.2.1 (n + 18) (b - 2 ^ c) = J (dd (Em cs w p) k (b - 2 ^ c))) :
    ∀ d f i acc, i + d = cs → d < f → fX1_minorOf_L5 n (nI b) (nI (ix p k)) f (J acc) (nI i) M = some (J (acc + isu (fun c => if b.testBit c = true then (if od b c = true then -(Em cs w p k c) else Em cs w p k c) * dd (Em cs w p) k (b - 2 ^ c) else 0) i d), M) := by
  have h1 := h.1
  have h2 := h.2.1
  have hr : ix p k < cs := by unfold ix; split <;> omega
  intro d
  induction d with
  | zero =>
    intro f i acc hi hf
    obtain ⟨f, rfl⟩ : ∃ z, f = z + 1 := ⟨f - 1, by omega⟩
    rw [fX1_minorOf_L5]
    simp (disch := omega) only [hN.1, nI_leI, isu, Int.add_zero]
    rw [if_pos (by omega)]
  | succ d ih =>
    intro f i acc hi hf
    obtain ⟨f, rfl⟩ : ∃ z, f = z + 1 := ⟨f - 1, by omega⟩
    rw [fX1_minorOf_L5]
    simp (disch := omega) only [hN.1, nI_leI, pX7_holds, pn_bd, pn_lit]
    rw [if_neg (by omega), isu]
    by_cases c0 : b.testBit i = true
    · rw [if_pos c0, if_neg (by rw [nI_eq (by omega) (by omega)]; omega), if_pos c0]
      have hlt := (bf5 b hb i (by omega) c0).1
      have common : ∀ z, z = J (Em cs w p k i) → fX1_minorOf_L50 n (nI b) (nI (ix p k)) (fX1_minorOf_L5 n (nI b) (nI (ix p k)) f) (J acc) (nI i) z M = some (J (acc + ((if od b i = true then -(Em cs w p k i) else Em cs w p k i) * dd (Em cs w p) k (b - 2 ^ i) + isu (fun c => if b.testBit c = true then (if od b c = true then -(Em cs w p k c) else Em cs w p k c) * dd (Em cs w p) k (b - 2 ^ c) else 0) (i + 1) d)), M) := by
        intro z hz
        have hdiv : b / 2 ^ (i + 1) < 64 := Nat.lt_of_le_of_lt (Nat.div_le_self _ _) hb
        have hpop : pop (b / 2 ^ (i + 1)) < 2 ^ 31 := by
          have := rs_le (f := fun c => if (b / 2 ^ (i + 1)).testBit c then 1 else 0) (m := 1) 6 0 (fun j _ _ => by split <;> omega)
          unfold pop; omega
        unfold fX1_minorOf_L50
        simp (disch := omega) only [pn_lit, nI_add, pn_shr, pJ6_bitCount hdiv, pn_bd, pn_and1, nI_eq]
        have fin : ∀ y, fX1_minorOf_L88 n (nI b) (nI (ix p k)) (fX1_minorOf_L5 n (nI b) (nI (ix p k)) f) (nI i) (J acc) (J y) M = some (J (acc + (y * dd (Em cs w p) k (b - 2 ^ i) + isu (fun c => if b.testBit c = true then (if od b c = true then -(Em cs w p k c) else Em cs w p k c) * dd (Em cs w p) k (b - 2 ^ c) else 0) (i + 1) d)), M) := by
          intro y
          unfold fX1_minorOf_L88
          simp only [pn_lit]
          rw [bf1 b hb i (by omega), if_pos c0]
          simp (disch := omega) only [pn_ib, nI_clamp, hm i (by omega) c0, J_mul, J_add, rm_lt1, fX1_minorOf_L104, pn_lit, nI_add, decide_eq_true_eq]
          rw [if_pos (by omega), ih f (i + 1) _ (by omega) (by omega), Int.add_assoc]
        by_cases c1 : pop (b / 2 ^ (i + 1)) % 2 = 1
        · have ho : od b i = true := by unfold od; rw [decide_eq_true c1]
          rw [if_pos c1, if_pos ho]
          unfold fX1_minorOf_L72
          simp only [pn_lit]
          rw [if_neg (show ¬ nI 1 = nI 0 by rw [nI_eq (by omega) (by omega)]; omega), hz, J_neg]
          exact fin _
        · have ho : ¬ od b i = true := by unfold od; rw [decide_eq_false c1]; decide
          rw [if_neg c1, if_neg ho]
          unfold fX1_minorOf_L72
          simp only [pn_lit, ↓reduceIte]
          rw [hz]
          exact fin _
      by_cases c2 : ix p k = i
      · have e1 : Em cs w p k i = (ou cs w (ix p k) : Int) := by unfold Em; rw [if_pos c2]
        have ho := ou_le h hr
        rw [if_pos (by rw [c2])]
        simp (disch := omega) only [pn_ib, nI_clamp, hN.2.2 (ix p k) hr, decide_eq_true_eq]
        rw [if_pos (by omega)]
        exact common _ (by rw [e1, nI_J (by omega)])
      · have e1 : Em cs w p k i = -(w (ix p k) i : Int) := by unfold Em; rw [if_neg c2]
        rw [if_neg (by rw [nI_eq (by omega) (by omega)]; exact c2)]
        simp (disch := omega) only [pn_ib, nI_clamp, hN.2.1 (ix p k) i (by omega) (by omega), decide_eq_true_eq]
        rw [if_pos (by omega), if_pos (by omega)]
        exact common _ (by rw [e1, nI_Jn (h.lt _ _)])
    · rw [if_neg c0, if_pos rfl, if_neg c0]
      unfold fX1_minorOf_L104
      rw [pn_lit, nI_add, ih f (i + 1) _ (by omega) (by omega), Int.zero_add]
theorem isu_tail {f : Nat → Int} {cs : Nat} (h : cs ≤ 6) (hz : ∀ c, cs ≤ c → c < 6 → f c = 0) : isu f 0 6 = isu f 0 cs := by
  rcases (show cs = 0 ∨ cs = 1 ∨ cs = 2 ∨ cs = 3 ∨ cs = 4 ∨ cs = 5 ∨ cs = 6 by omega) with rfl | rfl | rfl | rfl | rfl | rfl | rfl
  · simp [isu, hz 0 (by omega) (by omega), hz 1 (by omega) (by omega), hz 2 (by omega) (by omega), hz 3 (by omega) (by omega), hz 4 (by omega) (by omega), hz 5 (by omega) (by omega)]
  · simp [isu, hz 1 (by omega) (by omega), hz 2 (by omega) (by omega), hz 3 (by omega) (by omega), hz 4 (by omega) (by omega), hz 5 (by omega) (by omega)]
  · simp [isu, hz 2 (by omega) (by omega), hz 3 (by omega) (by omega), hz 4 (by omega) (by omega), hz 5 (by omega) (by omega)]
  · simp [isu, hz 3 (by omega) (by omega), hz 4 (by omega) (by omega), hz 5 (by omega) (by omega)]
  · simp [isu, hz 4 (by omega) (by omega), hz 5 (by omega) (by omega)]
  · simp [isu, hz 5 (by omega) (by omega)]
  · rfl
theorem pX1_minorOf {cs : Nat} {w : Nat → Nat → Nat} (h : WN cs w) {n p k b : Nat} (hp : p < cs) (hk : k < cs - 1) (hb : b < 64) (hbc : ∀ c, c < 6 → b.testBit c = true → c < cs) {M : rm_M} (hN : CN M n cs w) (hm : ∀ c, c < cs → b.testBit c = true → M.2.1 (n + 18) (b - 2 ^ c) = J (dd (Em cs w p) k (b - 2 ^ c))) :
    fX1_minorOf n (nI b) (nI (ix p k)) M = some (J (dd (Em cs w p) (k + 1) b), M) := by
  have hF := pn_F
  have h2 := h.2.1
  unfold fX1_minorOf
  simp only [J_lit, pn_lit]
  rw [pX1_minorOf_L5 h hp hk hb hN hm cs rm_F 0 _ (by omega) (by omega), dd, isu_tail h2]
  · rw [show ((0 : Nat) : Int) = 0 from rfl, Int.zero_add]
  · intro c hc hc2
    have : ¬ b.testBit c = true := fun q => by have := hbc c hc2 q; omega
    simp only [if_neg this]
theorem pX1_treesTo_L24 {cs : Nat} {w : Nat → Nat → Nat} (h : WN cs w) {n p : Nat} (hp : p < cs) : ∀ d f b M, b + d = (2 ^ cs - 1 - 2 ^ p) + 1 → 0 < b → d < f → CN M n cs w → (∀ b2, b2 < b → b2 &&& (2 ^ cs - 1 - 2 ^ p) = b2 → M.2.1 (n + 18) b2 = J (dd (Em cs w p) (pop b2) b2)) →
    ∃ M2, fX1_treesTo_L24 n (nI p) f (nI (2 ^ cs - 1 - 2 ^ p)) (nI b) M = some (J (trI cs w p), M2) ∧ FR (fun q => q = n + 18) M M2 ∧ M2.1 = M.1 := by
  have h1 := h.1
  have h2 := h.2.1
  have ho : 2 ^ cs - 1 - 2 ^ p < 64 := ot_lt cs (by omega) p hp
  intro d
  induction d with
  | zero =>
    intro f b M hd hb hf hN hT
    obtain ⟨f, rfl⟩ : ∃ z, f = z + 1 := ⟨f - 1, by omega⟩
    rw [fX1_treesTo_L24]
    simp (disch := omega) only [nI_ltI, pn_ib, nI_clamp, decide_eq_true_eq]
    rw [if_pos (by omega), if_pos (by omega), hT _ (by omega) (Nat.and_self _), bf8 cs (by omega) p hp, dd_tr w h1 h2 hp]
    exact ⟨M, rfl, FR.rf, rfl⟩
  | succ d ih =>
    intro f b M hd hb hf hN hT
    obtain ⟨f, rfl⟩ : ∃ z, f = z + 1 := ⟨f - 1, by omega⟩
    rw [fX1_treesTo_L24]
    simp (disch := omega) only [nI_ltI, pn_lit]
    rw [if_neg (by omega)]
    by_cases c0 : b &&& (2 ^ cs - 1 - 2 ^ p) = b
    · rw [if_pos ((bf3 b (by omega) _ ho).mpr c0), pJ6_bitCount (by omega)]
      obtain ⟨g1, g2, g3⟩ := bf7 cs (by omega) p hp b (by omega) c0 (by omega)
      simp only [pn_bd]
      rw [pk_sub (by omega : 1 ≤ pop b)]
      have hrow : fX1_rowOf n (nI (pop b - 1)) (nI p) M = some (nI (ix p (pop b - 1)), M) := by
        unfold fX1_rowOf ix
        simp (disch := omega) only [nI_leI, pn_lit, nI_add]
        by_cases c1 : p ≤ pop b - 1
        · rw [if_pos c1, if_neg (by omega)]
        · rw [if_neg c1, if_pos (by omega)]
      rw [hrow, pn_bd, pX1_minorOf h hp (by omega : pop b - 1 < cs - 1) (by omega : b < 64) g3 hN (fun c hc hbc => by
        obtain ⟨k1, k2⟩ := bf5 b (by omega) c (by omega) hbc
        rw [hT _ k1 (bf6 b (by omega) _ ho c0 c (by omega) hbc), show pop b - 1 = pop (b - 2 ^ c) by omega]), pn_bd]
      simp (disch := omega) only [pn_ib, nI_clamp, decide_eq_true_eq, rm_lt1, fX1_treesTo_L59, pn_lit, nI_add]
      rw [if_pos (by omega), show pop b - 1 + 1 = pop b by omega]
      obtain ⟨M2, f2, r2, e2⟩ := ih f (b + 1) (rm_sJ M (n + 18) b (J (dd (Em cs w p) (pop b) b))) (by omega) (by omega) (by omega) hN (fun b2 hb2 hs => by
        by_cases e : b2 = b
        · subst e; rw [pn_sJ_eq, pn_updL_eq]
        · rw [pn_sJ_eq, pn_updL_ne _ _ e]; exact hT b2 (by omega) hs)
      exact ⟨M2, f2, FR.tr (S := fun q => q = n + 18) (FR.sJ rfl) r2, e2⟩
    · rw [if_neg (fun q => c0 ((bf3 b (by omega) _ ho).mp q))]
      unfold fX1_treesTo_L59
      rw [pn_lit, nI_add]
      exact ih f (b + 1) M (by omega) (by omega) (by omega) hN (fun b2 hb2 hs => by
        by_cases e : b2 = b
        · subst e; exact absurd hs c0
        · exact hT b2 (by omega) hs)
theorem pX1_treesTo {cs : Nat} {w : Nat → Nat → Nat} (h : WN cs w) {n p : Nat} (hp : p < cs) {M : rm_M} (hN : CN M n cs w) : ∃ M2, fX1_treesTo n (nI p) M = some (J (trI cs w p), M2) ∧ FR (fun q => q = n + 18) M M2 ∧ M2.1 = M.1 := by
  have h1 := h.1
  have h2 := h.2.1
  have hF := pn_F
  have ho : 2 ^ cs - 1 - 2 ^ p < 64 := ot_lt cs (by omega) p hp
  unfold fX1_treesTo
  simp only [pn_lit, hN.1, rm_lt1]
  rw [bf4 cs (by omega) p hp]
  simp (disch := omega) only [pn_ib, nI_clamp, decide_eq_true_eq, J_lit]
  rw [if_pos (by omega)]
  obtain ⟨M2, f2, r2, e2⟩ := pX1_treesTo_L24 h hp (2 ^ cs - 1 - 2 ^ p) rm_F 1 (rm_sJ M (n + 18) 0 (J ((1 : Nat) : Int))) (by omega) (by omega) (by omega) hN (fun b2 hb2 hs => by
    obtain rfl : b2 = 0 := by omega
    rw [pn_sJ_eq, pn_updL_eq]
    rfl)
  exact ⟨M2, f2, FR.tr (S := fun q => q = n + 18) (FR.sJ rfl) r2, e2⟩
theorem pX1_growTrees_L2 {cs : Nat} {w : Nat → Nat → Nat} (h : WN cs w) {n : Nat} : ∀ d f p M, p + d = cs → d < f → CN M n cs w → (∀ k, k < p → M.2.1 (n + 17) k = J (trI cs w k)) → ∃ M2, fX1_growTrees_L2 n f (nI p) M = some M2 ∧ (∀ k, k < cs → M2.2.1 (n + 17) k = J (trI cs w k)) ∧ FR (fun q => q = n + 17 ∨ q = n + 18) M M2 ∧ M2.1 = M.1 := by
  have h1 := h.1
  have h2 := h.2.1
  intro d
  induction d with
  | zero =>
    intro f p M hp hf hN hT
    obtain ⟨f, rfl⟩ : ∃ z, f = z + 1 := ⟨f - 1, by omega⟩
    rw [fX1_growTrees_L2]
    simp (disch := omega) only [hN.1, nI_leI]
    rw [if_pos (by omega)]
    exact ⟨M, rfl, fun k hk => hT k (by omega), FR.rf, rfl⟩
  | succ d ih =>
    intro f p M hp hf hN hT
    obtain ⟨f, rfl⟩ : ∃ z, f = z + 1 := ⟨f - 1, by omega⟩
    obtain ⟨M2, f2, r2, e2⟩ := pX1_treesTo h (by omega : p < cs) hN
    rw [fX1_growTrees_L2, f2]
    simp (disch := omega) only [hN.1, nI_leI, pn_bd, pn_ib, nI_clamp, decide_eq_true_eq, rm_lt1, pn_lit, nI_add]
    rw [if_neg (by omega), if_pos (by omega)]
    obtain ⟨M3, f3, a3, r3, e3⟩ := ih f (p + 1) (rm_sJ M2 (n + 17) p (J (trI cs w p))) (by omega) (by omega) (by unfold CN; rw [pn_sJ1, e2]; exact hN) (fun k hk => by
      by_cases e : k = p
      · subst e; rw [pn_sJ_eq, pn_updL_eq]
      · rw [pn_sJ_eq, pn_updL_ne _ _ e, (r2.1 _ (by omega)).2]; exact hT k (by omega))
    exact ⟨M3, f3, a3, FR.tr (FR.sJr (r2.mono (fun a ha => Or.inr ha)) (Or.inl rfl)) r3, by rw [e3, pn_sJ1, e2]⟩
theorem pX1_growTrees {cs : Nat} {w : Nat → Nat → Nat} (h : WN cs w) {n : Nat} {M : rm_M} (hN : CN M n cs w) : ∃ M2, fX1_growTrees n M = some M2 ∧ (∀ k, k < cs → M2.2.1 (n + 17) k = J (trI cs w k)) ∧ FR (fun q => q = n + 17 ∨ q = n + 18) M M2 ∧ M2.1 = M.1 := by
  have h2 := h.2.1
  have hF := pn_F
  unfold fX1_growTrees
  simp only [pn_lit]
  exact pX1_growTrees_L2 h cs rm_F 0 M (by omega) (by omega) hN (fun k hk => by omega)
