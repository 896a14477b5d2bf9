/-! ===== cuts of the row into rounds ===== -/
def rv (n x : Nat) : Nat := rs (fun k => if x.testBit k then 2 ^ (n - 1 - k) else 0) 0 n
def ckA (n x : Nat) : Bool := !(decide (x < 2 ^ n)) || (decide (rv n x < 2 ^ n) && decide (rv n (rv n x) = x) && decide (pop (rv n x) = pop x) && decide (pop (2 ^ n + x) = pop x + 1) && decide (pop x ≤ n))
theorem ckA_all : ∀ n, n < 6 → ∀ x, x < 32 → ckA n x = true := by decide +kernel
theorem p32 {n x : Nat} (hn : n < 6) (hx : x < 2 ^ n) : x < 32 := Nat.lt_of_lt_of_le hx (Nat.pow_le_pow_right (n := 2) (by decide) (show n ≤ 5 by omega))
theorem rvA {n x : Nat} (hn : n < 6) (hx : x < 2 ^ n) : rv n x < 2 ^ n ∧ rv n (rv n x) = x ∧ pop (rv n x) = pop x ∧ pop (2 ^ n + x) = pop x + 1 ∧ pop x ≤ n := by
  have h := ckA_all n hn x (p32 hn hx)
  unfold ckA at h
  simp only [hx, decide_true, Bool.not_true, Bool.false_or, Bool.and_eq_true, decide_eq_true_eq] at h
  exact ⟨h.1.1.1.1, h.1.1.1.2, h.1.1.2, h.1.2, h.2⟩
def ckB (n x k : Nat) : Bool := !(decide (x < 2 ^ n)) || ((!(decide (k < n)) || ((rv n x).testBit (n - 1 - k) == x.testBit k)) && (!(decide (k ≤ n)) || ((2 ^ n + x).testBit k == (decide (k = n) || x.testBit k))))
theorem ckB_all : ∀ n, n < 6 → ∀ x, x < 32 → ∀ k, k < 6 → ckB n x k = true := by decide +kernel
theorem rvB {n x k : Nat} (hn : n < 6) (hx : x < 2 ^ n) (hk : k < n) : (rv n x).testBit (n - 1 - k) = x.testBit k := by
  have h := ckB_all n hn x (p32 hn hx) k (by omega)
  unfold ckB at h
  simp only [hx, hk, decide_true, Bool.not_true, Bool.false_or, Bool.and_eq_true, beq_iff_eq] at h
  exact h.1
theorem tbT {n x k : Nat} (hn : n < 6) (hx : x < 2 ^ n) (hk : k ≤ n) : (2 ^ n + x).testBit k = (decide (k = n) || x.testBit k) := by
  have h := ckB_all n hn x (p32 hn hx) k (by omega)
  unfold ckB at h
  simp only [hx, hk, decide_true, Bool.not_true, Bool.false_or, Bool.and_eq_true, beq_iff_eq] at h
  exact h.2
def fsI (a b : Int32) : Int32 := a &&& ((a ^^^ b) &&& (-(a ^^^ b)))
def ckC (n x y : Nat) : Bool := !(decide (x < 2 ^ n) && decide (y < 2 ^ n)) || (decide (fsI (nI (2 ^ n + x)) (nI (2 ^ n + y)) = nI 0) == decide (¬ rv n y < rv n x))
theorem ckC_all : ∀ n, n < 6 → ∀ x, x < 32 → ∀ y, y < 32 → ckC n x y = true := by decide +kernel
theorem fsC {n x y : Nat} (hn : n < 6) (hx : x < 2 ^ n) (hy : y < 2 ^ n) : fsI (nI (2 ^ n + x)) (nI (2 ^ n + y)) = nI 0 ↔ ¬ rv n y < rv n x := by
  have h := ckC_all n hn x (p32 hn hx) y (p32 hn hy)
  unfold ckC at h
  simp only [hx, hy, decide_true, Bool.and_self, Bool.not_true, Bool.false_or, beq_iff_eq] at h
  exact decide_eq_decide.mp h
/-- where the round of a place ends -/
def ne (x : Nat) : Nat → Nat → Nat
  | k, 0 => k
  | k, d + 1 => if x.testBit k then k else ne x (k + 1) d
theorem ne_le (x : Nat) : ∀ d k, ne x k d ≤ k + d := by
  intro d
  induction d with
  | zero => intro k; exact Nat.le_refl _
  | succ d ih => intro k; rw [ne]; split; omega; have := ih (k + 1); omega
def mf (n x : Nat) (r : Nat → Nat) (a : Nat → Int) (k : Nat) : Int := ((ne x k (n - k) + 1 : Nat) : Int) * a (r k)
/-- cells paged, on average, times what is below -/
def mnF (n x : Nat) (r : Nat → Nat) (a : Nat → Int) : Int := isu (mf n x r a) 0 (n + 1)
def ism (f : Nat → Int) : Nat → Int
  | 0 => 0
  | m + 1 => ism f m + f m
theorem isu_snoc (f : Nat → Int) : ∀ d i, isu f i (d + 1) = isu f i d + f (i + d) := by
  intro d
  induction d with
  | zero => intro i; simp [isu]
  | succ d ih =>
    intro i
    rw [isu, ih (i + 1), isu, show i + 1 + d = i + (d + 1) by omega]
    omega
theorem ism_isu (f : Nat → Int) : ∀ m, ism f m = isu f 0 m := by
  intro m
  induction m with
  | zero => rfl
  | succ m ih => rw [ism, ih, isu_snoc, Nat.zero_add]
theorem mnF_bd {n x : Nat} {r : Nat → Nat} {a : Nat → Int} (hn : n < 6) (ha : ∀ j, j ≤ n → 0 ≤ a (r j) ∧ a (r j) ≤ 11136000000) : 0 ≤ mnF n x r a ∧ mnF n x r a ≤ 400896000000 := by
  have t := isu_bd (f := mf n x r a) (m := 66816000000) (n + 1) 0 (fun j _ hj => by
    have h1 := ha j (by omega)
    have h2 := ne_le x (n - j) j
    unfold mf
    have q1 : 0 ≤ ((ne x j (n - j) + 1 : Nat) : Int) * a (r j) := Int.mul_nonneg (by omega) (by omega)
    have q2 : ((ne x j (n - j) + 1 : Nat) : Int) * a (r j) ≤ 6 * 11136000000 := Int.mul_le_mul (by omega) (by omega) (by omega) (by omega)
    omega)
  unfold mnF
  omega
theorem lgl (x y : Int64) : lg_cmp x y < nI 0 ↔ x < y := by
  have h := lgc x y
  constructor
  · intro q
    by_cases c : x < y
    · exact c
    · have := h.mpr c
      rw [pn_ltT] at q
      rw [pn_leT] at this
      omega
  · intro q
    by_cases c : lg_cmp x y < nI 0
    · exact c
    · have : nI 0 ≤ lg_cmp x y := by rw [pn_leT]; rw [pn_ltT] at c; omega
      exact absurd q (h.mp this)
/-! the class: what a way to cut costs -/
theorem pX3_isCutBehind {M : rm_M} {n x k : Nat} (hn : n < 6) (hx : x < 2 ^ n) (h12 : M.1 12 1 = nI (n + 1)) (hk : k ≤ n) : fX3_isCutBehind (nI (rv n x)) (nI k) M = some (nI (if k < n ∧ x.testBit k = true then 1 else 0), M) := by
  have hr := p32 hn (rvA hn hx).1
  unfold fX3_isCutBehind
  rw [h12, pn_lit 1, pn_lit 2, pn_lit 0, pk_sub (by omega), Nat.add_sub_cancel]
  by_cases c : k < n
  · rw [if_neg (by rw [nI_leI (by omega) (by omega)]; omega), pk_sub (by omega), show n + 1 - 2 = n - 1 by omega, pk_sub (by omega), pX7_holds (by omega) (by omega), pn_bd, rvB hn hx c]
    by_cases e : x.testBit k = true
    · rw [if_pos e, if_neg z10, if_pos ⟨c, e⟩]; rfl
    · rw [if_neg e, if_pos rfl, if_neg (fun q => e q.2)]; rfl
  · rw [if_pos (by rw [nI_leI (by omega) (by omega)]; omega), if_neg (fun q => c q.1)]; rfl
theorem pX3_meanPaged {M : rm_M} {n x cs : Nat} {r : Nat → Nat} {a : Nat → Int} (hn : n < 6) (hx : x < 2 ^ n) (hcs : cs ≤ 6) (h12 : M.1 12 1 = nI (n + 1)) (h13 : ∀ j, j ≤ n → M.1 13 j = nI (r j)) (hr : ∀ j, j ≤ n → r j < cs) (h7 : ∀ c, c < cs → M.2.1 7 c = J (a c)) : fX3_meanPaged (nI (rv n x)) 7 M = some (J (mnF n x r a), M) := by
  have hF := pn_F
  have key : ∀ m f acc pv, m ≤ n + 1 → m < f → pv = (if m = n + 1 then n + 1 else ne x m (n - m) + 1) → fX3_meanPaged_L16 (nI (rv n x)) 7 f (J acc) (nI pv) (dx m) M = some (J (acc + ism (mf n x r a) m), M) := by
    intro m
    induction m with
    | zero =>
      intro f acc pv hm hf hp
      obtain ⟨f, rfl⟩ : ∃ z, f = z + 1 := ⟨f - 1, by omega⟩
      rw [fX3_meanPaged_L16, if_pos (by decide), ism, Int.add_zero]
    | succ m ih =>
      intro f acc pv hm hf hp
      obtain ⟨f, rfl⟩ : ∃ z, f = z + 1 := ⟨f - 1, by omega⟩
      have hne := ne_le x (n - m) m
      have fin : ∀ p2, p2 = ne x m (n - m) + 1 → fX3_meanPaged_L37 (nI (rv n x)) 7 (fX3_meanPaged_L16 (nI (rv n x)) 7 f) (J acc) (nI p2) (nI m) M = some (J (acc + ism (mf n x r a) (m + 1)), M) := by
        intro p2 e
        unfold fX3_meanPaged_L37
        rw [if_pos (by rw [pn_ib (by omega), decide_eq_true_eq]; omega), nI_clamp (by omega), h13 m (by omega), kd7, if_pos (by have := hr m (by omega); rw [pn_ib (by omega), decide_eq_true_eq]; omega), nI_clamp (by have := hr m (by omega); omega), h7 _ (hr m (by omega)), rm_lt1, nI_J (by omega), J_mul, J_add, show (-1 : Int32) = -nI 1 from rfl, dx_sub, ih f _ p2 (by omega) (by omega) (by rw [if_neg (by omega)]; exact e), ism, e]
        congr 2
        unfold mf
        rw [Int.add_assoc, Int.add_comm (((ne x m (n - m) + 1 : Nat) : Int) * a (r m))]
      rw [fX3_meanPaged_L16, show dx (m + 1) = nI m from rfl, if_neg (by rw [pn_lit 0, nI_ltI (by omega) (by omega)]; omega), pX3_isCutBehind hn hx h12 (by omega), pn_bd, pn_lit 0, pn_lit 1, rm_lt1, nI_add]
      by_cases c : m < n ∧ x.testBit m = true
      · rw [if_pos c, if_neg z10]
        refine fin _ ?_
        obtain ⟨d, hd⟩ : ∃ d, n - m = d + 1 := ⟨n - m - 1, by omega⟩
        rw [hd, ne, if_pos c.2]
      · rw [if_neg c, if_pos rfl]
        refine fin _ ?_
        rw [hp]
        by_cases e : m = n
        · subst e
          rw [if_pos rfl, Nat.sub_self, ne]
        · rw [if_neg (by omega)]
          obtain ⟨d, hd⟩ : ∃ d, n - m = d + 1 := ⟨n - m - 1, by omega⟩
          rw [hd, ne, if_neg (fun q => c ⟨by omega, q⟩), show n - (m + 1) = d by omega]
  unfold fX3_meanPaged
  rw [h12, rm_lt1, pn_lit 1, pk_sub (by omega), Nat.add_sub_cancel, rm_lt1, J_lit 0]
  have k := key (n + 1) rm_F ((0 : Nat) : Int) (n + 1) (Nat.le_refl _) (by omega) (by rw [if_pos rfl])
  rw [show dx (n + 1) = nI n from rfl] at k
  rw [k, ism_isu, show ((0 : Nat) : Int) = 0 from rfl, Int.zero_add]
  rfl
/-- of two ways to cut, one is ahead -/
def bt (f1 f2 : Int) (p1 p2 t1 t2 : Nat) : Prop := f1 < f2 ∨ (f1 = f2 ∧ (p1 < p2 ∨ (p1 = p2 ∧ t2 < t1)))
theorem Jm1 : (-1 : Int64) = J (-1) := rfl
theorem pX3_split {M : rm_M} {n cs mo : Nat} {r : Nat → Nat} {a : Nat → Int} (hn : n < 6) (hcs : cs ≤ 6) (hmo : 1 ≤ mo) (hmo2 : mo < 100) (h12 : M.1 12 1 = nI (n + 1)) (h13 : ∀ j, j ≤ n → M.1 13 j = nI (r j)) (hr : ∀ j, j ≤ n → r j < cs) (ha : ∀ c, c < cs → 0 ≤ a c ∧ a c ≤ 11136000000) (h7 : ∀ c, c < cs → M.2.1 7 c = J (a c)) :
    ∃ M2 b, fX3_split (nI mo) 7 M = some M2 ∧ b < 2 ^ n ∧ pop b + 1 ≤ mo ∧ M2.1 12 2 = nI b ∧ M2.1 12 3 = nI (pop b + 1) ∧ M2.1 12 1 = nI (n + 1) ∧ (∀ t, t < 2 ^ n → pop t + 1 ≤ mo → t = b ∨ bt (mnF n (rv n b) r a) (mnF n (rv n t) r a) (pop b + 1) (pop t + 1) b t) ∧ FR (fun q => q = 12) M M2 := by
  have hF := pn_F
  have hbd : ∀ x, 0 ≤ mnF n x r a ∧ mnF n x r a ≤ 400896000000 := fun x => mnF_bd hn (fun j hj => ha _ (hr j hj))
  have key : ∀ m f z M, m ≤ 2 ^ n → m < f → M.1 12 1 = nI (n + 1) → (∀ j, j ≤ n → M.1 13 j = nI (r j)) → (∀ c, c < cs → M.2.1 7 c = J (a c)) →
      ((z = -1 ∧ ∀ t, m ≤ t → t < 2 ^ n → ¬ pop t + 1 ≤ mo) ∨ ∃ b, m ≤ b ∧ b < 2 ^ n ∧ pop b + 1 ≤ mo ∧ M.1 12 2 = nI b ∧ M.1 12 3 = nI (pop b + 1) ∧ z = mnF n (rv n b) r a ∧ ∀ t, m ≤ t → t < 2 ^ n → pop t + 1 ≤ mo → t = b ∨ bt (mnF n (rv n b) r a) (mnF n (rv n t) r a) (pop b + 1) (pop t + 1) b t) →
      ∃ M2 b, fX3_split_L41 (nI mo) 7 f (J z) (dx m) M = some M2 ∧ b < 2 ^ n ∧ pop b + 1 ≤ mo ∧ M2.1 12 2 = nI b ∧ M2.1 12 3 = nI (pop b + 1) ∧ M2.1 12 1 = nI (n + 1) ∧ (∀ t, t < 2 ^ n → pop t + 1 ≤ mo → t = b ∨ bt (mnF n (rv n b) r a) (mnF n (rv n t) r a) (pop b + 1) (pop t + 1) b t) ∧ FR (fun q => q = 12) M M2 := by
    intro m
    induction m with
    | zero =>
      intro f z M hm hf h12 h13 h7 hst
      obtain ⟨f, rfl⟩ : ∃ z, f = z + 1 := ⟨f - 1, by omega⟩
      rcases hst with ⟨_, hno⟩ | ⟨b, _, b1, b2, b3, b4, b5, b6⟩
      · exact absurd (show pop 0 + 1 ≤ mo from hmo) (hno 0 (by omega) (Nat.two_pow_pos n))
      · refine ⟨M, b, ?_, b1, b2, b3, b4, h12, fun t ht hv => b6 t (by omega) ht hv, FR.rf⟩
        rw [fX3_split_L41, if_pos (by decide)]
    | succ m ih =>
      intro f z M hm hf h12 h13 h7 hst
      obtain ⟨f, rfl⟩ : ∃ z, f = z + 1 := ⟨f - 1, by omega⟩
      have hm32 := p32 hn (show m < 2 ^ n by omega)
      obtain ⟨v1, v2, v3, v4, v5⟩ := rvA hn (show m < 2 ^ n by omega)
      have hmean := pX3_meanPaged hn v1 hcs h12 h13 hr h7
      rw [v2] at hmean
      rw [fX3_split_L41, show dx (m + 1) = nI m from rfl, if_neg (by rw [pn_lit 0, nI_ltI (by omega) (by omega)]; omega), pJ6_bitCount (by omega), pn_bd, pn_lit 1, rm_lt1, nI_add]
      have skip : ((z = -1 ∧ ∀ t, m ≤ t → t < 2 ^ n → ¬ pop t + 1 ≤ mo) ∨ ∃ b, m ≤ b ∧ b < 2 ^ n ∧ pop b + 1 ≤ mo ∧ M.1 12 2 = nI b ∧ M.1 12 3 = nI (pop b + 1) ∧ z = mnF n (rv n b) r a ∧ ∀ t, m ≤ t → t < 2 ^ n → pop t + 1 ≤ mo → t = b ∨ bt (mnF n (rv n b) r a) (mnF n (rv n t) r a) (pop b + 1) (pop t + 1) b t) →
          ∃ M2 b, fX3_split_L127 (nI mo) 7 (fX3_split_L41 (nI mo) 7 f) (J z) (nI m) M = some M2 ∧ b < 2 ^ n ∧ pop b + 1 ≤ mo ∧ M2.1 12 2 = nI b ∧ M2.1 12 3 = nI (pop b + 1) ∧ M2.1 12 1 = nI (n + 1) ∧ (∀ t, t < 2 ^ n → pop t + 1 ≤ mo → t = b ∨ bt (mnF n (rv n b) r a) (mnF n (rv n t) r a) (pop b + 1) (pop t + 1) b t) ∧ FR (fun q => q = 12) M M2 := by
        intro h
        unfold fX3_split_L127
        rw [show (-1 : Int32) = -nI 1 from rfl, dx_sub]
        exact ih f z M (by omega) (by omega) h12 h13 h7 h
      have take : pop m + 1 ≤ mo → (∀ t, m ≤ t → t < 2 ^ n → pop t + 1 ≤ mo → t = m ∨ bt (mnF n (rv n m) r a) (mnF n (rv n t) r a) (pop m + 1) (pop t + 1) m t) →
          ∃ M2 b, fX3_split_L112 (nI mo) 7 (fX3_split_L41 (nI mo) 7 f) (nI m) (nI (pop m + 1)) (J (mnF n (rv n m) r a)) M = some M2 ∧ b < 2 ^ n ∧ pop b + 1 ≤ mo ∧ M2.1 12 2 = nI b ∧ M2.1 12 3 = nI (pop b + 1) ∧ M2.1 12 1 = nI (n + 1) ∧ (∀ t, t < 2 ^ n → pop t + 1 ≤ mo → t = b ∨ bt (mnF n (rv n b) r a) (mnF n (rv n t) r a) (pop b + 1) (pop t + 1) b t) ∧ FR (fun q => q = 12) M M2 := by
        intro hv hall
        unfold fX3_split_L112 fX3_split_L127
        rw [rm_lt1, rm_lt1, show (-1 : Int32) = -nI 1 from rfl, dx_sub]
        have r1 : FR (fun q => q = 12) M (rm_sI (rm_sI M 12 2 (nI m)) 12 3 (nI (pop m + 1))) := FR.sIr (FR.sIr FR.rf rfl) rfl
        obtain ⟨M2, b, g1, g2, g3, g4, g5, g6, g7, r2⟩ := ih f (mnF n (rv n m) r a) (rm_sI (rm_sI M 12 2 (nI m)) 12 3 (nI (pop m + 1))) (by omega) (by omega) (by simp (disch := omega) only [pn_sI_eq, pn_upd_ne]; exact h12) (fun j hj => by rw [(r1.1 13 (by omega)).1]; exact h13 j hj) (fun c hc => by rw [(r1.1 7 (by omega)).2]; exact h7 c hc) (Or.inr ⟨m, by omega, by omega, hv, by simp (disch := omega) only [pn_sI_eq, pn_upd_ne, pn_upd_eq], by simp (disch := omega) only [pn_sI_eq, pn_upd_eq], rfl, hall⟩)
        exact ⟨M2, b, g1, g2, g3, g4, g5, g6, g7, r1.tr r2⟩
      by_cases hv : pop m + 1 ≤ mo
      · have bm := hbd (rv n m)
        rw [if_neg (by rw [nI_ltI (by omega) (by omega)]; omega), hmean, pn_bd]
        unfold fX3_split_L74
        rw [J_lit 0, pn_lit 0, if_neg (by rw [lgl, J_lt (by omega) (by omega) (by omega) (by omega)]; omega)]
        rcases hst with ⟨hz, hno⟩ | ⟨b, b0, b1, b2, b3, b4, b5, b6⟩
        · rw [if_pos (by rw [lgl, J_lt (by omega) (by omega) (by omega) (by omega)]; omega)]
          exact take hv (fun t h1 h2 h3 => by
            by_cases e : t = m
            · exact Or.inl e
            · exact absurd h3 (hno t (by omega) h2))
        · have bb := hbd (rv n b)
          have hp := (rvA hn b1).2.2.2.2
          rw [if_neg (by rw [lgl, J_lt (by omega) (by omega) (by omega) (by omega)]; omega), b5, b4]
          by_cases c1 : mnF n (rv n m) r a < mnF n (rv n b) r a
          · rw [if_pos (by rw [lgl, J_lt (by omega) (by omega) (by omega) (by omega)]; exact c1)]
            refine take hv (fun t h1 h2 h3 => ?_)
            by_cases e : t = m
            · exact Or.inl e
            · right
              rcases b6 t (by omega) h2 h3 with e2 | e2
              · subst e2; exact Or.inl c1
              · unfold bt at *; omega
          · rw [if_neg (by rw [lgl, J_lt (by omega) (by omega) (by omega) (by omega)]; exact c1)]
            by_cases c2 : mnF n (rv n m) r a = mnF n (rv n b) r a
            · rw [if_pos (by rw [lgz, c2])]
              by_cases c3 : pop b ≤ pop m
              · rw [if_pos (by rw [nI_leI (by omega) (by omega)]; omega), ← b5]
                refine skip (Or.inr ⟨b, by omega, b1, b2, b3, b4, b5, fun t h1 h2 h3 => ?_⟩)
                by_cases e : t = m
                · subst e; right; unfold bt; omega
                · exact b6 t (by omega) h2 h3
              · rw [if_neg (by rw [nI_leI (by omega) (by omega)]; omega)]
                refine take hv (fun t h1 h2 h3 => ?_)
                by_cases e : t = m
                · exact Or.inl e
                · right
                  rcases b6 t (by omega) h2 h3 with e2 | e2
                  · subst e2; unfold bt; omega
                  · unfold bt at *; omega
            · rw [if_neg (by rw [lgz, J_inj (by omega) (by omega) (by omega) (by omega)]; exact c2), ← b5]
              refine skip (Or.inr ⟨b, by omega, b1, b2, b3, b4, b5, fun t h1 h2 h3 => ?_⟩)
              by_cases e : t = m
              · subst e; right; unfold bt; omega
              · exact b6 t (by omega) h2 h3
      · rw [if_pos (by rw [nI_ltI (by omega) (by omega)]; omega)]
        unfold fX3_split_L74
        rw [Jm1, J_lit 0, pn_lit 0, if_pos (by rw [lgl, J_lt (by omega) (by omega) (by omega) (by omega)]; omega)]
        rcases hst with ⟨hz, hno⟩ | ⟨b, b0, b1, b2, b3, b4, b5, b6⟩
        · exact skip (Or.inl ⟨hz, fun t h1 h2 => by
            by_cases e : t = m
            · subst e; exact hv
            · exact hno t (by omega) h2⟩)
        · exact skip (Or.inr ⟨b, by omega, b1, b2, b3, b4, b5, fun t h1 h2 h3 => by
            by_cases e : t = m
            · subst e; exact absurd h3 hv
            · exact b6 t (by omega) h2 h3⟩)
  unfold fX3_split fX3_split_L35
  have r1 : FR (fun q => q = 12) M (rm_sI (rm_sI M 12 3 (nI 0)) 12 2 (nI 0)) := FR.sIr (FR.sIr FR.rf rfl) rfl
  have e1 : (rm_sI (rm_sI M 12 3 (nI 0)) 12 2 (nI 0)).1 12 1 = nI (n + 1) := by simp (disch := omega) only [pn_sI_eq, pn_upd_ne]; exact h12
  have hp2 : 2 ^ n ≤ 32 := Nat.pow_le_pow_right (n := 2) (by decide) (show n ≤ 5 by omega)
  have hp1 := Nat.two_pow_pos n
  rw [rm_lt1, pn_lit 0, rm_lt1, e1, if_neg (by rw [nI_leI (by omega) (by omega)]; omega), pn_lit 1, pn_lit 31, pk_sub (by omega), Nat.add_sub_cancel, sh1 (by omega), pk_sub (by omega), Jm1]
  obtain ⟨M2, b, g1, g2, g3, g4, g5, g6, g7, r2⟩ := key (2 ^ n) rm_F (-1) (rm_sI (rm_sI M 12 3 (nI 0)) 12 2 (nI 0)) (Nat.le_refl _) (by omega) e1 (fun j hj => by rw [(r1.1 13 (by omega)).1]; exact h13 j hj) (fun c hc => by rw [(r1.1 7 (by omega)).2]; exact h7 c hc) (Or.inl ⟨rfl, fun t h1 h2 => by omega⟩)
  refine ⟨M2, b, ?_, g2, g3, g4, g5, g6, g7, r1.tr r2⟩
  rw [← g1]
  congr 1
  obtain ⟨k, hk⟩ : ∃ k, 2 ^ n = k + 1 := ⟨2 ^ n - 1, by omega⟩
  rw [hk]
  rfl
