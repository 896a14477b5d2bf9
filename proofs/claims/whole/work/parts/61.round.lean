/-! ===== round, page ===== -/
def pt (x k : Nat) : Nat := rs (fun c => if x.testBit c then 1 else 0) 0 k
def cS (n x : Nat) (r : Nat → Nat) (k : Nat) : Nat := ro (fun j => if pt x j = k then 2 ^ r j else 0) 0 (n + 1)
def ck (n x k : Nat) : Nat := rs (fun j => if pt x j = k then 1 else 0) 0 (n + 1)
theorem rs_snoc (f : Nat → Nat) : ∀ d i, rs f i (d + 1) = rs f i d + f (i + d) := by
  intro d
  induction d with
  | zero => intro i; simp [rs]
  | succ d ih =>
    intro i
    rw [rs, ih (i + 1), rs, show i + 1 + d = i + (d + 1) by omega]
    omega
theorem pt_s (x k : Nat) : pt x (k + 1) = pt x k + if x.testBit k then 1 else 0 := by
  unfold pt
  rw [rs_snoc, Nat.zero_add]
def anyB (f : Nat → Bool) : Nat → Bool
  | 0 => false
  | k + 1 => f k || anyB f k
theorem anyB_ex {f : Nat → Bool} : ∀ k, anyB f k = true → ∃ j, j < k ∧ f j = true := by
  intro k
  induction k with
  | zero => intro h; cases h
  | succ k ih =>
    intro h
    rw [anyB, Bool.or_eq_true] at h
    rcases h with h | h
    · exact ⟨k, by omega, h⟩
    · obtain ⟨j, a, b⟩ := ih h; exact ⟨j, by omega, b⟩
def ckD (n x k : Nat) : Bool := !(decide (x < 2 ^ n)) || ((!(decide (k ≤ pop x)) || anyB (fun j => decide (pt x j = k)) (n + 1)) && (!(decide (k ≤ n)) || (decide (pt x k ≤ pop x) && decide (rs (ck n x) 0 (pt x k + 1) = ne x k (n - k) + 1))))
theorem ckD_all : ∀ n, n < 6 → ∀ x, x < 32 → ∀ k, k < 6 → ckD n x k = true := by decide +kernel
theorem ptA {n x k : Nat} (hn : n < 6) (hx : x < 2 ^ n) (hk : k ≤ pop x) : ∃ j, j < n + 1 ∧ pt x j = k := by
  have hp := (rvA hn hx).2.2.2.2
  have h := ckD_all n hn x (p32 hn hx) k (by omega)
  unfold ckD at h
  simp only [hx, hk, decide_true, Bool.not_true, Bool.false_or, Bool.and_eq_true] at h
  obtain ⟨j, a, b⟩ := anyB_ex _ h.1
  exact ⟨j, a, of_decide_eq_true b⟩
theorem ptB {n x k : Nat} (hn : n < 6) (hx : x < 2 ^ n) (hk : k ≤ n) : pt x k ≤ pop x ∧ rs (ck n x) 0 (pt x k + 1) = ne x k (n - k) + 1 := by
  have h := ckD_all n hn x (p32 hn hx) k (by omega)
  unfold ckD at h
  simp only [hx, hk, decide_true, Bool.not_true, Bool.false_or, Bool.and_eq_true, decide_eq_true_eq] at h
  exact h.2
theorem popOr : ∀ A, A < 64 → ∀ b, b < 6 → A.testBit b = false → pop (A ||| 2 ^ b) = pop A + 1 ∧ A ||| 2 ^ b < 64 := by decide +kernel
theorem pop_cS {r : Nat → Nat} {x k : Nat} : ∀ d i A, A < 64 → (∀ j, i ≤ j → j < i + d → r j < 6 ∧ A.testBit (r j) = false) → (∀ j l, i ≤ j → j < i + d → i ≤ l → l < i + d → r j = r l → j = l) → pop (A ||| ro (fun j => if pt x j = k then 2 ^ r j else 0) i d) = pop A + rs (fun j => if pt x j = k then 1 else 0) i d ∧ A ||| ro (fun j => if pt x j = k then 2 ^ r j else 0) i d < 64 := by
  intro d
  induction d with
  | zero => intro i A hA h1 h2; rw [ro, rs, Nat.or_zero]; exact ⟨rfl, hA⟩
  | succ d ih =>
    intro i A hA h1 h2
    rw [ro, rs]
    by_cases c : pt x i = k
    · rw [if_pos c, if_pos c, ← Nat.or_assoc]
      obtain ⟨p1, p2⟩ := popOr A hA (r i) (h1 i (by omega) (by omega)).1 (h1 i (by omega) (by omega)).2
      obtain ⟨q1, q2⟩ := ih (i + 1) (A ||| 2 ^ r i) p2 (fun j hj hj2 => by
        have := h1 j (by omega) (by omega)
        refine ⟨this.1, ?_⟩
        rw [Nat.testBit_or, this.2, Bool.false_or, Nat.testBit_two_pow]
        refine decide_eq_false (fun q => ?_)
        have := h2 i j (by omega) (by omega) (by omega) (by omega) q
        omega) (fun j l a b c d e => h2 j l (by omega) (by omega) (by omega) (by omega) e)
      rw [q1, p1]
      exact ⟨by omega, q2⟩
    · rw [if_neg c, if_neg c, Nat.zero_or, Nat.zero_add]
      exact ih (i + 1) A hA (fun j hj hj2 => h1 j (by omega) (by omega)) (fun j l a b c d e => h2 j l (by omega) (by omega) (by omega) (by omega) e)
theorem cS_pop {n x : Nat} {r : Nat → Nat} (k : Nat) (h1 : ∀ j, j ≤ n → r j < 6) (h2 : ∀ j l, j ≤ n → l ≤ n → r j = r l → j = l) : pop (cS n x r k) = ck n x k ∧ cS n x r k < 64 := by
  have h := pop_cS (r := r) (x := x) (k := k) (n + 1) 0 0 (by omega) (fun j _ hj => ⟨h1 j (by omega), Nat.zero_testBit _⟩) (fun j l _ hj _ hl e => h2 j l (by omega) (by omega) e)
  rw [Nat.zero_or] at h
  refine ⟨?_, h.2⟩
  have h3 := h.1
  rw [show pop 0 = 0 from rfl, Nat.zero_add] at h3
  exact h3
theorem cS_bit {n x : Nat} {r : Nat → Nat} {k c : Nat} : (cS n x r k).testBit c = true ↔ ∃ j, j ≤ n ∧ pt x j = k ∧ r j = c := by
  unfold cS
  rw [ro_bit]
  constructor
  · rintro ⟨j, _, h1, h2⟩
    rw [if_bit, pow_bit] at h2
    exact ⟨j, by omega, h2.1, h2.2.symm⟩
  · rintro ⟨j, h1, h2, h3⟩
    exact ⟨j, by omega, by omega, by rw [if_bit, pow_bit]; exact ⟨h2, h3.symm⟩⟩
/-- a row that is cut, in the class -/
def CR (M : rm_M) (n y : Nat) (r : Nat → Nat) : Prop := M.1 12 1 = nI (n + 1) ∧ M.1 12 2 = nI (rv n y) ∧ M.1 12 3 = nI (pop y + 1) ∧ ∀ j, j ≤ n → M.1 13 j = nI (r j)
def MR (M : rm_M) (n y : Nat) (r : Nat → Nat) : Prop := M.1 79 23 = nI (n + 1) ∧ M.1 79 24 = nI (2 ^ n + y) ∧ ∀ j, j ≤ n → M.1 94 j = nI (r j)
def RowS (cs n y : Nat) (r : Nat → Nat) (c : Nat) : Prop := n < 6 ∧ y < 2 ^ n ∧ (∀ j, j ≤ n → r j < cs) ∧ (∀ j l, j ≤ n → l ≤ n → r j = r l → j = l) ∧ ∃ p, p ≤ n ∧ r p = c
theorem pX3_cellsOf {M : rm_M} {cs n y c k : Nat} {r : Nat → Nat} (hcs : cs ≤ 6) (hR : RowS cs n y r c) (hC : CR M n y r) (hk : k < 2 ^ 31) : fX3_cellsOf (nI k) M = some (nI (cS n y r k), M) := by
  have hF := pn_F
  obtain ⟨hn, hy, h1, h2, h3⟩ := hR
  obtain ⟨d1, d2, d3, d4⟩ := hC
  have hpt : ∀ j, j ≤ n → pt y j ≤ 5 := fun j hj => by have := (ptB hn hy hj).1; have := (rvA hn hy).2.2.2.2; omega
  have key : ∀ d f i acc p, i + d = n + 1 → d < f → (i ≤ n → p = pt y i) → p < 10 → fX3_cellsOf_L7 (nI k) f (nI acc) (nI p) (nI i) M = some (nI (acc ||| ro (fun j => if pt y j = k then 2 ^ r j else 0) i d), M) := by
    intro d
    induction d with
    | zero =>
      intro f i acc p hi hf hp hp9
      obtain ⟨f, rfl⟩ : ∃ z, f = z + 1 := ⟨f - 1, by omega⟩
      rw [fX3_cellsOf_L7, d1, if_pos (by rw [nI_leI (by omega) (by omega)]; omega), ro, Nat.or_zero]
    | succ d ih =>
      intro f i acc p hi hf hp hp9
      obtain ⟨f, rfl⟩ : ∃ z, f = z + 1 := ⟨f - 1, by omega⟩
      have hpi := hp (by omega)
      have hri := h1 i (by omega)
      have go : ∀ acc2, fX3_cellsOf_L33 (nI k) (fX3_cellsOf_L7 (nI k) f) (nI acc2) (nI p) (nI i) M = some (nI (acc2 ||| ro (fun j => if pt y j = k then 2 ^ r j else 0) (i + 1) d), M) := by
        intro acc2
        unfold fX3_cellsOf_L33 fX3_cellsOf_L49
        rw [d2, pX3_isCutBehind hn hy d1 (by omega), pn_bd, pn_lit 0, pn_lit 1, nI_add, nI_add]
        by_cases c : i < n ∧ y.testBit i = true
        · rw [if_pos c, if_neg z10]
          exact ih f (i + 1) acc2 (p + 1) (by omega) (by omega) (fun _ => by rw [pt_s, if_pos c.2, hpi]) (by have := hpt i (by omega); omega)
        · rw [if_neg c, if_pos rfl]
          exact ih f (i + 1) acc2 p (by omega) (by omega) (fun q => by rw [pt_s, if_neg (fun z => c ⟨by omega, z⟩), hpi]; rfl) hp9
      rw [fX3_cellsOf_L7, d1, if_neg (by rw [nI_leI (by omega) (by omega)]; omega), nI_clamp (by omega), d4 i (by omega), pn_lit 1, pn_lit 31, sh1 (by omega), pn_or, rm_lt1, go, go, ro]
      by_cases c : p = k
      · rw [if_pos (by rw [c]), if_pos (by rw [pn_ib (by omega), decide_eq_true_eq]; omega), if_pos (by omega), Nat.or_assoc]
      · rw [if_neg (by rw [nI_eq (by omega) (by omega)]; exact c), if_neg (by omega), Nat.zero_or]
  unfold fX3_cellsOf
  rw [pn_lit 0, key (n + 1) rm_F 0 0 0 (by omega) (by omega) (fun _ => rfl) (by omega), Nat.zero_or]
  rfl
theorem pX8_round_L30 {M : rm_M} {cs n y c k : Nat} {r : Nat → Nat} (hcs : cs ≤ 6) (hR : RowS cs n y r c) (hC : MR M n y r) (hk : k < 2 ^ 31) : fX8_round_L30 (nI k) rm_F (nI 0) (nI 0) (nI 0) M = some (if cS n y r k = 0 then -nI 4 else nI (cS n y r k), M) := by
  have hF := pn_F
  obtain ⟨hn, hy, h1, h2, h3⟩ := hR
  obtain ⟨d1, d2, d4⟩ := hC
  have hpt : ∀ j, j ≤ n → pt y j ≤ 5 := fun j hj => by have := (ptB hn hy hj).1; have := (rvA hn hy).2.2.2.2; omega
  have h64 := p64 hn hy
  have hrlt : ∀ d i, (∀ j, i ≤ j → j < i + d → j ≤ n) → ro (fun j => if pt y j = k then 2 ^ r j else 0) i d < 2 ^ 6 := fun d i hh => ro_lt _ _ _ _ (fun j a b => by
    split
    · exact pw_lt (by have := h1 j (hh j a b); omega)
    · omega)
  have key : ∀ d f i acc p, i + d = n + 1 → d < f → (i ≤ n → p = pt y i) → p < 10 → acc < 64 → fX8_round_L30 (nI k) f (nI p) (nI acc) (nI i) M = some (if acc ||| ro (fun j => if pt y j = k then 2 ^ r j else 0) i d = 0 then -nI 4 else nI (acc ||| ro (fun j => if pt y j = k then 2 ^ r j else 0) i d), M) := by
    intro d
    induction d with
    | zero =>
      intro f i acc p hi hf hp hp9 ha
      obtain ⟨f, rfl⟩ : ∃ z, f = z + 1 := ⟨f - 1, by omega⟩
      rw [fX8_round_L30, d1, if_pos (by rw [nI_leI (by omega) (by omega)]; omega), ro, Nat.or_zero, pn_lit 0]
      by_cases c : acc = 0
      · rw [if_pos (by rw [c]), if_pos c]; rfl
      · rw [if_neg (by rw [nI_eq (by omega) (by omega)]; exact c), if_neg c]
    | succ d ih =>
      intro f i acc p hi hf hp hp9 ha
      obtain ⟨f, rfl⟩ : ∃ z, f = z + 1 := ⟨f - 1, by omega⟩
      have hpi := hp (by omega)
      have hri := h1 i (by omega)
      have hpti := hpt i (by omega)
      have go : ∀ b, acc ||| b < 64 → fX8_round_L58 (nI k) (fX8_round_L30 (nI k) f) (nI p) (nI i) (nI acc) (nI b) M = some (if (acc ||| b) ||| ro (fun j => if pt y j = k then 2 ^ r j else 0) (i + 1) d = 0 then -nI 4 else nI ((acc ||| b) ||| ro (fun j => if pt y j = k then 2 ^ r j else 0) (i + 1) d), M) := by
        intro b hb
        unfold fX8_round_L58
        rw [rm_lt1, rm_lt1, pn_or, d2, pn_lit 1, pn_lit 31, pn_tb (by omega) (by omega), tbT hn hy (by omega), nI_add, nI_add]
        refine ih f (i + 1) (acc ||| b) _ (by omega) (by omega) (fun q => ?_) (by split <;> omega) hb
        rw [decide_eq_false (by omega), Bool.false_or, pt_s, hpi]
      rw [fX8_round_L30, d1, if_neg (by rw [nI_leI (by omega) (by omega)]; omega), nI_clamp (by omega), d4 i (by omega), pn_lit 1, pn_lit 31, sh1 (by omega), pn_lit 0, ro]
      by_cases c : p = k
      · have hb : acc ||| 2 ^ r i < 64 := Nat.or_lt_two_pow (n := 6) ha (pw_lt (by omega))
        rw [if_pos (by rw [c]), if_pos (by rw [pn_ib (by omega), decide_eq_true_eq]; omega), if_pos (show pt y i = k by omega), go _ hb, Nat.or_assoc]
      · rw [if_neg (by rw [nI_eq (by omega) (by omega)]; exact c), if_neg (show ¬ pt y i = k by omega), go 0 (by rw [Nat.or_zero]; exact ha), Nat.or_zero, Nat.zero_or]
  rw [key (n + 1) rm_F 0 0 0 (by omega) (by omega) (fun _ => rfl) (by omega) (by omega), Nat.zero_or]
  rfl
theorem seek2 {t : Nat} {M : rm_M} {n0 s tl : Nat} {tx : Nat → Nat} {cs jn : Nat} {w : Nat → Nat → Nat} {pr v : Nat → Nat} {hc nx : Nat} {hv : Nat → Nat → Nat} (hCI : CI M n0 s tl tx cs jn w pr v hc nx hv) (hMI : MI M tl tx cs jn w pr v hc hv) (hA : AI t tl tx cs w pr v hc hv) (ht : t < 1000) :
    ∃ n y r M1, fX7_seek M = some M1 ∧ RowS cs n y r (v 14) ∧ CR M1 n y r ∧ CI M1 n0 s tl tx cs jn w pr v hc nx hv ∧ FR (fun q => 11 ≤ q ∧ q < 14) M M1 ∧ ∀ M', MI M' tl tx cs jn w pr v hc hv → ∃ M2, fX8_splits M' = some M2 ∧ MR M2 n y r ∧ MI M2 tl tx cs jn w pr v hc hv ∧ FR (fun q => q = 79 ∨ 85 ≤ q) M' M2 := by
  have hn := hCI.1.1
  have hs := hCI.1.2.1
  have kn := pn_net hn
  have ks := pn_sta (s := s) (by omega)
  have hW := hA.2.2.1
  have h2 := hW.2.1
  have hG := hA.2.2.2.2.2.2.1
  have g17 := hG.2.2.1
  have hv9 : ∀ c, c < 6 → v c ≤ 9 := fun c hc => (hG.1.2.1 c hc).1
  have b15 := hG.1.2.2.2.2.2.2
  obtain ⟨M1, f1, r1⟩ := pX6_find hW hG.1 hs hn (by omega) hCI.2.2.2.1 hCI.2.2.1.1.1 hCI.2.2.1.2.2.1 hCI.2.2.1.2.2.2.1
  have hC1 := hCI.fr h2 r1 (fun a ha => by unfold scr; omega)
  have hab : ∀ c, c < cs → 0 ≤ aI cs w v c ∧ aI cs w v c < 2 ^ 62 := fun c hc => by have := aI_bd hW hv9 hc; omega
  obtain ⟨M2, f2, g1, g2, r2⟩ := pX3_lineUp hab h2 (whr_lt (w := w) b15) (fun c hc => hC1.2.2.2.2.2.1 c hc)
  have hC2 := hC1.fr h2 r2 (fun a ha => by unfold scr; omega)
  have hok := lin_ok (aI cs w v) (whr cs w v) cs 0 0 (fun _ => 0) ⟨by omega, fun j hj => by omega, fun j k hj => by omega, fun c hc => by omega⟩
  rw [Nat.zero_add] at hok
  obtain ⟨o1, o2, o3, o4⟩ := hok
  obtain ⟨p, hp1, hp2⟩ := o4 (v 14) hG.1.2.2.2.2.2.1 (whr_cell hG.2.2.2.2.2)
  obtain ⟨n, hL⟩ : ∃ n, (lin (aI cs w v) (whr cs w v) cs 0 0 (fun _ => 0)).1 = n + 1 := ⟨(lin (aI cs w v) (whr cs w v) cs 0 0 (fun _ => 0)).1 - 1, by omega⟩
  obtain ⟨r, hrr⟩ : ∃ r, (lin (aI cs w v) (whr cs w v) cs 0 0 (fun _ => 0)).2 = r := ⟨_, rfl⟩
  rw [hL] at g1 g2 o1 o2 o3 hp1
  rw [hrr] at g2 o2 o3 hp2
  have hn6 : n < 6 := by omega
  have hr : ∀ j, j ≤ n → r j < cs := fun j hj => (o2 j (by omega)).1
  have hpr := hA.2.2.2.2.1
  have hpr2 := hA.2.2.2.2.2.1
  obtain ⟨M3, b, f3, c1, c2, c3, c4, c5, c6, r3⟩ := pX3_split (mo := pr 0) hn6 h2 hpr (by omega) g1 (fun j hj => g2 j (by omega)) hr (fun c hc => by have := aI_bd hW hv9 hc; omega) (fun c hc => hC2.2.2.2.2.2.1 c hc)
  have hC3 := hC2.fr h2 r3 (fun a ha => by unfold scr; omega)
  have hsp : ∀ M', MI M' tl tx cs jn w pr v hc hv → ∃ M2 y, fX8_splits M' = some M2 ∧ y < 2 ^ n ∧ b = rv n y ∧ MR M2 n y r ∧ MI M2 tl tx cs jn w pr v hc hv ∧ FR (fun q => q = 79 ∨ 85 ≤ q) M' M2 := by
    intro M' hM'
    obtain ⟨M4, y, f4, e1, e2, e3, e4, e5, e6, e7, r4⟩ := pX8_splits hW hG.1 (by omega) hM'.2.2.1 hM'.2.2.2.2.2.1 hM'.2.2.2.2.1 hpr hpr2 hn6 hL hrr hr
    refine ⟨M4, y, f4, e1, bt_eq (F := fun x => mnF n x r (aI cs w v)) hn6 c1 e1 c2 e2 c6 e7, ⟨e4, e3, e5⟩, ?_, r4⟩
    exact hM'.fr r4 (fun a ha => by omega) (fun k hk => e6 k (by omega) (by omega))
  obtain ⟨_, y, _, ey1, ey2, _, _, _⟩ := hsp M hMI
  have hpy := (rvA hn6 ey1).2.2.1
  refine ⟨n, y, r, M3, ?_, ⟨hn6, ey1, hr, fun j l hj hl e => o3 j l (by omega) (by omega) e, p, by omega, hp2⟩, ⟨c5, by rw [c3, ey2], by rw [c4, ey2, hpy], fun j hj => by rw [(r3.1 13 (by omega)).1]; exact g2 j (by omega)⟩, hC3, (r1.mono (fun a ha => by omega)).tr ((r2.mono (fun a ha => by omega)).tr (r3.mono (fun a ha => by omega))), fun M' hM' => ?_⟩
  · unfold fX7_seek
    rw [rm_lt1, hCI.1.2.2.1, if_pos kn, rm_lt1, hCI.1.2.2.2.1, if_pos ks, f1, pn_bd, f2, pn_bv, rm_lt1, hC2.1.2.2.1, if_pos kn, show M2.1 n0 2 = nI (pr 0) from hC2.2.2.1.2.2.2.2.2 0 (by omega), f3, pn_bv]
  · obtain ⟨M4, y4, f4, a1, a2, a3, a4, a5⟩ := hsp M' hM'
    have : y4 = y := by
      have h3 : rv n (rv n y4) = rv n (rv n y) := by rw [← a2, ← ey2]
      rw [(rvA hn6 a1).2.1, (rvA hn6 ey1).2.1] at h3
      exact h3
    subst this
    exact ⟨M4, f4, a3, a4, a5⟩
theorem op_round {t : Nat} {M : rm_M} (h : Inv t M) (ht : t < 1000) (a : Int32) : ∃ r M1 M2, fX7_round a M = some (r, M1) ∧ fX8_round a M1 = some (r, M2) ∧ Inv (t + 1) M2 := by
  have h0 := h.ro FR.rf (fun a (ha : False) => ha.elim)
  obtain ⟨n0, s, tl, tx, cs, jn, w, pr, v, hc, nx, hv, hC, hM, hA⟩ := h
  have h2 := hA.2.2.1.2.1
  unfold fX7_round fX8_round
  by_cases c0 : (-1 : Int32) ≤ a
  · rw [if_pos c0]
    obtain ⟨n, y, r, M1, f1, hR, hCR, hC1, r1, hsp⟩ := seek2 hC hM hA ht
    have hM1 := hM.fr2 r1 (fun a ha => by omega)
    obtain ⟨M2, f2, hMR, hM2, r2⟩ := hsp M1 hM1
    have hI : Inv (t + 1) M2 := Inv.mk hC1 hM2 hA.up (r2.mono (fun a ha => by omega))
    have hR2 := hR
    obtain ⟨hn6, hy, hr, hinj, p, hp1, hp2⟩ := hR
    obtain ⟨u1, u2, u3, u4, u5⟩ := rvA hn6 hy
    rw [f1, pn_bv]
    by_cases c1 : a = (-1 : Int32)
    · rw [if_pos c1, hCR.2.2.1]
      refine ⟨_, M1, M2, rfl, ?_, hI⟩
      rw [if_pos c0, f2, pn_bv, if_neg (by rw [c1]; decide), hMR.2.1, pX8_bits (p64 hn6 hy), pn_bd, u4]
    · rw [if_neg c1, hCR.2.2.1]
      have hge : (0 : Int32) ≤ a := by
        rw [pn_leT] at c0 ⊢
        have e1 : (-1 : Int32).toInt = -1 := rfl
        have e0 : (0 : Int32).toInt = 0 := rfl
        rw [e1] at c0
        rw [e0]
        have : a.toInt ≠ -1 := fun q => c1 (Int32.toInt_inj.1 (by rw [q, e1]))
        omega
      obtain ⟨k, hk, rfl⟩ : ∃ k, k < 2 ^ 31 ∧ a = nI k := by
        rw [pn_leT] at hge
        have e0 : (0 : Int32).toInt = 0 := rfl
        rw [e0] at hge
        have hb := Int32.toInt_lt a
        refine ⟨a.toInt.toNat, by omega, ?_⟩
        apply Int32.toInt_inj.1
        rw [nI_toInt (by omega)]
        omega
      have hx := pX8_round_L30 h2 hR2 hMR hk
      have hcp := cS_pop (x := y) (r := r) k (fun j hj => by have := hr j hj; omega) hinj
      by_cases c2 : pop y + 1 ≤ k
      · rw [if_pos (by rw [nI_leI (by omega) hk]; exact c2)]
        refine ⟨_, M1, M2, rfl, ?_, hI⟩
        have hz : cS n y r k = 0 := by
          apply Nat.eq_of_testBit_eq
          intro i
          rw [Nat.zero_testBit]
          apply Bool.eq_false_iff.mpr
          intro q
          obtain ⟨j, q1, q2, q3⟩ := cS_bit.mp q
          have := (ptB hn6 hy q1).1
          omega
        rw [if_pos c0, f2, pn_bv, if_pos hge, pn_lit 0, hx, if_pos hz]
        rfl
      · rw [if_neg (by rw [nI_leI (by omega) hk]; exact c2), pX3_cellsOf h2 hR2 hCR hk, pn_bd]
        refine ⟨_, M1, M2, rfl, ?_, hI⟩
        have hz : ¬ cS n y r k = 0 := by
          intro q
          obtain ⟨j, j1, j2⟩ := ptA hn6 hy (show k ≤ pop y by omega)
          have : (cS n y r k).testBit (r j) = true := cS_bit.mpr ⟨j, by omega, j2, rfl⟩
          rw [q, Nat.zero_testBit] at this
          cases this
        rw [if_pos c0, f2, pn_bv, if_pos hge, pn_lit 0, hx, if_neg hz]
  · rw [if_neg c0]
    refine ⟨_, M, M, rfl, ?_, h0⟩
    rw [if_neg c0]
theorem pX7_page_L8 {cs n y : Nat} {r : Nat → Nat} {s c p : Nat} (hcs : cs ≤ 6) (hR : RowS cs n y r c) (hp : p ≤ n) (hpc : r p = c) (hs : s = 55 ∨ s = 58) {M : rm_M} (hC : CR M n y r) (h7 : M.2.2 7 = s) (h4 : M.1 s 4 = nI c) : ∀ d f k, k + d = pt y p → d < f → fX7_page_L8 f (nI (rs (ck n y) 0 k)) (nI k) M = fX7_page_L58 (nI (rs (ck n y) 0 (pt y p + 1))) M := by
  have ks := pn_sta (s := s) (by omega)
  have hR2 := hR
  obtain ⟨hn6, hy, hr, hinj, _⟩ := hR
  obtain ⟨u1, u2, u3, u4, u5⟩ := rvA hn6 hy
  have hpt := (ptB hn6 hy hp).1
  have hrp := hr p hp
  intro d
  induction d with
  | zero =>
    intro f k hk hf
    obtain ⟨f, rfl⟩ : ∃ z, f = z + 1 := ⟨f - 1, by omega⟩
    have hcp := cS_pop (x := y) (r := r) k (fun j hj => by have := hr j hj; omega) hinj
    rw [fX7_page_L8, hC.2.2.1, if_neg (by rw [nI_leI (by omega) (by omega)]; omega), pX3_cellsOf hcs hR2 hC (by omega), pn_bd, pJ6_bitCount hcp.2, pn_bd, rm_lt1, nI_add, rm_lt1, h7, if_pos ks, h4, pX7_holds (by omega) (by omega), pn_bd, if_pos (cS_bit.mpr ⟨p, hp, by omega, hpc⟩), pn_lit 0, if_neg z10, hcp.1, ← hk, Nat.add_zero, rs_snoc, Nat.zero_add]
  | succ d ih =>
    intro f k hk hf
    obtain ⟨f, rfl⟩ : ∃ z, f = z + 1 := ⟨f - 1, by omega⟩
    have hcp := cS_pop (x := y) (r := r) k (fun j hj => by have := hr j hj; omega) hinj
    have hno : ¬ (cS n y r k).testBit c = true := by
      intro q
      obtain ⟨j, q1, q2, q3⟩ := cS_bit.mp q
      have := hinj j p q1 hp (by omega)
      subst this
      omega
    rw [fX7_page_L8, hC.2.2.1, if_neg (by rw [nI_leI (by omega) (by omega)]; omega), pX3_cellsOf hcs hR2 hC (by omega), pn_bd, pJ6_bitCount hcp.2, pn_bd, rm_lt1, nI_add, rm_lt1, h7, if_pos ks, h4, pX7_holds (by omega) (by omega), pn_bd, if_neg hno, pn_lit 0, if_pos rfl, hcp.1, pn_lit 1, nI_add]
    have h3 := ih f (k + 1) (by omega) (by omega)
    rw [rs_snoc, Nat.zero_add] at h3
    exact h3
theorem pX8_page_L28 {n y : Nat} (hn : n < 6) (hy : y < 2 ^ n) {M : rm_M} (h24 : M.1 79 24 = nI (2 ^ n + y)) : ∀ d f k, k + d = n → d < f → ∃ e, e = ne y k d ∧ fX8_page_L28 f (nI k) M = (rm_bv (fX8_keeps M) (fun (M3 : rm_M) => (rm_bv (fX8_registers 83 (rm_sI M3 83 19 ((M3.1 83 19) + nI (e + 1)))) (fun (M8 : rm_M) => some (nI (e + 1), M8))))) := by
  have h64 := p64 hn hy
  have fin : ∀ k f, k < 6 → (2 ^ n + y).testBit k = true → fX8_page_L28 (f + 1) (nI k) M = (rm_bv (fX8_keeps M) (fun (M3 : rm_M) => (rm_bv (fX8_registers 83 (rm_sI M3 83 19 ((M3.1 83 19) + nI (k + 1)))) (fun (M8 : rm_M) => some (nI (k + 1), M8))))) := by
    intro k f hk hb
    rw [fX8_page_L28, h24, pn_lit 1, pn_lit 31, pn_lit 0, pn_lit 19, pn_tb (by omega) (by omega), if_pos hb, if_neg z10, nI_add, nI_clamp (by omega)]
    rfl
  intro d
  induction d with
  | zero =>
    intro f k hk hf
    obtain ⟨f, rfl⟩ : ∃ z, f = z + 1 := ⟨f - 1, by omega⟩
    refine ⟨k, rfl, fin k f (by omega) ?_⟩
    rw [tbT hn hy (by omega), decide_eq_true (show k = n by omega), Bool.true_or]
  | succ d ih =>
    intro f k hk hf
    obtain ⟨f, rfl⟩ : ∃ z, f = z + 1 := ⟨f - 1, by omega⟩
    by_cases c : y.testBit k = true
    · refine ⟨k, ?_, fin k f (by omega) ?_⟩
      · rw [ne, if_pos c]
      · rw [tbT hn hy (by omega), c, Bool.or_true]
    · obtain ⟨e, e1, e2⟩ := ih f (k + 1) (by omega) (by omega)
      refine ⟨e, ?_, ?_⟩
      · rw [ne, if_neg c]; exact e1
      · rw [fX8_page_L28, h24, pn_lit 1, pn_lit 31, pn_lit 0, pn_tb (by omega) (by omega), tbT hn hy (by omega), decide_eq_false (show ¬ k = n by omega), Bool.false_or, if_neg c, if_pos rfl, nI_add, e2]
theorem op_page {t : Nat} {M : rm_M} (h : Inv t M) (ht : t < 1000) : ∃ r M1 M2, fX7_page M = some (r, M1) ∧ fX8_page M1 = some (r, M2) ∧ Inv (t + 1) M2 := by
  have hF := pn_F
  obtain ⟨n0, s, tl, tx, cs, jn, w, pr, v, hc, nx, hv, hC, hM, hA⟩ := h
  have h2 := hA.2.2.1.2.1
  have hs := hC.1.2.1
  have ks := pn_sta (s := s) (by omega)
  have hG := hA.2.2.2.2.2.2.1
  have hh := hC.2.2.2.2.1.2.2.1
  obtain ⟨n, y, r, M1, f1, hR, hCR, hC1, r1, hsp⟩ := seek2 hC hM hA ht
  have hR2 := hR
  obtain ⟨hn6, hy, hr, hinj, p, hp1, hp2⟩ := hR
  obtain ⟨u1, u2, u3, u4, u5⟩ := rvA hn6 hy
  have hpt := ptB hn6 hy hp1
  have hne := ne_le y (n - p) p
  have h4 : M1.1 s 4 = nI (v 14) := hC1.2.2.2.1.2.2 4 (by omega) (by omega)
  have L8 := pX7_page_L8 h2 hR2 hp1 hp2 hs hCR hC1.1.2.2.2.1 h4 (pt y p) rm_F 0 (by omega) (by omega)
  rw [hpt.2] at L8
  obtain ⟨M2, nx2, f2, z2, r2⟩ := hC1.keep h2
  have e9 : M2.1 s 9 = nI (v 19) := z2.2.2.2.1.2.2 9 (by omega) (by omega)
  have z3 := z2.st (u := vu v 19 (v 19 + (ne y p (n - p) + 1))) h2 (FR.sIr FR.rf (Or.inl rfl)) (z2.2.2.2.1.put (j := 9) (v 19 + (ne y p (n - p) + 1)) (by omega) (by omega)) (fun c hc => by rw [vu_ne _ _ (by omega)])
  obtain ⟨M4, f4, z4, r4⟩ := z3.reg h2
  have r14 : FR (fun q => q < 79) M M4 := (r1.mono (fun a ha => by omega)).tr (r2.tr (FR.tr (FR.sIr FR.rf (by omega)) r4))
  have hM4 := hM.fr2 r14 (fun a ha => by omega)
  obtain ⟨M5, f5, hMR, hM5, r5⟩ := hsp M4 hM4
  obtain ⟨M6, f6, y6, r6⟩ := hM5.keep hh
  have e19 : M6.1 83 19 = nI (v 19) := y6.2.2.2.2.2.1 19 (by omega)
  have y7 := y6.st (u := vu v 19 (v 19 + (ne y p (n - p) + 1))) (FR.sIr FR.rf rfl) (y6.2.2.2.2.2.1.put (j := 19) (v 19 + (ne y p (n - p) + 1)))
  obtain ⟨M8, f8, y8, r8⟩ := y7.reg
  have hb19 := hG.2.2.2.2.1
  refine ⟨nI (ne y p (n - p) + 1), M4, M8, ?_, ?_, Inv.mk z4 y8 (hA.kp hh ?_) ((r5.mono (fun a ha => by omega)).tr (r6.tr (FR.tr (FR.sIr FR.rf (by omega)) r8)))⟩
  · unfold fX7_page
    rw [f1, pn_bv, pn_lit 0]
    have L8' : fX7_page_L8 rm_F (nI 0) (nI 0) M1 = fX7_page_L58 (nI (ne y p (n - p) + 1)) M1 := L8
    rw [L8']
    unfold fX7_page_L58
    rw [rm_lt1, hC1.1.2.2.2.1, if_pos ks, f2, pn_bv, rm_lt1, z2.1.2.2.2.1, if_pos ks, rm_lt1, e9, nI_add, rm_lt1, z3.1.2.2.2.1, if_pos ks, f4, pn_bv]
  · unfold fX8_page
    rw [f5, pn_bv, pn_lit 0]
    have v14 : M5.1 83 (nI 14).toNatClampNeg = nI (v 14) := by rw [nI_clamp (by omega)]; exact hM5.2.2.2.2.2.1 14 (by omega)
    have b14 := hG.1.2.2.2.2.2.1
    have L6 : ∀ d f k, k + d = p → d < f → fX8_page_L6 f (nI k) M5 = fX8_page_L28 rm_F (nI p) M5 := by
      intro d
      induction d with
      | zero =>
        intro f k hk hf
        obtain ⟨f, rfl⟩ : ∃ z, f = z + 1 := ⟨f - 1, by omega⟩
        rw [fX8_page_L6, if_pos (by rw [pn_ib (by omega), decide_eq_true_eq]; omega), pn_lit 14, if_pos (by decide), nI_clamp (by omega), hMR.2.2 k (by omega), v14, show k = p by omega, if_pos (by rw [hp2])]
      | succ d ih =>
        intro f k hk hf
        obtain ⟨f, rfl⟩ : ∃ z, f = z + 1 := ⟨f - 1, by omega⟩
        have hrk := hr k (by omega)
        have hne2 : r k ≠ v 14 := fun q => by have := hinj k p (by omega) hp1 (by omega); omega
        rw [fX8_page_L6, if_pos (by rw [pn_ib (by omega), decide_eq_true_eq]; omega), pn_lit 14, if_pos (by decide), nI_clamp (by omega), hMR.2.2 k (by omega), v14, if_neg (by rw [nI_eq (by omega) (by omega)]; exact hne2), pn_lit 1, nI_add]
        exact ih f (k + 1) (by omega) (by omega)
    rw [L6 p rm_F 0 (by omega) (by omega)]
    obtain ⟨e, e1, e2⟩ := pX8_page_L28 hn6 hy hMR.2.1 (n - p) rm_F p (by omega) (by omega)
    rw [e2, e1, f6, pn_bv, e19, nI_add, f8, pn_bv]
  · refine GV.reg (hG.1.vu18 (by omega) (by omega)) h2 ?_ ?_
    · rw [vu_ne _ _ (by omega)]; have := hG.2.2.2.1; omega
    · rw [vu_eq]; omega
