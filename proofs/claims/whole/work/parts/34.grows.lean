/-! ===== the rows of the net but a root; the model's trees ===== -/
def ix (r k : Nat) : Nat := if k < r then k else k + 1
def Em (cs : Nat) (w : Nat → Nat → Nat) (p : Nat) (r c : Nat) : Int := if ix p r = c then (ou cs w (ix p r) : Int) else -(w (ix p r) c : Int)
def xm (cs : Nat) (w : Nat → Nat → Nat) (p : Nat) (r c : Nat) : Int := Em cs w p r (ix p c)
/-- what a net keeps to -/
def WN (cs : Nat) (w : Nat → Nat → Nat) : Prop := 2 ≤ cs ∧ cs ≤ 6 ∧ (∀ a b, w a b ≤ 4) ∧ (∀ a, w a a = 0) ∧ (∀ a b, 0 < w a b ↔ 0 < w b a) ∧ (∀ a b, a < cs → b < cs → fw w cs a b < 99)
def trI (cs : Nat) (w : Nat → Nat → Nat) (p : Nat) : Int := phs (xm cs w p) (cs - 1 - 1) (cs - 1 - 1) (cs - 1 - 1)
theorem WN.lt {cs : Nat} {w : Nat → Nat → Nat} (h : WN cs w) (a b : Nat) : w a b < 2 ^ 31 := by have := h.2.2.1 a b; omega
theorem ou_le {cs : Nat} {w : Nat → Nat → Nat} (h : WN cs w) {c : Nat} (hc : c < cs) : ou cs w c ≤ 20 := by
  obtain ⟨h1, h2, h3, h4, -, -⟩ := h
  have e : ∀ b, w c b ≤ 4 := h3 c
  have e0 := h4 c
  unfold ou
  rcases (show cs = 2 ∨ cs = 3 ∨ cs = 4 ∨ cs = 5 ∨ cs = 6 by omega) with rfl | rfl | rfl | rfl | rfl <;> simp only [rs, Nat.reduceAdd, Nat.zero_add] <;> have e1 := e 0 <;> have e2 := e 1 <;> have e3 := e 2 <;> have e4 := e 3 <;> have e5 := e 4 <;> have e6 := e 5
  · omega
  · omega
  · omega
  · omega
  · rcases (show c = 0 ∨ c = 1 ∨ c = 2 ∨ c = 3 ∨ c = 4 ∨ c = 5 by omega) with rfl | rfl | rfl | rfl | rfl | rfl <;> omega
theorem xm_b {cs : Nat} {w : Nat → Nat → Nat} (h : WN cs w) {p : Nat} (r c : Nat) (hr : r < cs - 1) : (xm cs w p r c).natAbs ≤ 20 := by
  have hi : ix p r < cs := by unfold ix; split <;> omega
  have h1 := ou_le h hi
  have h2 := h.2.2.1 (ix p r) (ix p c)
  unfold xm Em
  split <;> omega
theorem skip_sum (g : Nat → Int) {cs p : Nat} (h1 : 2 ≤ cs) (h2 : cs ≤ 6) (hp : p < cs) : isu (fun j => g (ix p j)) 0 (cs - 1) = isu g 0 cs - g p := by
  rcases (show cs = 2 ∨ cs = 3 ∨ cs = 4 ∨ cs = 5 ∨ cs = 6 by omega) with rfl | rfl | rfl | rfl | rfl
  · rcases (show p = 0 ∨ p = 1 by omega) with rfl | rfl <;> simp [isu, ix] <;> omega
  · rcases (show p = 0 ∨ p = 1 ∨ p = 2 by omega) with rfl | rfl | rfl <;> simp [isu, ix] <;> omega
  · rcases (show p = 0 ∨ p = 1 ∨ p = 2 ∨ p = 3 by omega) with rfl | rfl | rfl | rfl <;> simp [isu, ix] <;> omega
  · rcases (show p = 0 ∨ p = 1 ∨ p = 2 ∨ p = 3 ∨ p = 4 by omega) with rfl | rfl | rfl | rfl | rfl <;> simp [isu, ix] <;> omega
  · rcases (show p = 0 ∨ p = 1 ∨ p = 2 ∨ p = 3 ∨ p = 4 ∨ p = 5 by omega) with rfl | rfl | rfl | rfl | rfl | rfl <;> simp [isu, ix] <;> omega
theorem diag_sum (f : Nat → Nat) (a : Int) {c : Nat} : ∀ d i, i ≤ c → c < i + d → isu (fun j => if c = j then a else -(f j : Int)) i d = a + f c - (rs f i d : Nat) := by
  have off : ∀ d i, c < i → isu (fun j => if c = j then a else -(f j : Int)) i d = -((rs f i d : Nat) : Int) := by
    intro d
    induction d with
    | zero => intro i _; simp [isu, rs]
    | succ d ih =>
      intro i hi
      rw [isu, rs, ih (i + 1) (by omega), if_neg (by omega)]
      omega
  intro d
  induction d with
  | zero => intro i h1 h2; omega
  | succ d ih =>
    intro i h1 h2
    rw [isu, rs]
    by_cases e : c = i
    · subst e
      rw [if_pos rfl, off d (c + 1) (by omega)]
      omega
    · rw [if_neg e, ih (i + 1) (by omega) (by omega)]
      omega
theorem row_sum {cs : Nat} {w : Nat → Nat → Nat} (h : WN cs w) {p r : Nat} (hp : p < cs) (hr : r < cs - 1) : isu (xm cs w p r) 0 (cs - 1) = (w (ix p r) p : Int) := by
  have hi : ix p r < cs := by unfold ix; split <;> omega
  have hne : ¬ ix p r = p := by unfold ix; split <;> omega
  have h1 := skip_sum (Em cs w p r) h.1 h.2.1 hp
  have h2 := diag_sum (w (ix p r)) (ou cs w (ix p r) : Int) (c := ix p r) cs 0 (by omega) (by omega)
  have h3 : isu (Em cs w p r) 0 cs = 0 := by
    show isu (fun j => if ix p r = j then (ou cs w (ix p r) : Int) else -(w (ix p r) j : Int)) 0 cs = 0
    rw [h2, h.2.2.2.1]
    unfold ou
    omega
  show isu (fun j => Em cs w p r (ix p j)) 0 (cs - 1) = _
  rw [h1, h3]
  unfold Em
  rw [if_neg hne]
  omega
theorem nearer {cs : Nat} {w : Nat → Nat → Nat} (h : WN cs w) {p c : Nat} (hp : p < cs) (hc : c < cs) (hne : c ≠ p) : ∃ b, b < cs ∧ 0 < w c b ∧ fw w cs p b < fw w cs p c := by
  have h99 := h.2.2.2.2.2 p c hp hc
  have h0 : fw w cs p c ≠ 0 := by
    intro q
    have := (rch_iff hp hc h99 (j := 0)).mpr (by omega)
    exact hne ((pow_bit p c).mp this)
  obtain ⟨d, hd⟩ : ∃ d, fw w cs p c = d + 1 := ⟨fw w cs p c - 1, by omega⟩
  have h1 := (rch_iff hp hc h99 (j := d + 1)).mpr (by omega)
  rcases nx1_bit.mp h1 with h2 | ⟨b, b1, b2, b3, b4⟩
  · have := (rch_iff hp hc h99 (j := d)).mp h2; omega
  · refine ⟨b, b1, (h.2.2.2.2.1 b c).mp b4, ?_⟩
    have := rch_fw d b b1 b2
    omega
theorem ix_surj {p c cs : Nat} (hc : c < cs) (hp : p < cs) (hne : c ≠ p) : ∃ r, r < cs - 1 ∧ ix p r = c := by
  by_cases h : c < p
  · exact ⟨c, by omega, by unfold ix; rw [if_pos h]⟩
  · exact ⟨c - 1, by omega, by unfold ix; rw [if_neg (by omega)]; omega⟩
theorem xm_ok {cs : Nat} {w : Nat → Nat → Nat} (h : WN cs w) {p : Nat} (hp : p < cs) : OkM (cs - 1) 0 (xm cs w p) (fun i => fw w cs p (ix p i)) := by
  have inj : ∀ i j, i ≠ j → ix p i ≠ ix p j := fun i j hij => by unfold ix; split <;> split <;> omega
  have lt : ∀ i, i < cs - 1 → ix p i < cs := fun i hi => by unfold ix; split <;> omega
  have ne : ∀ i, ix p i ≠ p := fun i => by unfold ix; split <;> omega
  refine ⟨fun i j _ hi _ hj hij => ?_, fun i _ hi => ?_, fun i _ hi => ?_⟩
  · unfold xm Em
    rw [if_neg (inj i j hij)]
    omega
  · rw [show cs - 1 - 0 = cs - 1 from rfl, row_sum h hp hi]
    omega
  · obtain ⟨b, b1, b2, b3⟩ := nearer h hp (lt i hi) (ne i)
    by_cases e : b = p
    · left
      rw [show cs - 1 - 0 = cs - 1 from rfl, row_sum h hp hi]
      subst e
      omega
    · right
      obtain ⟨j, hj, hjb⟩ := ix_surj b1 hp e
      have hji : j ≠ i := fun q => by
        subst q
        rw [hjb] at b2
        have := h.2.2.2.1 b
        omega
      refine ⟨j, by omega, hj, hji, ?_, ?_⟩
      · unfold xm Em
        rw [if_neg (inj i j (Ne.symm hji)), hjb]
        omega
      · show fw w cs p (ix p j) < fw w cs p (ix p i)
        rw [hjb]
        exact b3
theorem trI_pos {cs : Nat} {w : Nat → Nat → Nat} (h : WN cs w) {p : Nat} (hp : p < cs) : 0 < trI cs w p := by
  have h1 := h.1
  have h2 := h.2.1
  exact det_pos (by omega) (by omega) (xm_ok h hp)
theorem xm_b2 {cs : Nat} {w : Nat → Nat → Nat} (h : WN cs w) {p : Nat} : ∃ x : Nat → Nat → Int, (∀ r c, (x r c).natAbs ≤ 20) ∧ ∀ r c, r < cs - 1 → x r c = xm cs w p r c := by
  refine ⟨fun r c => if r < cs - 1 then xm cs w p r c else 0, fun r c => ?_, fun r c hr => by simp only [if_pos hr]⟩
  by_cases hr : r < cs - 1
  · simp only [if_pos hr]; exact xm_b h r c hr
  · simp only [if_neg hr]; decide
theorem phs_cong {x y : Nat → Nat → Int} {n : Nat} (hn : n ≤ 5) (h : ∀ r c, r < n → x r c = y r c) (k : Nat) (hk : k < n) {i : Nat} (hi : i < n) (j : Nat) (hki : k ≤ i) : phs x k i j = phs y k i j := by
  match k, hk with
  | 0, _ => exact h i j hi
  | 1, hk => show x i j * x 0 0 - x i 0 * x 0 j = y i j * y 0 0 - y i 0 * y 0 j; rw [h i j hi, h 0 0 (by omega), h i 0 hi, h 0 j (by omega)]
  | 2, hk =>
    show d3 x i 0 1 j = d3 y i 0 1 j
    unfold d3 d2
    simp only [h i _ hi, h 0 _ (by omega : 0 < n), h 1 _ (by omega : 1 < n)]
  | 3, hk =>
    show d4 x i 0 1 2 j = d4 y i 0 1 2 j
    unfold d4 d3 d2
    simp only [h i _ hi, h 0 _ (by omega : 0 < n), h 1 _ (by omega : 1 < n), h 2 _ (by omega : 2 < n)]
  | 4, hk =>
    show d5 x i 0 1 2 3 j = d5 y i 0 1 2 3 j
    unfold d5 d4 d3 d2
    simp only [h i _ hi, h 0 _ (by omega : 0 < n), h 1 _ (by omega : 1 < n), h 2 _ (by omega : 2 < n), h 3 _ (by omega : 3 < n)]
  | k + 5, hk => omega
theorem isu_cong {f g : Nat → Int} : ∀ d i, (∀ j, i ≤ j → j < i + d → f j = g j) → isu f i d = isu g i d := by
  intro d
  induction d with
  | zero => intro i _; rfl
  | succ d ih =>
    intro i h
    rw [isu, isu, h i (by omega) (by omega), ih (i + 1) (fun j h1 h2 => h j (by omega) (by omega))]
theorem OkM.cong {n : Nat} {x y : Nat → Nat → Int} {dl : Nat → Nat} (h : OkM n 0 x dl) (e : ∀ r c, r < n → y r c = x r c) : OkM n 0 y dl := by
  obtain ⟨a, b, c⟩ := h
  have es : ∀ i, i < n → isu (y i) 0 (n - 0) = isu (x i) 0 (n - 0) := fun i hi => isu_cong _ _ (fun j _ _ => e i j hi)
  refine ⟨fun i j h1 h2 h3 h4 h5 => by rw [e i j h2]; exact a i j h1 h2 h3 h4 h5, fun i h1 h2 => by rw [es i h2]; exact b i h1 h2, fun i h1 h2 => ?_⟩
  rcases c i h1 h2 with q | ⟨j, j1, j2, j3, j4, j5⟩
  · left; rw [es i h2]; exact q
  · right; exact ⟨j, j1, j2, j3, by rw [e i j h2]; exact j4, j5⟩
theorem pX8_det_net {cs : Nat} {w : Nat → Nat → Nat} (h : WN cs w) {p : Nat} (hp : p < cs) {M : rm_M} (hT : ∀ a b, a < cs - 1 → b < cs - 1 → M.2.1 91 (5 * a + b) = J (xm cs w p a b)) :
    ∃ M2, fX8_determinant (nI (cs - 1)) M = some (J (trI cs w p), M2) ∧ FR (fun q => q = 91) M M2 ∧ M2.1 = M.1 := by
  have h1 := h.1
  have h2 := h.2.1
  obtain ⟨x, hx, ex⟩ := xm_b2 h (p := p)
  obtain ⟨M2, f2, r2, e2⟩ := pX8_determinant (x := x) (n := cs - 1) (M := M) (by omega) (by omega) ((xm_ok h hp).cong ex) hx (fun a b ha hb => by rw [ex a b ha]; exact hT a b ha hb)
  refine ⟨M2, ?_, r2, e2⟩
  rw [f2]
  unfold trI
  rw [phs_cong (n := cs - 1) (by omega) ex (cs - 1 - 1) (by omega) (by omega) _ (Nat.le_refl _)]
theorem trI_le {cs : Nat} {w : Nat → Nat → Nat} (h : WN cs w) (p : Nat) : trI cs w p ≤ 384000000 := by
  have h1 := h.1
  have h2 := h.2.1
  obtain ⟨x, hx, ex⟩ := xm_b2 h (p := p)
  unfold trI
  rw [← phs_cong (n := cs - 1) (by omega) ex (cs - 1 - 1) (by omega) (by omega) _ (Nat.le_refl _)]
  exact (phs_b hx _ _ _).2
