/-! ===== PURE PART: numbers, memory, loops ===== -/
theorem pn_lit (n : Nat) : (OfNat.ofNat n : Int32) = nI n := Int32.toBitVec_inj.1 rfl
theorem pn_m1 : (-1 : Int32) = -nI 1 := rfl
theorem pn_ib {i n : Nat} (h : i < 2 ^ 31) : rm_ib (nI i) n = decide (i < n) := by
  unfold rm_ib
  rw [nI_toInt h]
  by_cases q : i < n
  · rw [decide_eq_true q]
    simp only [Bool.and_eq_true, decide_eq_true_eq]
    omega
  · rw [decide_eq_false q]
    have : ¬ ((i : Int) < (n : Int)) := by omega
    simp [this]
theorem pn_sI1 (M : rm_M) (q k : Nat) (x : Int32) (a : Nat) : (rm_sI M q k x).1 a = if a = q then upd (M.1 q) k x else M.1 a := rfl
theorem pn_sI2 (M : rm_M) (q k : Nat) (x : Int32) : (rm_sI M q k x).2 = M.2 := rfl
theorem pn_sJ1 (M : rm_M) (q k : Nat) (x : Int64) : (rm_sJ M q k x).1 = M.1 := rfl
theorem pn_sJ2 (M : rm_M) (q k : Nat) (x : Int64) (a : Nat) : (rm_sJ M q k x).2.1 a = if a = q then vp_updL (M.2.1 q) k x else M.2.1 a := rfl
theorem pn_sJ3 (M : rm_M) (q k : Nat) (x : Int64) : (rm_sJ M q k x).2.2 = M.2.2 := rfl
theorem pn_sR1 (M : rm_M) (k v : Nat) : (rm_sR M k v).1 = M.1 := rfl
theorem pn_sR2 (M : rm_M) (k v : Nat) : (rm_sR M k v).2.1 = M.2.1 := rfl
theorem pn_sR3 (M : rm_M) (k v a : Nat) : (rm_sR M k v).2.2 a = if a = k then v else M.2.2 a := rfl
theorem pn_cp1 (M : rm_M) (a b sp dp n z : Nat) : (rm_cp M a b sp dp n).1 z = if z = b then va_cpy (M.1 a) (M.1 b) sp dp n else M.1 z := rfl
theorem pn_cp2 (M : rm_M) (a b sp dp n : Nat) : (rm_cp M a b sp dp n).2 = M.2 := rfl
theorem pn_bd {α β : Type} (x : α) (M : rm_M) (K : α → rm_M → Option β) : rm_bd (some (x, M)) K = K x M := rfl
theorem pn_bv {β : Type} (M : rm_M) (K : rm_M → Option β) : rm_bv (some M) K = K M := rfl
theorem pn_z0 (M : rm_M) : rm_z (nI 0) M = some (nI 0, M) := rfl
theorem pn_z1 (M : rm_M) : rm_z (nI 1) M = some (nI 1, M) := rfl
/-- f i + f (i + 1) + .. , d of them -/
def rs (f : Nat → Nat) : Nat → Nat → Nat
  | _, 0 => 0
  | i, d + 1 => f i + rs f (i + 1) d
theorem pX8_out_L4 {cs c : Nat} (w : Nat → Nat) (M : rm_M) (hc : M.1 79 2 = nI cs) (hcs : cs ≤ 6) (hcc : c < 6) (hw : ∀ b, b < 6 → M.1 81 (6 * c + b) = nI (w b)) : ∀ d n i acc, i + d = cs → d < n → fX8_out_L4 (nI c) n (nI acc) (nI i) M = some (nI (acc + rs w i d), M) := by
  intro d
  induction d with
  | zero =>
    intro n i acc hi hn
    obtain ⟨n, rfl⟩ : ∃ k, n = k + 1 := ⟨n - 1, by omega⟩
    simp (disch := omega) only [fX8_out_L4, hc, nI_leI, rs]
    rw [if_pos (by omega)]
    rfl
  | succ d ih =>
    intro n i acc hi hn
    obtain ⟨n, rfl⟩ : ∃ k, n = k + 1 := ⟨n - 1, by omega⟩
    simp (disch := omega) only [fX8_out_L4, hc, nI_leI, pn_lit, pk_mul, nI_add, pn_ib, nI_clamp, rm_lt1, decide_eq_true_eq]
    rw [if_neg (by omega), if_pos (by omega), hw i (by omega), nI_add, ih n (i + 1) (acc + w i) (by omega) (by omega), rs, Nat.add_assoc]
theorem pn_and (a b : Nat) : nI a &&& nI b = nI (a &&& b) := by
  apply Int32.toBitVec_inj.1
  show BitVec.ofNat 32 a &&& BitVec.ofNat 32 b = BitVec.ofNat 32 (a &&& b)
  apply BitVec.eq_of_getLsbD_eq
  intro i hi
  simp [hi]
theorem pn_or (a b : Nat) : nI a ||| nI b = nI (a ||| b) := by
  apply Int32.toBitVec_inj.1
  show BitVec.ofNat 32 a ||| BitVec.ofNat 32 b = BitVec.ofNat 32 (a ||| b)
  apply BitVec.eq_of_getLsbD_eq
  intro i hi
  simp [hi]
theorem pn_shr {n c : Nat} (hn : n < 2 ^ 31) (hc : c < 31) : nI n >>> (nI c &&& nI 31) = nI (n / 2 ^ c) := by
  have key : ∀ c, c < 31 → ((nI c &&& nI 31).toBitVec.smod 32).toNat = c := by decide +kernel
  exact pk_shrN hn _ c (key c hc)
theorem pn_shl {n c : Nat} (hc : c < 31) (h : n * 2 ^ c < 2 ^ 32) : nI n <<< (nI c &&& nI 31) = nI (n * 2 ^ c) := by
  have key : ∀ c, c < 31 → ((nI c &&& nI 31).toBitVec.smod 32).toNat = c := by decide +kernel
  exact pk_shlN _ c (key c hc) h
theorem pn_and1 (n : Nat) : nI n &&& nI 1 = nI (n % 2) := by
  rw [pn_and, Nat.and_one_is_mod]
theorem pn_bit (n c : Nat) : n / 2 ^ c % 2 = if n.testBit c then 1 else 0 := by
  rw [Nat.testBit_eq_decide_div_mod_eq]
  have : n / 2 ^ c % 2 < 2 := Nat.mod_lt _ (by decide)
  by_cases h : n / 2 ^ c % 2 = 1
  · simp [h]
  · have h0 : n / 2 ^ c % 2 = 0 := by omega
    simp [h0]
theorem pn_upd_eq (f : Nat → Int32) (k : Nat) (x : Int32) : upd f k x k = x := by simp [upd]
theorem pn_upd_ne (f : Nat → Int32) {k j : Nat} (x : Int32) (h : j ≠ k) : upd f k x j = f j := by simp [upd, h]
theorem pn_updL_eq (f : Nat → Int64) (k : Nat) (x : Int64) : vp_updL f k x k = x := by simp [vp_updL]
theorem pn_updL_ne (f : Nat → Int64) {k j : Nat} (x : Int64) (h : j ≠ k) : vp_updL f k x j = f j := by simp [vp_updL, h]
theorem pn_sI_eq (M : rm_M) (q k : Nat) (x : Int32) : (rm_sI M q k x).1 q = upd (M.1 q) k x := by simp [rm_sI]
theorem pn_sI_ne (M : rm_M) {q a : Nat} (k : Nat) (x : Int32) (h : a ≠ q) : (rm_sI M q k x).1 a = M.1 a := by simp [rm_sI, h]
theorem pn_sJ_eq (M : rm_M) (q k : Nat) (x : Int64) : (rm_sJ M q k x).2.1 q = vp_updL (M.2.1 q) k x := by simp [rm_sJ]
theorem pn_sJ_ne (M : rm_M) {q a : Nat} (k : Nat) (x : Int64) (h : a ≠ q) : (rm_sJ M q k x).2.1 a = M.2.1 a := by simp [rm_sJ, h]
theorem pn_sR_eq (M : rm_M) (k v : Nat) : (rm_sR M k v).2.2 k = v := by simp [rm_sR]
theorem pn_sR_ne (M : rm_M) {k j : Nat} (v : Nat) (h : j ≠ k) : (rm_sR M k v).2.2 j = M.2.2 j := by simp [rm_sR, h]
theorem pn_cp_eq (M : rm_M) (a b sp dp n : Nat) : (rm_cp M a b sp dp n).1 b = va_cpy (M.1 a) (M.1 b) sp dp n := by simp [rm_cp]
theorem pn_cp_ne (M : rm_M) {a b z : Nat} (sp dp n : Nat) (h : z ≠ b) : (rm_cp M a b sp dp n).1 z = M.1 z := by simp [rm_cp, h]
theorem pn_F : 4095 < rm_F := by unfold rm_F; decide
theorem pn_net {n : Nat} (h : n = 14 ∨ n = 33) : rm_kd n = (1, 0) := by rcases h with rfl | rfl <;> rfl
theorem pn_sta {s : Nat} (h : s = 52 ∨ s = 55 ∨ s = 58) : rm_kd s = (4, 0) := by rcases h with rfl | rfl | rfl <;> rfl
/-- the state of the class at q, as a vector of twenty; the model's row of twenty -/
def SV (M : rm_M) (q : Nat) (v : Nat → Nat) : Prop := (∀ c, c < 6 → M.1 (q + 1) c = nI (v c)) ∧ (∀ c, c < 6 → M.1 (q + 2) c = nI (v (6 + c))) ∧ ∀ j, 2 ≤ j → j < 10 → M.1 q j = nI (v (j + 10))
def MV (M : rm_M) (q : Nat) (v : Nat → Nat) : Prop := ∀ k, k < 20 → M.1 q k = nI (v k)
/-- v, but x at k -/
def vu (v : Nat → Nat) (k x : Nat) : Nat → Nat := fun j => if j = k then x else v j
theorem vu_eq (v : Nat → Nat) (k x : Nat) : vu v k x k = x := by simp [vu]
theorem vu_ne (v : Nat → Nat) {k j : Nat} (x : Nat) (h : j ≠ k) : vu v k x j = v j := by simp [vu, h]
/-- only cells of S are others -/
def FR (S : Nat → Prop) (M M2 : rm_M) : Prop := (∀ a, ¬ S a → M2.1 a = M.1 a ∧ M2.2.1 a = M.2.1 a) ∧ M2.2.2 = M.2.2
theorem FR.rf {S : Nat → Prop} {M : rm_M} : FR S M M := ⟨fun _ _ => ⟨rfl, rfl⟩, rfl⟩
theorem FR.tr {S : Nat → Prop} {M M2 M3 : rm_M} (h : FR S M M2) (h2 : FR S M2 M3) : FR S M M3 := ⟨fun a ha => ⟨(h2.1 a ha).1.trans (h.1 a ha).1, (h2.1 a ha).2.trans (h.1 a ha).2⟩, h2.2.trans h.2⟩
theorem FR.mono {S S2 : Nat → Prop} {M M2 : rm_M} (h : FR S M M2) (hs : ∀ a, S a → S2 a) : FR S2 M M2 := ⟨fun a ha => h.1 a (fun q => ha (hs a q)), h.2⟩
theorem FR.sI {S : Nat → Prop} {M : rm_M} {q k : Nat} {x : Int32} (h : S q) : FR S M (rm_sI M q k x) := ⟨fun a ha => ⟨pn_sI_ne M k x (fun e => ha (e ▸ h)), rfl⟩, rfl⟩
theorem FR.sJ {S : Nat → Prop} {M : rm_M} {q k : Nat} {x : Int64} (h : S q) : FR S M (rm_sJ M q k x) := ⟨fun a ha => ⟨rfl, pn_sJ_ne M k x (fun e => ha (e ▸ h))⟩, rfl⟩
theorem FR.cp {S : Nat → Prop} {M : rm_M} {a b sp dp n : Nat} (h : S b) : FR S M (rm_cp M a b sp dp n) := ⟨fun z hz => ⟨pn_cp_ne M sp dp n (fun e => hz (e ▸ h)), rfl⟩, rfl⟩
theorem FR.sIr {S : Nat → Prop} {M M1 : rm_M} {q k : Nat} {x : Int32} (h : FR S M M1) (hq : S q) : FR S M (rm_sI M1 q k x) := h.tr (FR.sI hq)
theorem FR.sJr {S : Nat → Prop} {M M1 : rm_M} {q k : Nat} {x : Int64} (h : FR S M M1) (hq : S q) : FR S M (rm_sJ M1 q k x) := h.tr (FR.sJ hq)
theorem FR.cpr {S : Nat → Prop} {M M1 : rm_M} {a b sp dp n : Nat} (h : FR S M M1) (hq : S b) : FR S M (rm_cp M1 a b sp dp n) := h.tr (FR.cp hq)
