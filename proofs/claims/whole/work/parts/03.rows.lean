abbrev vwCl : List vw_C := [(RX0, TX0, 6), (RX1, TX1, 12), (RX2, TX2, 3), (RX3, TX3, 4), (RX4, TX4, 10), (RX5, TX5, 4), (RX6, TX6, 1), (RX7, TX7, 10), (RX8, TX8, 26)]
/-! ===== memory by layout: 96 cells, ints, longs, and the four references that change ===== -/
abbrev rm_M : Type := (Nat → Nat → Int32) × (Nat → Nat → Int64) × (Nat → Nat)
def rm_K : List (Nat × Nat) := [(7, 0), (5, 0), (9, 200), (9, 4), (2, 0), (11, 6), (0, 0), (10, 6), (9, 6), (9, 6), (6, 0), (9, 9), (3, 0), (9, 6),
  (1, 0), (12, 6), (9, 6), (9, 6), (9, 6), (9, 6), (9, 6), (9, 6), (12, 6), (9, 6), (9, 6), (9, 6), (9, 6), (9, 6), (9, 6), (9, 6), (9, 6), (10, 6), (10, 64),
  (1, 0), (12, 6), (9, 6), (9, 6), (9, 6), (9, 6), (9, 6), (9, 6), (12, 6), (9, 6), (9, 6), (9, 6), (9, 6), (9, 6), (9, 6), (9, 6), (9, 6), (10, 6), (10, 64),
  (4, 0), (9, 6), (9, 6), (4, 0), (9, 6), (9, 6), (4, 0), (9, 6), (9, 6), (4, 0), (9, 6), (9, 6), (4, 0), (9, 6), (9, 6), (4, 0), (9, 6), (9, 6), (4, 0), (9, 6), (9, 6), (4, 0), (9, 6), (9, 6), (4, 0), (9, 6), (9, 6),
  (8, 0), (9, 200), (9, 36), (9, 4), (9, 20), (9, 120), (9, 36), (9, 4), (9, 20), (9, 10), (9, 10), (10, 6), (10, 25), (9, 6), (9, 6), (9, 6), (9, 20)]
def rm_kd (q : Nat) : Nat × Nat := rm_K.getD q (99, 0)
def rm_O (ph : Nat → Nat) (q : Nat) (i : Nat → Int32) (j : Nat → Int64) (r : Nat → Nat) : Nat → List Value
  | 0 => [.ref (ph (q + 1)), .long (j 1), .ref (ph (q + 2)), .long (j 3), .int (i 4), .ref (ph (q + 3))]
  | 1 => [.int (i 0), .int (i 1), .int (i 2), .int (i 3), .int (i 4), .int (i 5), .ref (ph (q + 1)), .ref (ph (q + 8)), .ref (ph (q + 15)), .ref (ph (q + 16)), .ref (ph (q + 17)), .ref (ph (q + 18))]
  | 2 => [.ref (ph (q + 1)), .int (i 1), .int (i 2)]
  | 3 => [.ref (ph (q + 1)), .int (i 1), .int (i 2), .int (i 3)]
  | 4 => [.ref (ph (q + 1)), .ref (ph (q + 2)), .int (i 2), .int (i 3), .int (i 4), .int (i 5), .int (i 6), .int (i 7), .int (i 8), .int (i 9)]
  | 5 => [.ref (ph (q + 1)), .ref (ph (q + 2)), .int (i 2), .int (i 3)]
  | 6 => [.ref (ph (q + 1))]
  | 7 => [.ref (ph (q + 1)), .ref (ph (q + 4)), .ref (ph (q + 6)), .ref (ph (q + 10)), .ref (ph (q + 12)), .ref (ph (q + 52)), .ref (ph (r 6)), .ref (ph (r 7)), .ref (ph (r 8)), .ref (ph (r 9))]
  | 8 => [.int (i 0), .ref (ph (q + 1)), .int (i 2), .int (i 3), .ref (ph (q + 2)), .ref (ph (q + 3)), .ref (ph (q + 4)), .ref (ph (q + 5)), .int (i 8), .int (i 9), .int (i 10), .ref (ph (q + 6)), .ref (ph (q + 7)), .ref (ph (q + 8)), .int (i 14), .int (i 15), .ref (ph (q + 9)), .ref (ph (q + 10)), .ref (ph (q + 11)), .ref (ph (q + 12)), .ref (ph (q + 13)), .ref (ph (q + 14)), .ref (ph (q + 15)), .int (i 23), .int (i 24), .ref (ph (q + 16))]
  | _ => []
abbrev rm_Y : Type := ClassId × ClassId × ClassId × ClassId
def rm_e (cy : rm_Y) (ph : Nat → Nat) (q : Nat) (i : Nat → Int32) (j : Nat → Int64) (r : Nat → Nat) : va_E :=
  if (rm_kd q).1 = 9 then .inl (cy.1, (rm_kd q).2, .inl i)
  else if (rm_kd q).1 = 10 then .inl (cy.2.1, (rm_kd q).2, .inr (.inl j))
  else if (rm_kd q).1 = 11 then .inl (cy.2.2.1, (rm_kd q).2, .inr (.inr (.inr (.inr (fun k => if k < (rm_kd q).2 then some (ph (q + 56 + 3 * k)) else none)))))
  else if (rm_kd q).1 = 12 then .inl (cy.2.2.2, (rm_kd q).2, .inr (.inr (.inr (.inr (fun k => if k < (rm_kd q).2 then some (ph (q + 1 + k)) else none)))))
  else .inr ((rm_kd q).1, rm_O ph q i j r (rm_kd q).1)
def rm_W (NC : Nat) (cy : rm_Y) (ph : Nat → Nat) (M : rm_M) : va_W := (List.range NC).map (fun q => (ph q, rm_e cy ph q (M.1 q) (M.2.1 q) M.2.2))
def rm_A (NC : Nat) (ph : Nat → Nat) : Nat → Prop := fun a => ∃ k, k < NC ∧ ph k = a
def rm_inj (NC : Nat) (ph : Nat → Nat) : Prop := ∀ i j, i < NC → j < NC → ph i = ph j → i = j
def rm_kq (NC q : Nat) (k : Nat × Nat) : Prop := rm_kd q = k ∧ q < NC
theorem rm_c {NC q : Nat} {k : Nat × Nat} (hN : 79 ≤ NC) (h : rm_kd q = k) (hq : q < 79) : rm_kq NC q k := ⟨h, Nat.lt_of_lt_of_le hq hN⟩
def rm_sI (M : rm_M) (q k : Nat) (x : Int32) : rm_M := (fun a => if a = q then upd (M.1 q) k x else M.1 a, M.2)
def rm_sJ (M : rm_M) (q k : Nat) (x : Int64) : rm_M := (M.1, fun a => if a = q then vp_updL (M.2.1 q) k x else M.2.1 a, M.2.2)
def rm_sR (M : rm_M) (k v : Nat) : rm_M := (M.1, M.2.1, fun a => if a = k then v else M.2.2 a)
def rm_cp (M : rm_M) (a b sp dp n : Nat) : rm_M := (fun z => if z = b then va_cpy (M.1 a) (M.1 b) sp dp n else M.1 z, M.2)
def rm_ib (i : Int32) (n : Nat) : Bool := decide (0 ≤ i.toInt) && decide (i.toInt < (n : Int))
theorem rm_ib_in {i : Int32} {n : Nat} (h : rm_ib i n = true) : vp_in i n := by
  unfold rm_ib at h
  simp only [Bool.and_eq_true, decide_eq_true_eq] at h
  exact vp_in_iff.mpr h
theorem rm_lt {q : Nat} (h : (rm_kd q).1 ≠ 99) : q < 96 := by
  rcases Nat.lt_or_ge q 96 with h1 | h1
  · exact h1
  · exfalso
    apply h
    unfold rm_kd
    rw [List.getD_eq_getElem?_getD, List.getElem?_eq_none (by exact h1)]
    rfl
theorem rm_W_at (NC : Nat) (cy : rm_Y) (ph : Nat → Nat) (M : rm_M) {q : Nat} (h : q < NC) : (rm_W NC cy ph M)[q]? = some (ph q, rm_e cy ph q (M.1 q) (M.2.1 q) M.2.2) := by
  unfold rm_W
  rw [List.getElem?_map, List.getElem?_range h]
  rfl
theorem rm_W_D (NC : Nat) (cy : rm_Y) {ph : Nat → Nat} (hi : rm_inj NC ph) (M : rm_M) : va_D (rm_A NC ph) (rm_W NC cy ph M) := by
  have key : ∀ (k : Nat) (q : Nat × va_E), (rm_W NC cy ph M)[k]? = some q → k < NC ∧ q.1 = ph k := by
    intro k q hk
    have hl := (List.getElem?_eq_some_iff.mp hk).1
    have hl2 : k < NC := by simpa [rm_W] using hl
    rw [rm_W_at NC cy ph M hl2] at hk
    exact ⟨hl2, by rw [← Option.some.inj hk]⟩
  refine ⟨fun i j x y hx hy hxy => ?_, fun k q hk => ?_⟩
  · obtain ⟨a1, a2⟩ := key i x hx
    obtain ⟨b1, b2⟩ := key j y hy
    exact hi i j a1 b1 (by rw [← a2, ← b2, hxy])
  · obtain ⟨a1, a2⟩ := key k q hk
    exact ⟨k, a1, a2.symm⟩
theorem rm_W_set (NC : Nat) (cy : rm_Y) (ph : Nat → Nat) (M M2 : rm_M) {q : Nat} {e : va_E} (h : q < NC) (hq : rm_e cy ph q (M2.1 q) (M2.2.1 q) M2.2.2 = e)
    (ho : ∀ k, k ≠ q → rm_e cy ph k (M2.1 k) (M2.2.1 k) M2.2.2 = rm_e cy ph k (M.1 k) (M.2.1 k) M.2.2) : (rm_W NC cy ph M).set q (ph q, e) = rm_W NC cy ph M2 := by
  apply List.ext_getElem?
  intro k
  by_cases hk : k = q
  · subst hk
    rw [List.getElem?_set_self (by simpa [rm_W] using h), rm_W_at NC cy ph M2 h, hq]
  · rw [List.getElem?_set_ne (Ne.symm hk)]
    rcases Nat.lt_or_ge k NC with h1 | h1
    · rw [rm_W_at NC cy ph M h1, rm_W_at NC cy ph M2 h1, ho k hk]
    · rw [List.getElem?_eq_none (by simpa [rm_W] using h1), List.getElem?_eq_none (by simpa [rm_W] using h1)]
theorem rm_e_obj (cy : rm_Y) (ph : Nat → Nat) {q ci n : Nat} (i : Nat → Int32) (j : Nat → Int64) (r : Nat → Nat) (h : rm_kd q = (ci, n)) (hc : ci < 9) : rm_e cy ph q i j r = .inr (ci, rm_O ph q i j r ci) := by
  unfold rm_e
  rw [h]
  simp only
  rw [if_neg (by omega), if_neg (by omega), if_neg (by omega), if_neg (by omega)]
theorem rm_e_int (cy : rm_Y) (ph : Nat → Nat) {q : Nat} (i : Nat → Int32) (j : Nat → Int64) (r : Nat → Nat) (h : (rm_kd q).1 = 9) : rm_e cy ph q i j r = .inl (cy.1, (rm_kd q).2, .inl i) := by
  unfold rm_e
  rw [if_pos h]
theorem rm_e_long (cy : rm_Y) (ph : Nat → Nat) {q : Nat} (i : Nat → Int32) (j : Nat → Int64) (r : Nat → Nat) (h : (rm_kd q).1 = 10) : rm_e cy ph q i j r = .inl (cy.2.1, (rm_kd q).2, .inr (.inl j)) := by
  unfold rm_e
  rw [if_neg (by rw [h]; decide), if_pos h]
theorem rm_e_st (cy : rm_Y) (ph : Nat → Nat) {q : Nat} (i : Nat → Int32) (j : Nat → Int64) (r : Nat → Nat) (h : (rm_kd q).1 = 11) : rm_e cy ph q i j r = .inl (cy.2.2.1, (rm_kd q).2, .inr (.inr (.inr (.inr (fun k => if k < (rm_kd q).2 then some (ph (q + 56 + 3 * k)) else none))))) := by
  unfold rm_e
  rw [if_neg (by rw [h]; decide), if_neg (by rw [h]; decide), if_pos h]
theorem rm_e_ii (cy : rm_Y) (ph : Nat → Nat) {q : Nat} (i : Nat → Int32) (j : Nat → Int64) (r : Nat → Nat) (h : (rm_kd q).1 = 12) : rm_e cy ph q i j r = .inl (cy.2.2.2, (rm_kd q).2, .inr (.inr (.inr (.inr (fun k => if k < (rm_kd q).2 then some (ph (q + 1 + k)) else none))))) := by
  unfold rm_e
  rw [if_neg (by rw [h]; decide), if_neg (by rw [h]; decide), if_neg (by rw [h]; decide), if_pos h]
theorem rm_O_r (ph : Nat → Nat) (q : Nat) (i : Nat → Int32) (j : Nat → Int64) (r r2 : Nat → Nat) {n : Nat} (h : n ≠ 7) : rm_O ph q i j r n = rm_O ph q i j r2 n := by
  unfold rm_O
  split <;> first | rfl | exact absurd rfl h
theorem rm_e_r (cy : rm_Y) (ph : Nat → Nat) {q : Nat} (i : Nat → Int32) (j : Nat → Int64) (r r2 : Nat → Nat) (h : (rm_kd q).1 ≠ 7) : rm_e cy ph q i j r = rm_e cy ph q i j r2 := by
  unfold rm_e
  rw [rm_O_r ph q i j r r2 h]
theorem rm_kd7 (q : Nat) (h : q ≠ 0) : (rm_kd q).1 ≠ 7 := by
  have h1 : ∀ q, q < 96 → q ≠ 0 → (rm_kd q).1 ≠ 7 := by decide +kernel
  rcases Nat.lt_or_ge q 96 with h2 | h2
  · exact h1 q h2 h
  · intro h3
    have h4 := rm_lt (q := q) (by rw [h3]; decide)
    omega
/-! the world behind a write -/
theorem rm_W_sI_obj (NC : Nat) (cy : rm_Y) (ph : Nat → Nat) (M : rm_M) {q ci n k : Nat} {x : Int32} (h : rm_kd q = (ci, n)) (hlt : q < NC) (hc : ci < 9) (hs : (rm_O ph q (M.1 q) (M.2.1 q) M.2.2 ci).set k (.int x) = rm_O ph q (upd (M.1 q) k x) (M.2.1 q) M.2.2 ci) :
    (rm_W NC cy ph M).set q (ph q, .inr (ci, (rm_O ph q (M.1 q) (M.2.1 q) M.2.2 ci).set k (.int x))) = rm_W NC cy ph (rm_sI M q k x) := by
  refine rm_W_set NC cy ph M _ hlt ?_ (fun a ha => ?_)
  · rw [rm_e_obj cy ph _ _ _ h hc, hs]
    show Sum.inr (ci, rm_O ph q (if q = q then upd (M.1 q) k x else M.1 q) (M.2.1 q) M.2.2 ci) = _
    rw [if_pos rfl]
  · show rm_e cy ph a (if a = q then upd (M.1 q) k x else M.1 a) (M.2.1 a) M.2.2 = _
    rw [if_neg ha]
theorem rm_W_sJ_obj (NC : Nat) (cy : rm_Y) (ph : Nat → Nat) (M : rm_M) {q ci n k : Nat} {x : Int64} (h : rm_kd q = (ci, n)) (hlt : q < NC) (hc : ci < 9) (hs : (rm_O ph q (M.1 q) (M.2.1 q) M.2.2 ci).set k (.long x) = rm_O ph q (M.1 q) (vp_updL (M.2.1 q) k x) M.2.2 ci) :
    (rm_W NC cy ph M).set q (ph q, .inr (ci, (rm_O ph q (M.1 q) (M.2.1 q) M.2.2 ci).set k (.long x))) = rm_W NC cy ph (rm_sJ M q k x) := by
  refine rm_W_set NC cy ph M _ hlt ?_ (fun a ha => ?_)
  · rw [rm_e_obj cy ph _ _ _ h hc, hs]
    show Sum.inr (ci, rm_O ph q (M.1 q) (if q = q then vp_updL (M.2.1 q) k x else M.2.1 q) M.2.2 ci) = _
    rw [if_pos rfl]
  · show rm_e cy ph a (M.1 a) (if a = q then vp_updL (M.2.1 q) k x else M.2.1 a) M.2.2 = _
    rw [if_neg ha]
theorem rm_W_sR_obj (NC : Nat) (cy : rm_Y) (ph : Nat → Nat) (M : rm_M) {k v : Nat} (hlt : 0 < NC) (hs : (rm_O ph 0 (M.1 0) (M.2.1 0) M.2.2 7).set k (.ref (ph v)) = rm_O ph 0 (M.1 0) (M.2.1 0) (fun a => if a = k then v else M.2.2 a) 7) :
    (rm_W NC cy ph M).set 0 (ph 0, .inr (7, (rm_O ph 0 (M.1 0) (M.2.1 0) M.2.2 7).set k (.ref (ph v)))) = rm_W NC cy ph (rm_sR M k v) := by
  refine rm_W_set NC cy ph M _ hlt ?_ (fun a ha => ?_)
  · rw [rm_e_obj cy ph _ _ _ (show rm_kd 0 = (7, 0) from rfl) (by decide), hs]
    rfl
  · exact rm_e_r cy ph _ _ _ _ (rm_kd7 a ha)
theorem rm_W_sI_arr (NC : Nat) (cy : rm_Y) (ph : Nat → Nat) (M : rm_M) {q k : Nat} {x : Int32} (h : (rm_kd q).1 = 9) (hlt : q < NC) :
    (rm_W NC cy ph M).set q (ph q, .inl (cy.1, (rm_kd q).2, .inl (upd (M.1 q) k x))) = rm_W NC cy ph (rm_sI M q k x) := by
  refine rm_W_set NC cy ph M _ hlt ?_ (fun a ha => ?_)
  · rw [rm_e_int cy ph _ _ _ h]
    show Sum.inl (cy.1, (rm_kd q).2, Sum.inl (if q = q then upd (M.1 q) k x else M.1 q)) = _
    rw [if_pos rfl]
  · show rm_e cy ph a (if a = q then upd (M.1 q) k x else M.1 a) (M.2.1 a) M.2.2 = _
    rw [if_neg ha]
theorem rm_W_sJ_arr (NC : Nat) (cy : rm_Y) (ph : Nat → Nat) (M : rm_M) {q k : Nat} {x : Int64} (h : (rm_kd q).1 = 10) (hlt : q < NC) :
    (rm_W NC cy ph M).set q (ph q, .inl (cy.2.1, (rm_kd q).2, .inr (.inl (vp_updL (M.2.1 q) k x)))) = rm_W NC cy ph (rm_sJ M q k x) := by
  refine rm_W_set NC cy ph M _ hlt ?_ (fun a ha => ?_)
  · rw [rm_e_long cy ph _ _ _ h]
    show Sum.inl (cy.2.1, (rm_kd q).2, Sum.inr (Sum.inl (if q = q then vp_updL (M.2.1 q) k x else M.2.1 q))) = _
    rw [if_pos rfl]
  · show rm_e cy ph a (M.1 a) (if a = q then vp_updL (M.2.1 q) k x else M.2.1 a) M.2.2 = _
    rw [if_neg ha]
theorem rm_W_cp (NC : Nat) (cy : rm_Y) (ph : Nat → Nat) (M : rm_M) {a b sp dp n : Nat} (h : (rm_kd b).1 = 9) (hlt : b < NC) :
    (rm_W NC cy ph M).set b (ph b, .inl (cy.1, (rm_kd b).2, .inl (va_cpy (M.1 a) (M.1 b) sp dp n))) = rm_W NC cy ph (rm_cp M a b sp dp n) := by
  refine rm_W_set NC cy ph M _ hlt ?_ (fun z hz => ?_)
  · rw [rm_e_int cy ph _ _ _ h]
    show Sum.inl (cy.1, (rm_kd b).2, Sum.inl (if b = b then va_cpy (M.1 a) (M.1 b) sp dp n else M.1 b)) = _
    rw [if_pos rfl]
  · show rm_e cy ph z (if z = b then va_cpy (M.1 a) (M.1 b) sp dp n else M.1 z) (M.2.1 z) M.2.2 = _
    rw [if_neg hz]
/-! the nest mates' links, and what a state must know -/
def rm_nw : List Cond := [.methodLinkNest RX0 51 yX7_sameArea "RingPages", .methodLinkNest RX1 83 yX7_holds "RingPages", .methodLinkNest RX3 19 yX7_holds "RingPages", .methodLinkNest RX4 57 yX7_holds "RingPages", .methodLinkNest RX5 89 yX7_isLaw "RingPages", .methodLinkNest RX6 61 yX7_holds "RingPages"]
def rm_N (U : State) : Prop := ∀ w ∈ rm_nw, va_Nw w U
theorem rm_N.warm {s U : State} (hW : s.WarmedH U.vm) (h : rm_N s) : rm_N U := by
  intro w hw
  have h1 := h w hw
  simp only [rm_nw, List.mem_cons, List.not_mem_nil, or_false] at hw
  rcases hw with rfl | rfl | rfl | rfl | rfl | rfl <;> exact va_Nw.warmM hW h1
theorem rm_N.same {s U : State} (hv : s.vm = U.vm) (h : rm_N s) : rm_N U := by
  intro w hw
  have h1 := h w hw
  simp only [rm_nw, List.mem_cons, List.not_mem_nil, or_false] at hw
  rcases hw with rfl | rfl | rfl | rfl | rfl | rfl <;> exact va_Nw.same rfl hv h1
abbrev rm_ty (cy : rm_Y) : List (ClassId × FieldType) := [(cy.1, .int), (cy.2.1, .long), (cy.2.2.1, .object "RingPages$State"), (cy.2.2.2, .array .int)]
def rm_P (NC : Nat) (cy : rm_Y) (ph : Nat → Nat) (D : va_G) (M : rm_M) (U : State) : Prop := va_P D vwCl (rm_W NC cy ph M) U.heap
def rm_B (NC : Nat) (cy : rm_Y) (ph : Nat → Nat) (D : va_G) (M : rm_M) (U : State) : Prop := rm_P NC cy ph D M U ∧ va_K D vwCl (rm_ty cy) U ∧ rm_N U
/-- where a walk is: program .. code, the post, array classes, tables, cells and slots so far -/
abbrev rm_G : Type := Program × Launch × Env × Room × State × MethodId × Array Value × List Frame × Method × Code × (State → Prop) × rm_Y × va_G × Nat × Nat
def rm_L (G : rm_G) (NC : Nat) (ph : Nat → Nat) (nL pc : Nat) (lv : List (Nat × Value)) (st : List Value) (M : rm_M) : Prop :=
  match G with
  | (p, l, e, R, s, m, args, below, meth, c, Q, cy, D, cells, slots) => ∀ (ls : Array Slot) (H : Heap) (locs : List Loc), lv_has ls nL lv → va_P D vwCl (rm_W NC cy ph M) H → va_S (rm_A NC ph) s.heap H locs → W p l e R s m args below meth c H locs cells slots Q (F0 m pc ls st)
def rm_k (G : rm_G) (NC : Nat) (ph : Nat → Nat) (cc : ByteArray) (own : String) (Ts : List Cond) (nL fr lo : Nat) : Prop :=
  match G with
  | (p, _, _, R, s, m, args, _, _, c, _, cy, D, cells, slots) => p.tables.exec = Jvm.exec ∧ c.code = cc ∧ c.maxLocals = nL ∧ s.vm.findClass own = some m.cls ∧ (∀ w ∈ Ts, w.before args s = true) ∧ va_K D vwCl (rm_ty cy) s ∧ rm_N s ∧ rm_inj NC ph ∧ R.frames = fr ∧ R.locals = lo ∧ cells ≤ R.cells ∧ slots ≤ R.slots
