def rm_F : Nat := 4096
def rm_lt1 {α β : Type} (x : α) (K : α → Option β) : Option β := K x
theorem rm_if {α : Type} {c : Prop} [Decidable c] {X : Option α} {rho : α} (h : (if c then X else none) = some rho) : c ∧ X = some rho := by
  by_cases q : c
  · rw [if_pos q] at h; exact ⟨q, h⟩
  · rw [if_neg q] at h; cases h
theorem rm_kself {NC q k n : Nat} (h : rm_kq NC q (k, n)) : rm_kq NC q (k, (rm_kd q).2) := ⟨by rw [h.1], h.2⟩
theorem rm_net {q : Nat} (h : rm_kd q = (1, 0)) : q = 14 ∨ q = 33 := by
  have h1 : ∀ q, q < 96 → rm_kd q = (1, 0) → q = 14 ∨ q = 33 := by decide +kernel
  exact h1 q (rm_lt (by rw [h]; decide)) h
theorem rm_sta {q : Nat} (h : rm_kd q = (4, 0)) : q = 52 ∨ q = 55 ∨ q = 58 ∨ q = 61 ∨ q = 64 ∨ q = 67 ∨ q = 70 ∨ q = 73 ∨ q = 76 := by
  have h1 : ∀ q, q < 96 → rm_kd q = (4, 0) → q = 52 ∨ q = 55 ∨ q = 58 ∨ q = 61 ∨ q = 64 ∨ q = 67 ∨ q = 70 ∨ q = 73 ∨ q = 76 := by decide +kernel
  exact h1 q (rm_lt (by rw [h]; decide)) h
theorem rm_kX1_1 {NC q : Nat} (hN : 79 ≤ NC) (h : rm_kq NC q (1, 0)) : rm_kq NC (q + 1) (12, 6) := by rcases rm_net h.1 with rfl | rfl <;> exact rm_c hN rfl (by decide)
theorem rm_kX1_8 {NC q : Nat} (hN : 79 ≤ NC) (h : rm_kq NC q (1, 0)) : rm_kq NC (q + 8) (12, 6) := by rcases rm_net h.1 with rfl | rfl <;> exact rm_c hN rfl (by decide)
theorem rm_kX1_15 {NC q : Nat} (hN : 79 ≤ NC) (h : rm_kq NC q (1, 0)) : rm_kq NC (q + 15) (9, 6) := by rcases rm_net h.1 with rfl | rfl <;> exact rm_c hN rfl (by decide)
theorem rm_kX1_16 {NC q : Nat} (hN : 79 ≤ NC) (h : rm_kq NC q (1, 0)) : rm_kq NC (q + 16) (9, 6) := by rcases rm_net h.1 with rfl | rfl <;> exact rm_c hN rfl (by decide)
theorem rm_kX1_17 {NC q : Nat} (hN : 79 ≤ NC) (h : rm_kq NC q (1, 0)) : rm_kq NC (q + 17) (10, 6) := by rcases rm_net h.1 with rfl | rfl <;> exact rm_c hN rfl (by decide)
theorem rm_kX1_18 {NC q : Nat} (hN : 79 ≤ NC) (h : rm_kq NC q (1, 0)) : rm_kq NC (q + 18) (10, 64) := by rcases rm_net h.1 with rfl | rfl <;> exact rm_c hN rfl (by decide)
theorem rm_kX4_1 {NC q : Nat} (hN : 79 ≤ NC) (h : rm_kq NC q (4, 0)) : rm_kq NC (q + 1) (9, 6) := by rcases rm_sta h.1 with rfl | rfl | rfl | rfl | rfl | rfl | rfl | rfl | rfl <;> exact rm_c hN rfl (by decide)
theorem rm_kX4_2 {NC q : Nat} (hN : 79 ≤ NC) (h : rm_kq NC q (4, 0)) : rm_kq NC (q + 2) (9, 6) := by rcases rm_sta h.1 with rfl | rfl | rfl | rfl | rfl | rfl | rfl | rfl | rfl <;> exact rm_c hN rfl (by decide)
theorem rm_ib_lt {i : Int32} {n : Nat} (h : rm_ib i n = true) : i.toNatClampNeg < n := Nat.not_le.mp fun z => rm_ib_in h (Or.inr z)
theorem rm_out {q : Nat} (h : rm_kd q = (12, 6)) : q = 15 ∨ q = 22 ∨ q = 34 ∨ q = 41 := by
  have h1 : ∀ q, q < 96 → rm_kd q = (12, 6) → q = 15 ∨ q = 22 ∨ q = 34 ∨ q = 41 := by decide +kernel
  exact h1 q (rm_lt (by rw [h]; decide)) h
theorem rm_kc1 {NC q : Nat} (hN : 79 ≤ NC) (h : rm_kd q = (1, 0)) : rm_kq NC q (1, 0) := by rcases rm_net h with rfl | rfl <;> exact rm_c hN rfl (by decide)
theorem rm_kc4 {NC q : Nat} (hN : 79 ≤ NC) (h : rm_kd q = (4, 0)) : rm_kq NC q (4, 0) := by rcases rm_sta h with rfl | rfl | rfl | rfl | rfl | rfl | rfl | rfl | rfl <;> exact rm_c hN rfl (by decide)
theorem rm_kR {NC q : Nat} {i : Int32} (hN : 79 ≤ NC) (h : rm_kq NC q (12, 6)) (hb : rm_ib i 6 = true) : rm_kq NC (q + 1 + i.toNatClampNeg) (9, 6) := by
  have hl := rm_ib_lt hb
  have key : ∀ k, k < 6 → rm_kd (15 + 1 + k) = (9, 6) ∧ rm_kd (22 + 1 + k) = (9, 6) ∧ rm_kd (34 + 1 + k) = (9, 6) ∧ rm_kd (41 + 1 + k) = (9, 6) := by decide +kernel
  have := key _ hl
  rcases rm_out h.1 with rfl | rfl | rfl | rfl
  · exact rm_c hN this.1 (by omega)
  · exact rm_c hN this.2.1 (by omega)
  · exact rm_c hN this.2.2.1 (by omega)
  · exact rm_c hN this.2.2.2 (by omega)
theorem rm_kS {NC : Nat} {i : Int32} (hN : 79 ≤ NC) (hb : rm_ib i 6 = true) : rm_kq NC (5 + 56 + 3 * i.toNatClampNeg) (4, 0) := by
  have hl := rm_ib_lt hb
  have key : ∀ k, k < 6 → rm_kd (5 + 56 + 3 * k) = (4, 0) := by decide +kernel
  exact rm_c hN (key _ hl) (by omega)
section RMR
variable {G : rm_G} {NC : Nat} {ph : Nat → Nat} {cc : ByteArray} {own : String} {Ts : List Cond} {nL fr lo pc : Nat} {lv : List (Nat × Value)} {st : List Value} {M : rm_M}
theorem rr_iconst (hG : rm_k G NC ph cc own Ts nL fr lo) {n : Int} {v : Int32} (hd : decode cc pc = .ok (.iconst n, 1)) (hv : Int32.ofInt n = v) (kk : rm_L G NC ph nL (pc + 1) lv (.int v :: st) M) : rm_L G NC ph nL pc lv (st) M := by
  obtain ⟨p, l, e, R, s, m, args, below, meth, c, Q, cy, D, cells, slots⟩ := G
  obtain ⟨hx, hb, hml, hown, hts, hK, hN, hi, hfr, hlo, hc, hs⟩ := hG
  intro ls H locs hl hP hS
  exact lv_iconst hx hb hd hv (kk ls H locs hl hP hS)
theorem rr_bipush (hG : rm_k G NC ph cc own Ts nL fr lo) {n : Int} {v : Int32} (hd : decode cc pc = .ok (.bipush n, 2)) (hv : (Int8.ofInt n).toInt32 = v) (kk : rm_L G NC ph nL (pc + 2) lv (.int v :: st) M) : rm_L G NC ph nL pc lv (st) M := by
  obtain ⟨p, l, e, R, s, m, args, below, meth, c, Q, cy, D, cells, slots⟩ := G
  obtain ⟨hx, hb, hml, hown, hts, hK, hN, hi, hfr, hlo, hc, hs⟩ := hG
  intro ls H locs hl hP hS
  exact lv_bipush hx hb hd hv (kk ls H locs hl hP hS)
theorem rr_sipush (hG : rm_k G NC ph cc own Ts nL fr lo) {n : Int} {v : Int32} (hd : decode cc pc = .ok (.sipush n, 3)) (hv : (Int16.ofInt n).toInt32 = v) (kk : rm_L G NC ph nL (pc + 3) lv (.int v :: st) M) : rm_L G NC ph nL pc lv (st) M := by
  obtain ⟨p, l, e, R, s, m, args, below, meth, c, Q, cy, D, cells, slots⟩ := G
  obtain ⟨hx, hb, hml, hown, hts, hK, hN, hi, hfr, hlo, hc, hs⟩ := hG
  intro ls H locs hl hP hS
  exact lv_sipush hx hb hd hv (kk ls H locs hl hP hS)
theorem rr_lconst (hG : rm_k G NC ph cc own Ts nL fr lo) {n : Fin 2} {v : Int64} (hd : decode cc pc = .ok (.lconst n, 1)) (hv : Int64.ofNat (n : Nat) = v) (kk : rm_L G NC ph nL (pc + 1) lv (.long v :: st) M) : rm_L G NC ph nL pc lv (st) M := by
  obtain ⟨p, l, e, R, s, m, args, below, meth, c, Q, cy, D, cells, slots⟩ := G
  obtain ⟨hx, hb, hml, hown, hts, hK, hN, hi, hfr, hlo, hc, hs⟩ := hG
  intro ls H locs hl hP hS
  exact lv_lconst hx hb hd hv (kk ls H locs hl hP hS)
theorem rr_ldc2 (hG : rm_k G NC ph cc own Ts nL fr lo) {n : Nat} {v : Int64} (hd : decode cc pc = .ok (.ldc2_w n, 3)) (hw : Cond.constantLong own n v ∈ Ts) (kk : rm_L G NC ph nL (pc + 3) lv (.long v :: st) M) : rm_L G NC ph nL pc lv (st) M := by
  obtain ⟨p, l, e, R, s, m, args, below, meth, c, Q, cy, D, cells, slots⟩ := G
  obtain ⟨hx, hb, hml, hown, hts, hK, hN, hi, hfr, hlo, hc, hs⟩ := hG
  intro ls H locs hl hP hS
  exact lv_ldc2 hx hb hown (hts _ hw) hd (kk ls H locs hl hP hS)
theorem rr_ldcw (hG : rm_k G NC ph cc own Ts nL fr lo) {n : Nat} {v : Int32} (hd : decode cc pc = .ok (.ldc_w n, 3)) (hw : Cond.constant own n v ∈ Ts) (kk : rm_L G NC ph nL (pc + 3) lv (.int v :: st) M) : rm_L G NC ph nL pc lv (st) M := by
  obtain ⟨p, l, e, R, s, m, args, below, meth, c, Q, cy, D, cells, slots⟩ := G
  obtain ⟨hx, hb, hml, hown, hts, hK, hN, hi, hfr, hlo, hc, hs⟩ := hG
  intro ls H locs hl hP hS
  exact lv_ldcw hx hb hown (hts _ hw) hd (kk ls H locs hl hP hS)
theorem rr_ldc (hG : rm_k G NC ph cc own Ts nL fr lo) {n : Nat} {v : Int32} (hd : decode cc pc = .ok (.ldc n, 2)) (hw : Cond.constant own n v ∈ Ts) (kk : rm_L G NC ph nL (pc + 2) lv (.int v :: st) M) : rm_L G NC ph nL pc lv (st) M := by
  obtain ⟨p, l, e, R, s, m, args, below, meth, c, Q, cy, D, cells, slots⟩ := G
  obtain ⟨hx, hb, hml, hown, hts, hK, hN, hi, hfr, hlo, hc, hs⟩ := hG
  intro ls H locs hl hP hS
  exact lv_ldc hx hb hown (hts _ hw) hd (kk ls H locs hl hP hS)
theorem rr_iload_n (hG : rm_k G NC ph cc own Ts nL fr lo) {k : Fin 4} {i : Nat} {x : Int32} (hd : decode cc pc = .ok (.iload_n k, 1)) (n : Nat) (hn : (k : Nat) = i) (ha : lv[n]? = some (i, .int x)) (kk : rm_L G NC ph nL (pc + 1) lv (.int x :: st) M) : rm_L G NC ph nL pc lv (st) M := by
  obtain ⟨p, l, e, R, s, m, args, below, meth, c, Q, cy, D, cells, slots⟩ := G
  obtain ⟨hx, hb, hml, hown, hts, hK, hN, hi, hfr, hlo, hc, hs⟩ := hG
  intro ls H locs hl hP hS
  exact lv_iload_n hx hb hd hn (lv_at hl n ha) (kk ls H locs hl hP hS)
theorem rr_iload (hG : rm_k G NC ph cc own Ts nL fr lo) {i : Nat} {x : Int32} (hd : decode cc pc = .ok (.iload i, 2)) (n : Nat) (ha : lv[n]? = some (i, .int x)) (kk : rm_L G NC ph nL (pc + 2) lv (.int x :: st) M) : rm_L G NC ph nL pc lv (st) M := by
  obtain ⟨p, l, e, R, s, m, args, below, meth, c, Q, cy, D, cells, slots⟩ := G
  obtain ⟨hx, hb, hml, hown, hts, hK, hN, hi, hfr, hlo, hc, hs⟩ := hG
  intro ls H locs hl hP hS
  exact lv_iload hx hb hd (lv_at hl n ha) (kk ls H locs hl hP hS)
theorem rr_istore_n (hG : rm_k G NC ph cc own Ts nL fr lo) {k : Fin 4} {i : Nat} {x : Int32} {lv2 : List (Nat × Value)} (hd : decode cc pc = .ok (.istore_n k, 1)) (hn : (k : Nat) = i) (hi2 : i < nL) (hl2 : (i, Value.int x) :: lv.filter (fun q => !(q.1 == i) && !(q.1 + 1 == i && q.2.category == 2)) = lv2) (kk : rm_L G NC ph nL (pc + 1) lv2 (st) M) : rm_L G NC ph nL pc lv (.int x :: st) M := by
  obtain ⟨p, l, e, R, s, m, args, below, meth, c, Q, cy, D, cells, slots⟩ := G
  obtain ⟨hx, hb, hml, hown, hts, hK, hN, hi, hfr, hlo, hc, hs⟩ := hG
  intro ls H locs hl hP hS
  exact lv_istore_n hx hb hd hn hl hi2 hl2 (fun ls hl => kk ls H locs hl hP hS)
theorem rr_istore (hG : rm_k G NC ph cc own Ts nL fr lo) {i : Nat} {x : Int32} {lv2 : List (Nat × Value)} (hd : decode cc pc = .ok (.istore i, 2)) (hi2 : i < nL) (hl2 : (i, Value.int x) :: lv.filter (fun q => !(q.1 == i) && !(q.1 + 1 == i && q.2.category == 2)) = lv2) (kk : rm_L G NC ph nL (pc + 2) lv2 (st) M) : rm_L G NC ph nL pc lv (.int x :: st) M := by
  obtain ⟨p, l, e, R, s, m, args, below, meth, c, Q, cy, D, cells, slots⟩ := G
  obtain ⟨hx, hb, hml, hown, hts, hK, hN, hi, hfr, hlo, hc, hs⟩ := hG
  intro ls H locs hl hP hS
  exact lv_istore hx hb hd hl hi2 hl2 (fun ls hl => kk ls H locs hl hP hS)
theorem rr_lload_n (hG : rm_k G NC ph cc own Ts nL fr lo) {k : Fin 4} {i : Nat} {x : Int64} (hd : decode cc pc = .ok (.lload_n k, 1)) (n : Nat) (hn : (k : Nat) = i) (ha : lv[n]? = some (i, .long x)) (kk : rm_L G NC ph nL (pc + 1) lv (.long x :: st) M) : rm_L G NC ph nL pc lv (st) M := by
  obtain ⟨p, l, e, R, s, m, args, below, meth, c, Q, cy, D, cells, slots⟩ := G
  obtain ⟨hx, hb, hml, hown, hts, hK, hN, hi, hfr, hlo, hc, hs⟩ := hG
  intro ls H locs hl hP hS
  exact lv_lload_n hx hb hd hn (lv_at hl n ha) (kk ls H locs hl hP hS)
theorem rr_lload (hG : rm_k G NC ph cc own Ts nL fr lo) {i : Nat} {x : Int64} (hd : decode cc pc = .ok (.lload i, 2)) (n : Nat) (ha : lv[n]? = some (i, .long x)) (kk : rm_L G NC ph nL (pc + 2) lv (.long x :: st) M) : rm_L G NC ph nL pc lv (st) M := by
  obtain ⟨p, l, e, R, s, m, args, below, meth, c, Q, cy, D, cells, slots⟩ := G
  obtain ⟨hx, hb, hml, hown, hts, hK, hN, hi, hfr, hlo, hc, hs⟩ := hG
  intro ls H locs hl hP hS
  exact lv_lload hx hb hd (lv_at hl n ha) (kk ls H locs hl hP hS)
theorem rr_lstore_n (hG : rm_k G NC ph cc own Ts nL fr lo) {k : Fin 4} {i : Nat} {x : Int64} {lv2 : List (Nat × Value)} (hd : decode cc pc = .ok (.lstore_n k, 1)) (hn : (k : Nat) = i) (hi2 : i + 1 < nL) (hl2 : (i, Value.long x) :: lv.filter (fun q => !(q.1 == i) && (!(q.1 == i + 1) && !(q.1 + 1 == i && q.2.category == 2))) = lv2) (kk : rm_L G NC ph nL (pc + 1) lv2 (st) M) : rm_L G NC ph nL pc lv (.long x :: st) M := by
  obtain ⟨p, l, e, R, s, m, args, below, meth, c, Q, cy, D, cells, slots⟩ := G
  obtain ⟨hx, hb, hml, hown, hts, hK, hN, hi, hfr, hlo, hc, hs⟩ := hG
  intro ls H locs hl hP hS
  exact lv_lstore_n hx hb hd hn hl hi2 hl2 (fun ls hl => kk ls H locs hl hP hS)
theorem rr_lstore (hG : rm_k G NC ph cc own Ts nL fr lo) {i : Nat} {x : Int64} {lv2 : List (Nat × Value)} (hd : decode cc pc = .ok (.lstore i, 2)) (hi2 : i + 1 < nL) (hl2 : (i, Value.long x) :: lv.filter (fun q => !(q.1 == i) && (!(q.1 == i + 1) && !(q.1 + 1 == i && q.2.category == 2))) = lv2) (kk : rm_L G NC ph nL (pc + 2) lv2 (st) M) : rm_L G NC ph nL pc lv (.long x :: st) M := by
  obtain ⟨p, l, e, R, s, m, args, below, meth, c, Q, cy, D, cells, slots⟩ := G
  obtain ⟨hx, hb, hml, hown, hts, hK, hN, hi, hfr, hlo, hc, hs⟩ := hG
  intro ls H locs hl hP hS
  exact lv_lstore hx hb hd hl hi2 hl2 (fun ls hl => kk ls H locs hl hP hS)
theorem rr_aload_n (hG : rm_k G NC ph cc own Ts nL fr lo) {k : Fin 4} {i : Nat} {x : Nat} (hd : decode cc pc = .ok (.aload_n k, 1)) (n : Nat) (hn : (k : Nat) = i) (ha : lv[n]? = some (i, .ref x)) (kk : rm_L G NC ph nL (pc + 1) lv (.ref x :: st) M) : rm_L G NC ph nL pc lv (st) M := by
  obtain ⟨p, l, e, R, s, m, args, below, meth, c, Q, cy, D, cells, slots⟩ := G
  obtain ⟨hx, hb, hml, hown, hts, hK, hN, hi, hfr, hlo, hc, hs⟩ := hG
  intro ls H locs hl hP hS
  exact lv_aload_n hx hb hd hn (lv_at hl n ha) (kk ls H locs hl hP hS)
theorem rr_aload (hG : rm_k G NC ph cc own Ts nL fr lo) {i : Nat} {x : Nat} (hd : decode cc pc = .ok (.aload i, 2)) (n : Nat) (ha : lv[n]? = some (i, .ref x)) (kk : rm_L G NC ph nL (pc + 2) lv (.ref x :: st) M) : rm_L G NC ph nL pc lv (st) M := by
  obtain ⟨p, l, e, R, s, m, args, below, meth, c, Q, cy, D, cells, slots⟩ := G
  obtain ⟨hx, hb, hml, hown, hts, hK, hN, hi, hfr, hlo, hc, hs⟩ := hG
  intro ls H locs hl hP hS
  exact lv_aload hx hb hd (lv_at hl n ha) (kk ls H locs hl hP hS)
theorem rr_astore_n (hG : rm_k G NC ph cc own Ts nL fr lo) {k : Fin 4} {i : Nat} {x : Nat} {lv2 : List (Nat × Value)} (hd : decode cc pc = .ok (.astore_n k, 1)) (hn : (k : Nat) = i) (hi2 : i < nL) (hl2 : (i, Value.ref x) :: lv.filter (fun q => !(q.1 == i) && !(q.1 + 1 == i && q.2.category == 2)) = lv2) (kk : rm_L G NC ph nL (pc + 1) lv2 (st) M) : rm_L G NC ph nL pc lv (.ref x :: st) M := by
  obtain ⟨p, l, e, R, s, m, args, below, meth, c, Q, cy, D, cells, slots⟩ := G
  obtain ⟨hx, hb, hml, hown, hts, hK, hN, hi, hfr, hlo, hc, hs⟩ := hG
  intro ls H locs hl hP hS
  exact lv_astore_n hx hb hd hn hl hi2 hl2 (fun ls hl => kk ls H locs hl hP hS)
theorem rr_astore (hG : rm_k G NC ph cc own Ts nL fr lo) {i : Nat} {x : Nat} {lv2 : List (Nat × Value)} (hd : decode cc pc = .ok (.astore i, 2)) (hi2 : i < nL) (hl2 : (i, Value.ref x) :: lv.filter (fun q => !(q.1 == i) && !(q.1 + 1 == i && q.2.category == 2)) = lv2) (kk : rm_L G NC ph nL (pc + 2) lv2 (st) M) : rm_L G NC ph nL pc lv (.ref x :: st) M := by
  obtain ⟨p, l, e, R, s, m, args, below, meth, c, Q, cy, D, cells, slots⟩ := G
  obtain ⟨hx, hb, hml, hown, hts, hK, hN, hi, hfr, hlo, hc, hs⟩ := hG
  intro ls H locs hl hP hS
  exact lv_astore hx hb hd hl hi2 hl2 (fun ls hl => kk ls H locs hl hP hS)
theorem rr_iinc (hG : rm_k G NC ph cc own Ts nL fr lo) {i k : Nat} {n : Int} {x v : Int32} {lv2 : List (Nat × Value)} (hd : decode cc pc = .ok (.iinc i n, 3)) (hk : lv[k]? = some (i, .int x)) (hv : x + Int32.ofInt n = v) (hi2 : i < nL) (hl2 : (i, Value.int v) :: lv.filter (fun q => !(q.1 == i) && !(q.1 + 1 == i && q.2.category == 2)) = lv2) (kk : rm_L G NC ph nL (pc + 3) lv2 (st) M) : rm_L G NC ph nL pc lv (st) M := by
  obtain ⟨p, l, e, R, s, m, args, below, meth, c, Q, cy, D, cells, slots⟩ := G
  obtain ⟨hx, hb, hml, hown, hts, hK, hN, hi, hfr, hlo, hc, hs⟩ := hG
  intro ls H locs hl hP hS
  exact lv_iinc hx hb hd hl hk hv hi2 hl2 (fun ls hl => kk ls H locs hl hP hS)
theorem rr_iadd (hG : rm_k G NC ph cc own Ts nL fr lo) {x y : Int32} (hd : decode cc pc = .ok (.iadd, 1))  (kk : rm_L G NC ph nL (pc + 1) lv (.int (x + y) :: st) M) : rm_L G NC ph nL pc lv (.int y :: .int x :: st) M := by
  obtain ⟨p, l, e, R, s, m, args, below, meth, c, Q, cy, D, cells, slots⟩ := G
  obtain ⟨hx, hb, hml, hown, hts, hK, hN, hi, hfr, hlo, hc, hs⟩ := hG
  intro ls H locs hl hP hS
  exact lv_iadd hx hb hd (kk ls H locs hl hP hS)
theorem rr_isub (hG : rm_k G NC ph cc own Ts nL fr lo) {x y : Int32} (hd : decode cc pc = .ok (.isub, 1))  (kk : rm_L G NC ph nL (pc + 1) lv (.int (x - y) :: st) M) : rm_L G NC ph nL pc lv (.int y :: .int x :: st) M := by
  obtain ⟨p, l, e, R, s, m, args, below, meth, c, Q, cy, D, cells, slots⟩ := G
  obtain ⟨hx, hb, hml, hown, hts, hK, hN, hi, hfr, hlo, hc, hs⟩ := hG
  intro ls H locs hl hP hS
  exact lv_isub hx hb hd (kk ls H locs hl hP hS)
theorem rr_imul (hG : rm_k G NC ph cc own Ts nL fr lo) {x y : Int32} (hd : decode cc pc = .ok (.imul, 1))  (kk : rm_L G NC ph nL (pc + 1) lv (.int (x * y) :: st) M) : rm_L G NC ph nL pc lv (.int y :: .int x :: st) M := by
  obtain ⟨p, l, e, R, s, m, args, below, meth, c, Q, cy, D, cells, slots⟩ := G
  obtain ⟨hx, hb, hml, hown, hts, hK, hN, hi, hfr, hlo, hc, hs⟩ := hG
  intro ls H locs hl hP hS
  exact lv_imul hx hb hd (kk ls H locs hl hP hS)
theorem rr_iand (hG : rm_k G NC ph cc own Ts nL fr lo) {x y : Int32} (hd : decode cc pc = .ok (.iand, 1))  (kk : rm_L G NC ph nL (pc + 1) lv (.int (x &&& y) :: st) M) : rm_L G NC ph nL pc lv (.int y :: .int x :: st) M := by
  obtain ⟨p, l, e, R, s, m, args, below, meth, c, Q, cy, D, cells, slots⟩ := G
  obtain ⟨hx, hb, hml, hown, hts, hK, hN, hi, hfr, hlo, hc, hs⟩ := hG
  intro ls H locs hl hP hS
  exact lv_iand hx hb hd (kk ls H locs hl hP hS)
theorem rr_ior (hG : rm_k G NC ph cc own Ts nL fr lo) {x y : Int32} (hd : decode cc pc = .ok (.ior, 1))  (kk : rm_L G NC ph nL (pc + 1) lv (.int (x ||| y) :: st) M) : rm_L G NC ph nL pc lv (.int y :: .int x :: st) M := by
  obtain ⟨p, l, e, R, s, m, args, below, meth, c, Q, cy, D, cells, slots⟩ := G
  obtain ⟨hx, hb, hml, hown, hts, hK, hN, hi, hfr, hlo, hc, hs⟩ := hG
  intro ls H locs hl hP hS
  exact lv_ior hx hb hd (kk ls H locs hl hP hS)
theorem rr_ixor (hG : rm_k G NC ph cc own Ts nL fr lo) {x y : Int32} (hd : decode cc pc = .ok (.ixor, 1))  (kk : rm_L G NC ph nL (pc + 1) lv (.int (x ^^^ y) :: st) M) : rm_L G NC ph nL pc lv (.int y :: .int x :: st) M := by
  obtain ⟨p, l, e, R, s, m, args, below, meth, c, Q, cy, D, cells, slots⟩ := G
  obtain ⟨hx, hb, hml, hown, hts, hK, hN, hi, hfr, hlo, hc, hs⟩ := hG
  intro ls H locs hl hP hS
  exact lv_ixor hx hb hd (kk ls H locs hl hP hS)
theorem rr_ishl (hG : rm_k G NC ph cc own Ts nL fr lo) {x y : Int32} (hd : decode cc pc = .ok (.ishl, 1))  (kk : rm_L G NC ph nL (pc + 1) lv (.int (x <<< (y &&& 31)) :: st) M) : rm_L G NC ph nL pc lv (.int y :: .int x :: st) M := by
  obtain ⟨p, l, e, R, s, m, args, below, meth, c, Q, cy, D, cells, slots⟩ := G
  obtain ⟨hx, hb, hml, hown, hts, hK, hN, hi, hfr, hlo, hc, hs⟩ := hG
  intro ls H locs hl hP hS
  exact lv_ishl hx hb hd (kk ls H locs hl hP hS)
theorem rr_ishr (hG : rm_k G NC ph cc own Ts nL fr lo) {x y : Int32} (hd : decode cc pc = .ok (.ishr, 1))  (kk : rm_L G NC ph nL (pc + 1) lv (.int (x >>> (y &&& 31)) :: st) M) : rm_L G NC ph nL pc lv (.int y :: .int x :: st) M := by
  obtain ⟨p, l, e, R, s, m, args, below, meth, c, Q, cy, D, cells, slots⟩ := G
  obtain ⟨hx, hb, hml, hown, hts, hK, hN, hi, hfr, hlo, hc, hs⟩ := hG
  intro ls H locs hl hP hS
  exact lv_ishr hx hb hd (kk ls H locs hl hP hS)
theorem rr_ladd (hG : rm_k G NC ph cc own Ts nL fr lo) {x y : Int64} (hd : decode cc pc = .ok (.ladd, 1))  (kk : rm_L G NC ph nL (pc + 1) lv (.long (x + y) :: st) M) : rm_L G NC ph nL pc lv (.long y :: .long x :: st) M := by
  obtain ⟨p, l, e, R, s, m, args, below, meth, c, Q, cy, D, cells, slots⟩ := G
  obtain ⟨hx, hb, hml, hown, hts, hK, hN, hi, hfr, hlo, hc, hs⟩ := hG
  intro ls H locs hl hP hS
  exact lv_ladd hx hb hd (kk ls H locs hl hP hS)
theorem rr_lsub (hG : rm_k G NC ph cc own Ts nL fr lo) {x y : Int64} (hd : decode cc pc = .ok (.lsub, 1))  (kk : rm_L G NC ph nL (pc + 1) lv (.long (x - y) :: st) M) : rm_L G NC ph nL pc lv (.long y :: .long x :: st) M := by
  obtain ⟨p, l, e, R, s, m, args, below, meth, c, Q, cy, D, cells, slots⟩ := G
  obtain ⟨hx, hb, hml, hown, hts, hK, hN, hi, hfr, hlo, hc, hs⟩ := hG
  intro ls H locs hl hP hS
  exact lv_lsub hx hb hd (kk ls H locs hl hP hS)
theorem rr_lmul (hG : rm_k G NC ph cc own Ts nL fr lo) {x y : Int64} (hd : decode cc pc = .ok (.lmul, 1))  (kk : rm_L G NC ph nL (pc + 1) lv (.long (x * y) :: st) M) : rm_L G NC ph nL pc lv (.long y :: .long x :: st) M := by
  obtain ⟨p, l, e, R, s, m, args, below, meth, c, Q, cy, D, cells, slots⟩ := G
  obtain ⟨hx, hb, hml, hown, hts, hK, hN, hi, hfr, hlo, hc, hs⟩ := hG
  intro ls H locs hl hP hS
  exact lv_lmul hx hb hd (kk ls H locs hl hP hS)
theorem rr_iushr (hG : rm_k G NC ph cc own Ts nL fr lo) {x y : Int32} (hd : decode cc pc = .ok (.iushr, 1))  (kk : rm_L G NC ph nL (pc + 1) lv (.int (x.toUInt32 >>> (y.toUInt32 &&& Int32.toUInt32 31)).toInt32 :: st) M) : rm_L G NC ph nL pc lv (.int y :: .int x :: st) M := by
  obtain ⟨p, l, e, R, s, m, args, below, meth, c, Q, cy, D, cells, slots⟩ := G
  obtain ⟨hx, hb, hml, hown, hts, hK, hN, hi, hfr, hlo, hc, hs⟩ := hG
  intro ls H locs hl hP hS
  exact lv_iushr hx hb hd rfl (kk ls H locs hl hP hS)
theorem rr_ineg (hG : rm_k G NC ph cc own Ts nL fr lo) {x : Int32} (hd : decode cc pc = .ok (.ineg, 1))  (kk : rm_L G NC ph nL (pc + 1) lv (.int (-x) :: st) M) : rm_L G NC ph nL pc lv (.int x :: st) M := by
  obtain ⟨p, l, e, R, s, m, args, below, meth, c, Q, cy, D, cells, slots⟩ := G
  obtain ⟨hx, hb, hml, hown, hts, hK, hN, hi, hfr, hlo, hc, hs⟩ := hG
  intro ls H locs hl hP hS
  exact lv_ineg hx hb hd (kk ls H locs hl hP hS)
theorem rr_lneg (hG : rm_k G NC ph cc own Ts nL fr lo) {x : Int64} (hd : decode cc pc = .ok (.lneg, 1))  (kk : rm_L G NC ph nL (pc + 1) lv (.long (-x) :: st) M) : rm_L G NC ph nL pc lv (.long x :: st) M := by
  obtain ⟨p, l, e, R, s, m, args, below, meth, c, Q, cy, D, cells, slots⟩ := G
  obtain ⟨hx, hb, hml, hown, hts, hK, hN, hi, hfr, hlo, hc, hs⟩ := hG
  intro ls H locs hl hP hS
  exact lv_lneg hx hb hd (kk ls H locs hl hP hS)
theorem rr_i2l (hG : rm_k G NC ph cc own Ts nL fr lo) {x : Int32} (hd : decode cc pc = .ok (.i2l, 1))  (kk : rm_L G NC ph nL (pc + 1) lv (.long x.toInt64 :: st) M) : rm_L G NC ph nL pc lv (.int x :: st) M := by
  obtain ⟨p, l, e, R, s, m, args, below, meth, c, Q, cy, D, cells, slots⟩ := G
  obtain ⟨hx, hb, hml, hown, hts, hK, hN, hi, hfr, hlo, hc, hs⟩ := hG
  intro ls H locs hl hP hS
  exact lv_i2l hx hb hd rfl (kk ls H locs hl hP hS)
theorem rr_l2i (hG : rm_k G NC ph cc own Ts nL fr lo) {x : Int64} (hd : decode cc pc = .ok (.l2i, 1))  (kk : rm_L G NC ph nL (pc + 1) lv (.int x.toInt32 :: st) M) : rm_L G NC ph nL pc lv (.long x :: st) M := by
  obtain ⟨p, l, e, R, s, m, args, below, meth, c, Q, cy, D, cells, slots⟩ := G
  obtain ⟨hx, hb, hml, hown, hts, hK, hN, hi, hfr, hlo, hc, hs⟩ := hG
  intro ls H locs hl hP hS
  exact lv_l2i hx hb hd rfl (kk ls H locs hl hP hS)
theorem rr_lcmp (hG : rm_k G NC ph cc own Ts nL fr lo) {x y : Int64} (hd : decode cc pc = .ok (.lcmp, 1))  (kk : rm_L G NC ph nL (pc + 1) lv (.int (lg_cmp x y) :: st) M) : rm_L G NC ph nL pc lv (.long y :: .long x :: st) M := by
  obtain ⟨p, l, e, R, s, m, args, below, meth, c, Q, cy, D, cells, slots⟩ := G
  obtain ⟨hx, hb, hml, hown, hts, hK, hN, hi, hfr, hlo, hc, hs⟩ := hG
  intro ls H locs hl hP hS
  exact W.lcmp hx hb hd (kk ls H locs hl hP hS)
theorem rr_idiv (hG : rm_k G NC ph cc own Ts nL fr lo) {α : Type} {x y : Int32} {X : Option α} {rho : α} (hd : decode cc pc = .ok (.idiv, 1)) (hf : (if y = 0 then none else X) = some rho) (kk : X = some rho → rm_L G NC ph nL (pc + 1) lv (.int (x / y) :: st) M) : rm_L G NC ph nL pc lv (.int y :: .int x :: st) M := by
  have hne : ¬ y = 0 := fun q => by rw [if_pos q] at hf; cases hf
  rw [if_neg hne] at hf
  have kk := kk hf
  obtain ⟨p, l, e, R, s, m, args, below, meth, c, Q, cy, D, cells, slots⟩ := G
  obtain ⟨hx, hb, hml, hown, hts, hK, hN, hi, hfr, hlo, hc, hs⟩ := hG
  intro ls H locs hl hP hS
  exact lv_idiv hx hb hd hne (kk ls H locs hl hP hS)
theorem rr_irem (hG : rm_k G NC ph cc own Ts nL fr lo) {α : Type} {x y : Int32} {X : Option α} {rho : α} (hd : decode cc pc = .ok (.irem, 1)) (hf : (if y = 0 then none else X) = some rho) (kk : X = some rho → rm_L G NC ph nL (pc + 1) lv (.int (x - x / y * y) :: st) M) : rm_L G NC ph nL pc lv (.int y :: .int x :: st) M := by
  have hne : ¬ y = 0 := fun q => by rw [if_pos q] at hf; cases hf
  rw [if_neg hne] at hf
  have kk := kk hf
  obtain ⟨p, l, e, R, s, m, args, below, meth, c, Q, cy, D, cells, slots⟩ := G
  obtain ⟨hx, hb, hml, hown, hts, hK, hN, hi, hfr, hlo, hc, hs⟩ := hG
  intro ls H locs hl hP hS
  exact lv_irem hx hb hd hne (kk ls H locs hl hP hS)
theorem rr_ldiv (hG : rm_k G NC ph cc own Ts nL fr lo) {α : Type} {x y : Int64} {X : Option α} {rho : α} (hd : decode cc pc = .ok (.ldiv, 1)) (hf : (if y = 0 then none else X) = some rho) (kk : X = some rho → rm_L G NC ph nL (pc + 1) lv (.long (x / y) :: st) M) : rm_L G NC ph nL pc lv (.long y :: .long x :: st) M := by
  have hne : ¬ y = 0 := fun q => by rw [if_pos q] at hf; cases hf
  rw [if_neg hne] at hf
  have kk := kk hf
  obtain ⟨p, l, e, R, s, m, args, below, meth, c, Q, cy, D, cells, slots⟩ := G
  obtain ⟨hx, hb, hml, hown, hts, hK, hN, hi, hfr, hlo, hc, hs⟩ := hG
  intro ls H locs hl hP hS
  exact lv_ldiv hx hb hd hne (kk ls H locs hl hP hS)
theorem rr_lrem (hG : rm_k G NC ph cc own Ts nL fr lo) {α : Type} {x y : Int64} {X : Option α} {rho : α} (hd : decode cc pc = .ok (.lrem, 1)) (hf : (if y = 0 then none else X) = some rho) (kk : X = some rho → rm_L G NC ph nL (pc + 1) lv (.long (x - x / y * y) :: st) M) : rm_L G NC ph nL pc lv (.long y :: .long x :: st) M := by
  have hne : ¬ y = 0 := fun q => by rw [if_pos q] at hf; cases hf
  rw [if_neg hne] at hf
  have kk := kk hf
  obtain ⟨p, l, e, R, s, m, args, below, meth, c, Q, cy, D, cells, slots⟩ := G
  obtain ⟨hx, hb, hml, hown, hts, hK, hN, hi, hfr, hlo, hc, hs⟩ := hG
  intro ls H locs hl hP hS
  exact lv_lrem hx hb hd hne (kk ls H locs hl hP hS)
theorem rr_dup (hG : rm_k G NC ph cc own Ts nL fr lo) {va : Value} (hd : decode cc pc = .ok (.dup, 1)) (hva : va.category = 1) (kk : rm_L G NC ph nL (pc + 1) lv (va :: va :: st) M) : rm_L G NC ph nL pc lv (va :: st) M := by
  obtain ⟨p, l, e, R, s, m, args, below, meth, c, Q, cy, D, cells, slots⟩ := G
  obtain ⟨hx, hb, hml, hown, hts, hK, hN, hi, hfr, hlo, hc, hs⟩ := hG
  intro ls H locs hl hP hS
  exact lv_dup hx hb hd hva (kk ls H locs hl hP hS)
theorem rr_dup2 (hG : rm_k G NC ph cc own Ts nL fr lo) {va vb : Value} (hd : decode cc pc = .ok (.dup2, 1)) (hva : va.category = 1) (hvb : vb.category = 1) (kk : rm_L G NC ph nL (pc + 1) lv (va :: vb :: va :: vb :: st) M) : rm_L G NC ph nL pc lv (va :: vb :: st) M := by
  obtain ⟨p, l, e, R, s, m, args, below, meth, c, Q, cy, D, cells, slots⟩ := G
  obtain ⟨hx, hb, hml, hown, hts, hK, hN, hi, hfr, hlo, hc, hs⟩ := hG
  intro ls H locs hl hP hS
  exact lv_dup2_11 hx hb hd hva hvb (kk ls H locs hl hP hS)
theorem rr_pop (hG : rm_k G NC ph cc own Ts nL fr lo) {va : Value} (hd : decode cc pc = .ok (.pop, 1)) (hva : va.category = 1) (kk : rm_L G NC ph nL (pc + 1) lv (st) M) : rm_L G NC ph nL pc lv (va :: st) M := by
  obtain ⟨p, l, e, R, s, m, args, below, meth, c, Q, cy, D, cells, slots⟩ := G
  obtain ⟨hx, hb, hml, hown, hts, hK, hN, hi, hfr, hlo, hc, hs⟩ := hG
  intro ls H locs hl hP hS
  exact lv_pop hx hb hd hva (kk ls H locs hl hP hS)
theorem rr_pop2 (hG : rm_k G NC ph cc own Ts nL fr lo) {va : Value} (hd : decode cc pc = .ok (.pop2, 1)) (hva : va.category = 2) (kk : rm_L G NC ph nL (pc + 1) lv (st) M) : rm_L G NC ph nL pc lv (va :: st) M := by
  obtain ⟨p, l, e, R, s, m, args, below, meth, c, Q, cy, D, cells, slots⟩ := G
  obtain ⟨hx, hb, hml, hown, hts, hK, hN, hi, hfr, hlo, hc, hs⟩ := hG
  intro ls H locs hl hP hS
  exact lv_pop2_2 hx hb hd hva (kk ls H locs hl hP hS)
theorem rr_goto (hG : rm_k G NC ph cc own Ts nL fr lo) {off : Int} {tgt : Nat} (hd : decode cc pc = .ok (.goto off, 3)) (ht : (pc : Int) + off = (tgt : Int)) (kk : rm_L G NC ph nL tgt lv (st) M) : rm_L G NC ph nL pc lv (st) M := by
  obtain ⟨p, l, e, R, s, m, args, below, meth, c, Q, cy, D, cells, slots⟩ := G
  obtain ⟨hx, hb, hml, hown, hts, hK, hN, hi, hfr, hlo, hc, hs⟩ := hG
  intro ls H locs hl hP hS
  exact lv_goto hx hb hd ht (kk ls H locs hl hP hS)
theorem rr_icmp_eq (hG : rm_k G NC ph cc own Ts nL fr lo) {α : Type} {x y : Int32} {off : Int} {tgt : Nat} {X Y : Option α} {rho : α} (hd : decode cc pc = .ok (.if_icmp .eq off, 3)) (ht : (pc : Int) + off = (tgt : Int)) (hf : (if x = y then X else Y) = some rho) (kt : x = y → X = some rho → rm_L G NC ph nL tgt lv (st) M) (kf : ¬ (x = y) → Y = some rho → rm_L G NC ph nL (pc + 3) lv (st) M) : rm_L G NC ph nL pc lv (.int y :: .int x :: st) M := by
  obtain ⟨p, l, e, R, s, m, args, below, meth, c, Q, cy, D, cells, slots⟩ := G
  obtain ⟨hx, hb, hml, hown, hts, hK, hN, hi, hfr, hlo, hc, hs⟩ := hG
  intro ls H locs hl hP hS
  refine lv_icmp_eq hx hb hd ht (fun q => ?_) (fun q => ?_)
  · exact kt q (by rw [if_pos q] at hf; exact hf) ls H locs hl hP hS
  · exact kf q (by rw [if_neg q] at hf; exact hf) ls H locs hl hP hS
theorem rr_if_eq (hG : rm_k G NC ph cc own Ts nL fr lo) {α : Type} {x : Int32} {off : Int} {tgt : Nat} {X Y : Option α} {rho : α} (hd : decode cc pc = .ok (.ifCond .eq off, 3)) (ht : (pc : Int) + off = (tgt : Int)) (hf : (if x = 0 then X else Y) = some rho) (kt : x = 0 → X = some rho → rm_L G NC ph nL tgt lv (st) M) (kf : ¬ (x = 0) → Y = some rho → rm_L G NC ph nL (pc + 3) lv (st) M) : rm_L G NC ph nL pc lv (.int x :: st) M := by
  obtain ⟨p, l, e, R, s, m, args, below, meth, c, Q, cy, D, cells, slots⟩ := G
  obtain ⟨hx, hb, hml, hown, hts, hK, hN, hi, hfr, hlo, hc, hs⟩ := hG
  intro ls H locs hl hP hS
  refine lv_if_eq hx hb hd ht (fun q => ?_) (fun q => ?_)
  · exact kt q (by rw [if_pos q] at hf; exact hf) ls H locs hl hP hS
  · exact kf q (by rw [if_neg q] at hf; exact hf) ls H locs hl hP hS
theorem rr_icmp_lt (hG : rm_k G NC ph cc own Ts nL fr lo) {α : Type} {x y : Int32} {off : Int} {tgt : Nat} {X Y : Option α} {rho : α} (hd : decode cc pc = .ok (.if_icmp .lt off, 3)) (ht : (pc : Int) + off = (tgt : Int)) (hf : (if x < y then X else Y) = some rho) (kt : x < y → X = some rho → rm_L G NC ph nL tgt lv (st) M) (kf : ¬ (x < y) → Y = some rho → rm_L G NC ph nL (pc + 3) lv (st) M) : rm_L G NC ph nL pc lv (.int y :: .int x :: st) M := by
  obtain ⟨p, l, e, R, s, m, args, below, meth, c, Q, cy, D, cells, slots⟩ := G
  obtain ⟨hx, hb, hml, hown, hts, hK, hN, hi, hfr, hlo, hc, hs⟩ := hG
  intro ls H locs hl hP hS
  refine lv_icmp_lt hx hb hd ht (fun q => ?_) (fun q => ?_)
  · exact kt q (by rw [if_pos q] at hf; exact hf) ls H locs hl hP hS
  · exact kf q (by rw [if_neg q] at hf; exact hf) ls H locs hl hP hS
theorem rr_if_lt (hG : rm_k G NC ph cc own Ts nL fr lo) {α : Type} {x : Int32} {off : Int} {tgt : Nat} {X Y : Option α} {rho : α} (hd : decode cc pc = .ok (.ifCond .lt off, 3)) (ht : (pc : Int) + off = (tgt : Int)) (hf : (if x < 0 then X else Y) = some rho) (kt : x < 0 → X = some rho → rm_L G NC ph nL tgt lv (st) M) (kf : ¬ (x < 0) → Y = some rho → rm_L G NC ph nL (pc + 3) lv (st) M) : rm_L G NC ph nL pc lv (.int x :: st) M := by
  obtain ⟨p, l, e, R, s, m, args, below, meth, c, Q, cy, D, cells, slots⟩ := G
  obtain ⟨hx, hb, hml, hown, hts, hK, hN, hi, hfr, hlo, hc, hs⟩ := hG
  intro ls H locs hl hP hS
  refine lv_if_lt hx hb hd ht (fun q => ?_) (fun q => ?_)
  · exact kt q (by rw [if_pos q] at hf; exact hf) ls H locs hl hP hS
  · exact kf q (by rw [if_neg q] at hf; exact hf) ls H locs hl hP hS
theorem rr_icmp_ge (hG : rm_k G NC ph cc own Ts nL fr lo) {α : Type} {x y : Int32} {off : Int} {tgt : Nat} {X Y : Option α} {rho : α} (hd : decode cc pc = .ok (.if_icmp .ge off, 3)) (ht : (pc : Int) + off = (tgt : Int)) (hf : (if y ≤ x then X else Y) = some rho) (kt : y ≤ x → X = some rho → rm_L G NC ph nL tgt lv (st) M) (kf : ¬ (y ≤ x) → Y = some rho → rm_L G NC ph nL (pc + 3) lv (st) M) : rm_L G NC ph nL pc lv (.int y :: .int x :: st) M := by
  obtain ⟨p, l, e, R, s, m, args, below, meth, c, Q, cy, D, cells, slots⟩ := G
  obtain ⟨hx, hb, hml, hown, hts, hK, hN, hi, hfr, hlo, hc, hs⟩ := hG
  intro ls H locs hl hP hS
  refine lv_icmp_ge hx hb hd ht (fun q => ?_) (fun q => ?_)
  · exact kt q (by rw [if_pos q] at hf; exact hf) ls H locs hl hP hS
  · exact kf q (by rw [if_neg q] at hf; exact hf) ls H locs hl hP hS
theorem rr_if_ge (hG : rm_k G NC ph cc own Ts nL fr lo) {α : Type} {x : Int32} {off : Int} {tgt : Nat} {X Y : Option α} {rho : α} (hd : decode cc pc = .ok (.ifCond .ge off, 3)) (ht : (pc : Int) + off = (tgt : Int)) (hf : (if 0 ≤ x then X else Y) = some rho) (kt : 0 ≤ x → X = some rho → rm_L G NC ph nL tgt lv (st) M) (kf : ¬ (0 ≤ x) → Y = some rho → rm_L G NC ph nL (pc + 3) lv (st) M) : rm_L G NC ph nL pc lv (.int x :: st) M := by
  obtain ⟨p, l, e, R, s, m, args, below, meth, c, Q, cy, D, cells, slots⟩ := G
  obtain ⟨hx, hb, hml, hown, hts, hK, hN, hi, hfr, hlo, hc, hs⟩ := hG
  intro ls H locs hl hP hS
  refine lv_if_ge hx hb hd ht (fun q => ?_) (fun q => ?_)
  · exact kt q (by rw [if_pos q] at hf; exact hf) ls H locs hl hP hS
  · exact kf q (by rw [if_neg q] at hf; exact hf) ls H locs hl hP hS
theorem rr_icmp_gt (hG : rm_k G NC ph cc own Ts nL fr lo) {α : Type} {x y : Int32} {off : Int} {tgt : Nat} {X Y : Option α} {rho : α} (hd : decode cc pc = .ok (.if_icmp .gt off, 3)) (ht : (pc : Int) + off = (tgt : Int)) (hf : (if y < x then X else Y) = some rho) (kt : y < x → X = some rho → rm_L G NC ph nL tgt lv (st) M) (kf : ¬ (y < x) → Y = some rho → rm_L G NC ph nL (pc + 3) lv (st) M) : rm_L G NC ph nL pc lv (.int y :: .int x :: st) M := by
  obtain ⟨p, l, e, R, s, m, args, below, meth, c, Q, cy, D, cells, slots⟩ := G
  obtain ⟨hx, hb, hml, hown, hts, hK, hN, hi, hfr, hlo, hc, hs⟩ := hG
  intro ls H locs hl hP hS
  refine lv_icmp_gt hx hb hd ht (fun q => ?_) (fun q => ?_)
  · exact kt q (by rw [if_pos q] at hf; exact hf) ls H locs hl hP hS
  · exact kf q (by rw [if_neg q] at hf; exact hf) ls H locs hl hP hS
theorem rr_if_gt (hG : rm_k G NC ph cc own Ts nL fr lo) {α : Type} {x : Int32} {off : Int} {tgt : Nat} {X Y : Option α} {rho : α} (hd : decode cc pc = .ok (.ifCond .gt off, 3)) (ht : (pc : Int) + off = (tgt : Int)) (hf : (if 0 < x then X else Y) = some rho) (kt : 0 < x → X = some rho → rm_L G NC ph nL tgt lv (st) M) (kf : ¬ (0 < x) → Y = some rho → rm_L G NC ph nL (pc + 3) lv (st) M) : rm_L G NC ph nL pc lv (.int x :: st) M := by
  obtain ⟨p, l, e, R, s, m, args, below, meth, c, Q, cy, D, cells, slots⟩ := G
  obtain ⟨hx, hb, hml, hown, hts, hK, hN, hi, hfr, hlo, hc, hs⟩ := hG
  intro ls H locs hl hP hS
  refine lv_if_gt hx hb hd ht (fun q => ?_) (fun q => ?_)
  · exact kt q (by rw [if_pos q] at hf; exact hf) ls H locs hl hP hS
  · exact kf q (by rw [if_neg q] at hf; exact hf) ls H locs hl hP hS
theorem rr_icmp_le (hG : rm_k G NC ph cc own Ts nL fr lo) {α : Type} {x y : Int32} {off : Int} {tgt : Nat} {X Y : Option α} {rho : α} (hd : decode cc pc = .ok (.if_icmp .le off, 3)) (ht : (pc : Int) + off = (tgt : Int)) (hf : (if x ≤ y then X else Y) = some rho) (kt : x ≤ y → X = some rho → rm_L G NC ph nL tgt lv (st) M) (kf : ¬ (x ≤ y) → Y = some rho → rm_L G NC ph nL (pc + 3) lv (st) M) : rm_L G NC ph nL pc lv (.int y :: .int x :: st) M := by
  obtain ⟨p, l, e, R, s, m, args, below, meth, c, Q, cy, D, cells, slots⟩ := G
  obtain ⟨hx, hb, hml, hown, hts, hK, hN, hi, hfr, hlo, hc, hs⟩ := hG
  intro ls H locs hl hP hS
  refine lv_icmp_le hx hb hd ht (fun q => ?_) (fun q => ?_)
  · exact kt q (by rw [if_pos q] at hf; exact hf) ls H locs hl hP hS
  · exact kf q (by rw [if_neg q] at hf; exact hf) ls H locs hl hP hS
theorem rr_if_le (hG : rm_k G NC ph cc own Ts nL fr lo) {α : Type} {x : Int32} {off : Int} {tgt : Nat} {X Y : Option α} {rho : α} (hd : decode cc pc = .ok (.ifCond .le off, 3)) (ht : (pc : Int) + off = (tgt : Int)) (hf : (if x ≤ 0 then X else Y) = some rho) (kt : x ≤ 0 → X = some rho → rm_L G NC ph nL tgt lv (st) M) (kf : ¬ (x ≤ 0) → Y = some rho → rm_L G NC ph nL (pc + 3) lv (st) M) : rm_L G NC ph nL pc lv (.int x :: st) M := by
  obtain ⟨p, l, e, R, s, m, args, below, meth, c, Q, cy, D, cells, slots⟩ := G
  obtain ⟨hx, hb, hml, hown, hts, hK, hN, hi, hfr, hlo, hc, hs⟩ := hG
  intro ls H locs hl hP hS
  refine lv_if_le hx hb hd ht (fun q => ?_) (fun q => ?_)
  · exact kt q (by rw [if_pos q] at hf; exact hf) ls H locs hl hP hS
  · exact kf q (by rw [if_neg q] at hf; exact hf) ls H locs hl hP hS
theorem rr_icmp_ne (hG : rm_k G NC ph cc own Ts nL fr lo) {α : Type} {x y : Int32} {off : Int} {tgt : Nat} {X Y : Option α} {rho : α} (hd : decode cc pc = .ok (.if_icmp .ne off, 3)) (ht : (pc : Int) + off = (tgt : Int)) (hf : (if x = y then Y else X) = some rho) (kt : ¬ (x = y) → X = some rho → rm_L G NC ph nL tgt lv (st) M) (kf : x = y → Y = some rho → rm_L G NC ph nL (pc + 3) lv (st) M) : rm_L G NC ph nL pc lv (.int y :: .int x :: st) M := by
  obtain ⟨p, l, e, R, s, m, args, below, meth, c, Q, cy, D, cells, slots⟩ := G
  obtain ⟨hx, hb, hml, hown, hts, hK, hN, hi, hfr, hlo, hc, hs⟩ := hG
  intro ls H locs hl hP hS
  refine lv_icmp_ne hx hb hd ht (fun q => ?_) (fun q => ?_)
  · exact kt q (by rw [if_neg q] at hf; exact hf) ls H locs hl hP hS
  · exact kf q (by rw [if_pos q] at hf; exact hf) ls H locs hl hP hS
theorem rr_if_ne (hG : rm_k G NC ph cc own Ts nL fr lo) {α : Type} {x : Int32} {off : Int} {tgt : Nat} {X Y : Option α} {rho : α} (hd : decode cc pc = .ok (.ifCond .ne off, 3)) (ht : (pc : Int) + off = (tgt : Int)) (hf : (if x = 0 then Y else X) = some rho) (kt : ¬ (x = 0) → X = some rho → rm_L G NC ph nL tgt lv (st) M) (kf : x = 0 → Y = some rho → rm_L G NC ph nL (pc + 3) lv (st) M) : rm_L G NC ph nL pc lv (.int x :: st) M := by
  obtain ⟨p, l, e, R, s, m, args, below, meth, c, Q, cy, D, cells, slots⟩ := G
  obtain ⟨hx, hb, hml, hown, hts, hK, hN, hi, hfr, hlo, hc, hs⟩ := hG
  intro ls H locs hl hP hS
  refine lv_if_ne hx hb hd ht (fun q => ?_) (fun q => ?_)
  · exact kt q (by rw [if_neg q] at hf; exact hf) ls H locs hl hP hS
  · exact kf q (by rw [if_pos q] at hf; exact hf) ls H locs hl hP hS
theorem rr_tableIn (hG : rm_k G NC ph cc own Ts nL fr lo) {dflt lw hg : Int} {offs : Array Int} {len : Nat} {x : Int32} {off : Int} {tgt : Nat} (z : Int) (hd : decode cc pc = .ok (.tableswitch dflt lw hg offs, len)) (hz : x.toInt = z) (h1 : ¬ z < lw) (h2 : ¬ hg < z) (ho : offs[(z - lw).toNat]? = some off) (ht : (pc : Int) + off = (tgt : Int)) (kk : rm_L G NC ph nL tgt lv (st) M) : rm_L G NC ph nL pc lv (.int x :: st) M := by
  obtain ⟨p, l, e, R, s, m, args, below, meth, c, Q, cy, D, cells, slots⟩ := G
  obtain ⟨hx, hb, hml, hown, hts, hK, hN, hi, hfr, hlo, hc, hs⟩ := hG
  intro ls H locs hl hP hS
  exact lv_tableIn hx hb hd (by rw [hz]; exact h1) (by rw [hz]; exact h2) (by rw [hz]; exact ho) ht (kk ls H locs hl hP hS)
theorem rr_tableOut (hG : rm_k G NC ph cc own Ts nL fr lo) {dflt lw hg : Int} {offs : Array Int} {len : Nat} {x : Int32} {tgt : Nat} (hd : decode cc pc = .ok (.tableswitch dflt lw hg offs, len)) (h : x.toInt < lw ∨ hg < x.toInt) (ht : (pc : Int) + dflt = (tgt : Int)) (kk : rm_L G NC ph nL tgt lv (st) M) : rm_L G NC ph nL pc lv (.int x :: st) M := by
  obtain ⟨p, l, e, R, s, m, args, below, meth, c, Q, cy, D, cells, slots⟩ := G
  obtain ⟨hx, hb, hml, hown, hts, hK, hN, hi, hfr, hlo, hc, hs⟩ := hG
  intro ls H locs hl hP hS
  exact lv_tableOut hx hb hd h ht (kk ls H locs hl hP hS)
theorem rr_lookup (hG : rm_k G NC ph cc own Ts nL fr lo) {dflt : Int} {ps : Array (Int × Int)} {len : Nat} {x : Int32} {off : Int} {tgt : Nat} (hd : decode cc pc = .ok (.lookupswitch dflt ps, len)) (hp : (ps.toList.zip (ps.toList.drop 1)).all (fun (a, next) => a.1 < next.1) = true) (ho : Op.lookupswitch.offset ps.toList dflt x.toInt = off) (ht : (pc : Int) + off = (tgt : Int)) (kk : rm_L G NC ph nL tgt lv (st) M) : rm_L G NC ph nL pc lv (.int x :: st) M := by
  obtain ⟨p, l, e, R, s, m, args, below, meth, c, Q, cy, D, cells, slots⟩ := G
  obtain ⟨hx, hb, hml, hown, hts, hK, hN, hi, hfr, hlo, hc, hs⟩ := hG
  intro ls H locs hl hP hS
  exact lv_lookup hx hb hd hp ho ht (kk ls H locs hl hP hS)
theorem rr_get (hG : rm_k G NC ph cc own Ts nL fr lo) {C ref : String} {T : u_T} {N index q : Nat} (ci k : Nat) {v : Value} (hd : decode cc pc = .ok (.getfield index, 3)) (hq : rm_kq NC q (ci, 0)) (hci : ci < 9) (hcl : vwCl[ci]? = some (C, T, N)) (hin : ∀ w ∈ u_ws C T N, w ∈ Ts) (hk : k < N) (hw : Cond.fieldLink own index ref (T k).2.1 (T k).2.2.1 ∈ Ts) (hr : ref = (T k).1) (hv : (rm_O ph q (M.1 q) (M.2.1 q) M.2.2 ci)[k]? = some v) (kk : rm_L G NC ph nL (pc + 3) lv (v :: st) M) : rm_L G NC ph nL pc lv (.ref (ph q) :: st) M := by
  obtain ⟨p, l, e, R, s, m, args, below, meth, c, Q, cy, D, cells, slots⟩ := G
  obtain ⟨hx, hb, hml, hown, hts, hK, hN, hi, hfr, hlo, hc, hs⟩ := hG
  intro ls H locs hl hP hS
  have he := rm_W_at NC cy ph M hq.2
  rw [rm_e_obj cy ph _ _ _ hq.1 hci] at he
  subst hr
  exact va_get (D := D) hx hb hts hin hown hK hP q he hcl k hk (hts _ hw) (fun _ h9 => h9) hv hd (kk ls H locs hl hP hS)
theorem rr_putI (hG : rm_k G NC ph cc own Ts nL fr lo) {C ref : String} {T : u_T} {N index q : Nat} (ci k : Nat) {x : Int32} {ty : FieldType} {ty0 : Nat → FieldType} (hd : decode cc pc = .ok (.putfield index, 3)) (hq : rm_kq NC q (ci, 0)) (hci : ci < 9) (hcl : vwCl[ci]? = some (C, T, N)) (hin : ∀ w ∈ u_ws C T N, w ∈ Ts) (hty : ∀ k, k < N → parseFieldDescriptor (T k).2.2.1 = some (ty0 k)) (hnm : ∀ a, a < N → ∀ b, b < N → a ≠ b → (T a).2.1 ≠ (T b).2.1) (hk : k < N) (hw : Cond.fieldLink own index ref (T k).2.1 (T k).2.2.1 ∈ Ts) (hr : ref = (T k).1) (hfin : (T k).2.2.2 = false) (hpd : ty0 k = ty) (hn : narrow ty (.int x) = .int x) (hfit : fits ty (.int x) = true) (hlen : k < (rm_O ph q (M.1 q) (M.2.1 q) M.2.2 ci).length) (hset : (rm_O ph q (M.1 q) (M.2.1 q) M.2.2 ci).set k (.int x) = rm_O ph q (upd (M.1 q) k x) (M.2.1 q) M.2.2 ci) (kk : rm_L G NC ph nL (pc + 3) lv (st) (rm_sI M q k x)) : rm_L G NC ph nL pc lv (.int x :: .ref (ph q) :: st) M := by
  obtain ⟨p, l, e, R, s, m, args, below, meth, c, Q, cy, D, cells, slots⟩ := G
  obtain ⟨hx, hb, hml, hown, hts, hK, hN, hi, hfr, hlo, hc, hs⟩ := hG
  intro ls H locs hl hP hS
  have he := rm_W_at NC cy ph M hq.2
  rw [rm_e_obj cy ph _ _ _ hq.1 hci] at he
  subst hr
  refine va_put (D := D) hx hb hts hin ty0 hty hnm hown hK hP (rm_W_D NC cy hi M) hS q he hcl k hk (hts _ hw) (fun _ h9 => h9) hfin (by rw [hty k hk, hpd]) hn hfit hlen hd (fun H locs hP hD hS => ?_)
  rw [rm_W_sI_obj NC cy ph M hq.1 hq.2 hci hset] at hP
  exact kk ls H locs hl hP hS
theorem rr_putJ (hG : rm_k G NC ph cc own Ts nL fr lo) {C ref : String} {T : u_T} {N index q : Nat} (ci k : Nat) {x : Int64} {ty : FieldType} {ty0 : Nat → FieldType} (hd : decode cc pc = .ok (.putfield index, 3)) (hq : rm_kq NC q (ci, 0)) (hci : ci < 9) (hcl : vwCl[ci]? = some (C, T, N)) (hin : ∀ w ∈ u_ws C T N, w ∈ Ts) (hty : ∀ k, k < N → parseFieldDescriptor (T k).2.2.1 = some (ty0 k)) (hnm : ∀ a, a < N → ∀ b, b < N → a ≠ b → (T a).2.1 ≠ (T b).2.1) (hk : k < N) (hw : Cond.fieldLink own index ref (T k).2.1 (T k).2.2.1 ∈ Ts) (hr : ref = (T k).1) (hfin : (T k).2.2.2 = false) (hpd : ty0 k = ty) (hn : narrow ty (.long x) = .long x) (hfit : fits ty (.long x) = true) (hlen : k < (rm_O ph q (M.1 q) (M.2.1 q) M.2.2 ci).length) (hset : (rm_O ph q (M.1 q) (M.2.1 q) M.2.2 ci).set k (.long x) = rm_O ph q (M.1 q) (vp_updL (M.2.1 q) k x) M.2.2 ci) (kk : rm_L G NC ph nL (pc + 3) lv (st) (rm_sJ M q k x)) : rm_L G NC ph nL pc lv (.long x :: .ref (ph q) :: st) M := by
  obtain ⟨p, l, e, R, s, m, args, below, meth, c, Q, cy, D, cells, slots⟩ := G
  obtain ⟨hx, hb, hml, hown, hts, hK, hN, hi, hfr, hlo, hc, hs⟩ := hG
  intro ls H locs hl hP hS
  have he := rm_W_at NC cy ph M hq.2
  rw [rm_e_obj cy ph _ _ _ hq.1 hci] at he
  subst hr
  refine va_put (D := D) hx hb hts hin ty0 hty hnm hown hK hP (rm_W_D NC cy hi M) hS q he hcl k hk (hts _ hw) (fun _ h9 => h9) hfin (by rw [hty k hk, hpd]) hn hfit hlen hd (fun H locs hP hD hS => ?_)
  rw [rm_W_sJ_obj NC cy ph M hq.1 hq.2 hci hset] at hP
  exact kk ls H locs hl hP hS
theorem rr_putR (hG : rm_k G NC ph cc own Ts nL fr lo) (h0 : 0 < NC) {C ref : String} {T : u_T} {N index v : Nat} (k : Nat) {ty : FieldType} {ty0 : Nat → FieldType} (hd : decode cc pc = .ok (.putfield index, 3)) (hcl : vwCl[7]? = some (C, T, N)) (hin : ∀ w ∈ u_ws C T N, w ∈ Ts) (hty : ∀ k, k < N → parseFieldDescriptor (T k).2.2.1 = some (ty0 k)) (hnm : ∀ a, a < N → ∀ b, b < N → a ≠ b → (T a).2.1 ≠ (T b).2.1) (hk : k < N) (hw : Cond.fieldLink own index ref (T k).2.1 (T k).2.2.1 ∈ Ts) (hr : ref = (T k).1) (hfin : (T k).2.2.2 = false) (hpd : ty0 k = ty) (hn : narrow ty (.ref (ph v)) = .ref (ph v)) (hfit : fits ty (.ref (ph v)) = true) (hlen : k < (rm_O ph 0 (M.1 0) (M.2.1 0) M.2.2 7).length) (hset : (rm_O ph 0 (M.1 0) (M.2.1 0) M.2.2 7).set k (.ref (ph v)) = rm_O ph 0 (M.1 0) (M.2.1 0) (fun a => if a = k then v else M.2.2 a) 7) (kk : rm_L G NC ph nL (pc + 3) lv (st) (rm_sR M k v)) : rm_L G NC ph nL pc lv (.ref (ph v) :: .ref (ph 0) :: st) M := by
  obtain ⟨p, l, e, R, s, m, args, below, meth, c, Q, cy, D, cells, slots⟩ := G
  obtain ⟨hx, hb, hml, hown, hts, hK, hN, hi, hfr, hlo, hc, hs⟩ := hG
  intro ls H locs hl hP hS
  have he := rm_W_at NC cy ph M h0
  rw [rm_e_obj cy ph _ _ _ (show rm_kd 0 = (7, 0) from rfl) (by decide)] at he
  subst hr
  refine va_put (D := D) hx hb hts hin ty0 hty hnm hown hK hP (rm_W_D NC cy hi M) hS 0 he hcl k hk (hts _ hw) (fun _ h9 => h9) hfin (by rw [hty k hk, hpd]) hn hfit hlen hd (fun H locs hP hD hS => ?_)
  rw [rm_W_sR_obj NC cy ph M h0 hset] at hP
  exact kk ls H locs hl hP hS
theorem rr_iald (hG : rm_k G NC ph cc own Ts nL fr lo) {α : Type} {X : Option α} {rho : α} {i : Int32} {q n : Nat}  (hd : decode cc pc = .ok (.iaload, 1)) (hq : rm_kq NC q (9, n)) (hf : (if rm_ib i n = true then X else none) = some rho) (kk : rm_ib i n = true → X = some rho → rm_L G NC ph nL (pc + 1) lv (.int (M.1 q i.toNatClampNeg) :: st) M) : rm_L G NC ph nL pc lv (.int i :: .ref (ph q) :: st) M := by
  have hib : rm_ib i n = true := by
    by_cases h : rm_ib i n = true
    · exact h
    · rw [if_neg h] at hf; cases hf
  rw [if_pos hib] at hf
  have kk := kk hib hf
  have hin := rm_ib_in hib
  obtain ⟨p, l, e, R, s, m, args, below, meth, c, Q, cy, D, cells, slots⟩ := G
  obtain ⟨hx, hb, hml, hown, hts, hK, hN, hi, hfr, hlo, hc, hs⟩ := hG
  intro ls H locs hl hP hS
  have hq1 : (rm_kd q).1 = 9 := by rw [hq.1]
  have hq2 : (rm_kd q).2 = n := by rw [hq.1]
  have he := rm_W_at NC cy ph M hq.2
  rw [rm_e_int cy ph _ _ _ hq1, hq2] at he
  exact va_iald (D := D) hx hb hK hP q 0 he rfl hin hd (kk ls H locs hl hP hS)
theorem rr_lald (hG : rm_k G NC ph cc own Ts nL fr lo) {α : Type} {X : Option α} {rho : α} {i : Int32} {q n : Nat}  (hd : decode cc pc = .ok (.laload, 1)) (hq : rm_kq NC q (10, n)) (hf : (if rm_ib i n = true then X else none) = some rho) (kk : rm_ib i n = true → X = some rho → rm_L G NC ph nL (pc + 1) lv (.long (M.2.1 q i.toNatClampNeg) :: st) M) : rm_L G NC ph nL pc lv (.int i :: .ref (ph q) :: st) M := by
  have hib : rm_ib i n = true := by
    by_cases h : rm_ib i n = true
    · exact h
    · rw [if_neg h] at hf; cases hf
  rw [if_pos hib] at hf
  have kk := kk hib hf
  have hin := rm_ib_in hib
  obtain ⟨p, l, e, R, s, m, args, below, meth, c, Q, cy, D, cells, slots⟩ := G
  obtain ⟨hx, hb, hml, hown, hts, hK, hN, hi, hfr, hlo, hc, hs⟩ := hG
  intro ls H locs hl hP hS
  have hq1 : (rm_kd q).1 = 10 := by rw [hq.1]
  have hq2 : (rm_kd q).2 = n := by rw [hq.1]
  have he := rm_W_at NC cy ph M hq.2
  rw [rm_e_long cy ph _ _ _ hq1, hq2] at he
  exact va_lald (D := D) hx hb hK hP q 1 he rfl hin hd (kk ls H locs hl hP hS)
theorem rr_iast (hG : rm_k G NC ph cc own Ts nL fr lo) {α : Type} {X : Option α} {rho : α} {i : Int32} {q n : Nat} {x : Int32} (hd : decode cc pc = .ok (.iastore, 1)) (hq : rm_kq NC q (9, n)) (hf : (if rm_ib i n = true then X else none) = some rho) (kk : rm_ib i n = true → X = some rho → rm_L G NC ph nL (pc + 1) lv (st) (rm_sI M q i.toNatClampNeg x)) : rm_L G NC ph nL pc lv (.int x :: .int i :: .ref (ph q) :: st) M := by
  have hib : rm_ib i n = true := by
    by_cases h : rm_ib i n = true
    · exact h
    · rw [if_neg h] at hf; cases hf
  rw [if_pos hib] at hf
  have kk := kk hib hf
  have hin := rm_ib_in hib
  obtain ⟨p, l, e, R, s, m, args, below, meth, c, Q, cy, D, cells, slots⟩ := G
  obtain ⟨hx, hb, hml, hown, hts, hK, hN, hi, hfr, hlo, hc, hs⟩ := hG
  intro ls H locs hl hP hS
  have hq1 : (rm_kd q).1 = 9 := by rw [hq.1]
  have hq2 : (rm_kd q).2 = n := by rw [hq.1]
  have he := rm_W_at NC cy ph M hq.2
  rw [rm_e_int cy ph _ _ _ hq1, hq2] at he
  refine va_iast (D := D) hx hb hK hP (rm_W_D NC cy hi M) hS q 0 he rfl hin hd (fun H locs hP hD hS => ?_)
  have hw := rm_W_sI_arr NC cy ph M (q := q) (k := i.toNatClampNeg) (x := x) hq1 hq.2
  rw [hq2] at hw
  rw [hw] at hP
  exact kk ls H locs hl hP hS
theorem rr_last (hG : rm_k G NC ph cc own Ts nL fr lo) {α : Type} {X : Option α} {rho : α} {i : Int32} {q n : Nat} {x : Int64} (hd : decode cc pc = .ok (.lastore, 1)) (hq : rm_kq NC q (10, n)) (hf : (if rm_ib i n = true then X else none) = some rho) (kk : rm_ib i n = true → X = some rho → rm_L G NC ph nL (pc + 1) lv (st) (rm_sJ M q i.toNatClampNeg x)) : rm_L G NC ph nL pc lv (.long x :: .int i :: .ref (ph q) :: st) M := by
  have hib : rm_ib i n = true := by
    by_cases h : rm_ib i n = true
    · exact h
    · rw [if_neg h] at hf; cases hf
  rw [if_pos hib] at hf
  have kk := kk hib hf
  have hin := rm_ib_in hib
  obtain ⟨p, l, e, R, s, m, args, below, meth, c, Q, cy, D, cells, slots⟩ := G
  obtain ⟨hx, hb, hml, hown, hts, hK, hN, hi, hfr, hlo, hc, hs⟩ := hG
  intro ls H locs hl hP hS
  have hq1 : (rm_kd q).1 = 10 := by rw [hq.1]
  have hq2 : (rm_kd q).2 = n := by rw [hq.1]
  have he := rm_W_at NC cy ph M hq.2
  rw [rm_e_long cy ph _ _ _ hq1, hq2] at he
  refine va_last (D := D) hx hb hK hP (rm_W_D NC cy hi M) hS q 1 he rfl hin hd (fun H locs hP hD hS => ?_)
  have hw := rm_W_sJ_arr NC cy ph M (q := q) (k := i.toNatClampNeg) (x := x) hq1 hq.2
  rw [hq2] at hw
  rw [hw] at hP
  exact kk ls H locs hl hP hS
theorem rr_aldS (hG : rm_k G NC ph cc own Ts nL fr lo) {α : Type} {X : Option α} {rho : α} {i : Int32} {q n : Nat}  (hd : decode cc pc = .ok (.aaload, 1)) (hq : rm_kq NC q (11, n)) (hf : (if rm_ib i n = true then X else none) = some rho) (kk : rm_ib i n = true → X = some rho → rm_L G NC ph nL (pc + 1) lv (.ref (ph (q + 56 + 3 * i.toNatClampNeg)) :: st) M) : rm_L G NC ph nL pc lv (.int i :: .ref (ph q) :: st) M := by
  have hib : rm_ib i n = true := by
    by_cases h : rm_ib i n = true
    · exact h
    · rw [if_neg h] at hf; cases hf
  rw [if_pos hib] at hf
  have kk := kk hib hf
  have hin := rm_ib_in hib
  obtain ⟨p, l, e, R, s, m, args, below, meth, c, Q, cy, D, cells, slots⟩ := G
  obtain ⟨hx, hb, hml, hown, hts, hK, hN, hi, hfr, hlo, hc, hs⟩ := hG
  intro ls H locs hl hP hS
  have hq1 : (rm_kd q).1 = 11 := by rw [hq.1]
  have hq2 : (rm_kd q).2 = n := by rw [hq.1]
  have he := rm_W_at NC cy ph M hq.2
  rw [rm_e_st cy ph _ _ _ hq1, hq2] at he
  have hlt : i.toNatClampNeg < n := Nat.not_le.mp fun z => hin (Or.inr z)
  refine va_aldq (D := D) hx hb hK hP q 2 he rfl hin hd ?_
  rw [if_pos hlt]
  exact kk ls H locs hl hP hS
theorem rr_aldR (hG : rm_k G NC ph cc own Ts nL fr lo) {α : Type} {X : Option α} {rho : α} {i : Int32} {q n : Nat}  (hd : decode cc pc = .ok (.aaload, 1)) (hq : rm_kq NC q (12, n)) (hf : (if rm_ib i n = true then X else none) = some rho) (kk : rm_ib i n = true → X = some rho → rm_L G NC ph nL (pc + 1) lv (.ref (ph (q + 1 + i.toNatClampNeg)) :: st) M) : rm_L G NC ph nL pc lv (.int i :: .ref (ph q) :: st) M := by
  have hib : rm_ib i n = true := by
    by_cases h : rm_ib i n = true
    · exact h
    · rw [if_neg h] at hf; cases hf
  rw [if_pos hib] at hf
  have kk := kk hib hf
  have hin := rm_ib_in hib
  obtain ⟨p, l, e, R, s, m, args, below, meth, c, Q, cy, D, cells, slots⟩ := G
  obtain ⟨hx, hb, hml, hown, hts, hK, hN, hi, hfr, hlo, hc, hs⟩ := hG
  intro ls H locs hl hP hS
  have hq1 : (rm_kd q).1 = 12 := by rw [hq.1]
  have hq2 : (rm_kd q).2 = n := by rw [hq.1]
  have he := rm_W_at NC cy ph M hq.2
  rw [rm_e_ii cy ph _ _ _ hq1, hq2] at he
  have hlt : i.toNatClampNeg < n := Nat.not_le.mp fun z => hin (Or.inr z)
  refine W.aald (v := .ref (ph (q + 1 + i.toNatClampNeg))) (ty := .array .int) hx hb (hP q _ he) ((hK.2 3 _ rfl).1 n (fun j => va_rf (if j < n then some (ph (q + 1 + j)) else none))) rfl (fun q => by cases q) (by show ¬ (i < 0 ∨ (arrV _ _ _).slots.size ≤ _); rw [arrV_size]; exact hin) (by show (arrV _ _ _).slots[_]? = _; rw [arrV_read _ _ hlt]; show some (va_rf (if i.toNatClampNeg < n then some (ph (q + 1 + i.toNatClampNeg)) else none)) = _; rw [if_pos hlt]; rfl) rfl rfl hd (kk ls H locs hl hP hS)
theorem rr_sub {lv2 : List (Nat × Value)} (ks : List Nat) (hs : lv_pick lv ks = lv2) (kk : rm_L G NC ph nL pc lv2 st M) : rm_L G NC ph nL pc lv st M := by
  obtain ⟨p, l, e, R, s, m, args, below, meth, c, Q, cy, D, cells, slots⟩ := G
  intro ls H locs hl hP hS
  exact kk ls H locs (lv_sub hl ks hs) hP hS
theorem rr_bindI {α : Type} {x : Int32} {K : Int32 → Option α} {rho : α} (hf : rm_lt1 x K = some rho) (kk : ∀ y, y = x → K y = some rho → rm_L G NC ph nL pc lv (.int y :: st) M) : rm_L G NC ph nL pc lv (.int x :: st) M := kk x rfl hf
theorem rr_bindJ {α : Type} {x : Int64} {K : Int64 → Option α} {rho : α} (hf : rm_lt1 x K = some rho) (kk : ∀ y, y = x → K y = some rho → rm_L G NC ph nL pc lv (.long y :: st) M) : rm_L G NC ph nL pc lv (.long x :: st) M := kk x rfl hf
theorem rr_bindP {α : Type} {x : Nat} {K : Nat → Option α} {rho : α} (hf : rm_lt1 x K = some rho) (kk : ∀ y, y = x → K y = some rho → rm_L G NC ph nL pc lv (.ref (ph y) :: st) M) : rm_L G NC ph nL pc lv (.ref (ph x) :: st) M := kk x rfl hf
theorem rr_bindM {α : Type} {K : rm_M → Option α} {rho : α} (hf : rm_lt1 M K = some rho) (kk : ∀ M2, M2 = M → K M2 = some rho → rm_L G NC ph nL pc lv st M2) : rm_L G NC ph nL pc lv st M := kk M rfl hf
end RMR
