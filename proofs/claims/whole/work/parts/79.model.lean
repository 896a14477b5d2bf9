/-! ===== RingPagesModel() ===== -/
abbrev rc_f8 : List Value := [.int 0, .null, .int 0, .int 0, .null, .null, .null, .null, .int 0, .int 0, .int 0, .null, .null, .null, .int 0, .int 0, .null, .null, .null, .null, .null, .null, .null, .int 0, .int 0, .null]
theorem tX8_init_X8 : ∀ w ∈ u_ws RX8 TX8 26, w ∈ wsX8_init := by decide +kernel
theorem kX8_init_31 : Cond.fieldLink RX8 31 "RingPagesModel" "read" "[I" ∈ wsX8_init := by decide +kernel
theorem kX8_init_62 : Cond.fieldLink RX8 62 "RingPagesModel" "readCells" "I" ∈ wsX8_init := by decide +kernel
def M79 (M : rm_M) : rm_M := (fun q => if q < 79 then M.1 q else fun _ => 0, fun q => if q < 79 then M.2.1 q else fun _ => 0, M.2.2)
theorem M79.fr (M : rm_M) : FR (fun a => 79 ≤ a) M (M79 M) := ⟨fun a ha => ⟨if_pos (by omega), if_pos (by omega)⟩, rfl⟩
theorem Fst.m79 {M : rm_M} (h : Fst M) : Fst (M79 M) := by
  obtain ⟨w, pr, v, hC, h2⟩ := h
  exact ⟨w, pr, v, hC.fr (by omega) (M79.fr M) (fun a ha => by unfold scr; omega), h2⟩
theorem Fst.r {M : rm_M} (h : Fst M) : M.2.2 6 < 79 ∧ M.2.2 7 < 79 ∧ M.2.2 8 < 79 ∧ M.2.2 9 < 79 := by
  obtain ⟨w, pr, v, ⟨⟨-, -, p6, p7, p8, p9⟩, -⟩, -⟩ := h
  omega
theorem rb_in79 : ∀ q, q < 79 → q ≠ 0 → (rm_kd q).1 ≠ 7 ∧ (rm_kd q).1 ≠ 8 ∧ ∀ d ∈ rb_dp q, d < 79 := by decide +kernel
theorem rb_F79 {cy : rm_Y} {ph ph' : Nat → Nat} {M : rm_M} (hp : ∀ d, d < 79 → ph d = ph' d) (hr : M.2.2 6 < 79 ∧ M.2.2 7 < 79 ∧ M.2.2 8 < 79 ∧ M.2.2 9 < 79) {q : Nat} (hq : q < 79) : rb_F cy ph M q = rb_F cy ph' (M79 M) q := by
  unfold rb_F
  have e1 : (M79 M).1 q = M.1 q := if_pos hq
  have e2 : (M79 M).2.1 q = M.2.1 q := if_pos hq
  rw [e1, e2, hp q hq]
  show (ph' q, rm_e cy ph q (M.1 q) (M.2.1 q) M.2.2) = (ph' q, rm_e cy ph' q (M.1 q) (M.2.1 q) M.2.2)
  by_cases c : q = 0
  · subst c
    rw [rm_e_obj cy ph _ _ _ (show rm_kd 0 = (7, 0) from rfl) (by decide), rm_e_obj cy ph' _ _ _ (show rm_kd 0 = (7, 0) from rfl) (by decide)]
    simp only [rm_O]
    rw [hp (0 + 1) (by omega), hp (0 + 4) (by omega), hp (0 + 6) (by omega), hp (0 + 10) (by omega), hp (0 + 12) (by omega), hp (0 + 52) (by omega), hp _ hr.1, hp _ hr.2.1, hp _ hr.2.2.1, hp _ hr.2.2.2]
  · obtain ⟨h7, h8, hd⟩ := rb_in79 q hq c
    rw [rm_e_cong h7 h8 (fun d hd2 => hp d (hd d hd2))]
theorem rm_W_F (NC : Nat) (cy : rm_Y) (ph : Nat → Nat) (M : rm_M) : rm_W NC cy ph M = (List.range NC).map (rb_F cy ph M) := rfl
def rb_pM (ph : Nat → Nat) (as : List Nat) : Nat → Nat := fun x => if x < 79 then ph x else as.getD (x - 79) 0
abbrev rb_qM : List Nat := [80, 81, 82, 83, 84, 85, 86, 87, 88, 89, 90, 91, 92, 93, 94, 95]
theorem rb_wM {cy : rm_Y} {ph : Nat → Nat} {M : rm_M} (hr : M.2.2 6 < 79 ∧ M.2.2 7 < 79 ∧ M.2.2 8 < 79 ∧ M.2.2 9 < 79) (h a1 a4 a5 a6 a7 a11 a12 a13 a16 a17 a18 a19 a20 a21 a22 a25 : Nat) : ((h, .inr (8, [.int 0, .ref a1, .int 0, .int 0, .ref a4, .ref a5, .ref a6, .ref a7, .int 0, .int 0, .int 0, .ref a11, .ref a12, .ref a13, .int 0, .int 0, .ref a16, .ref a17, .ref a18, .ref a19, .ref a20, .ref a21, .ref a22, .int 0, .int 0, .ref a25])) :: (rm_W 79 cy ph M ++ [(a1, .inl (cy.1, 200, .inl (fun _ => 0))), (a4, .inl (cy.1, 36, .inl (fun _ => 0))), (a5, .inl (cy.1, 4, .inl (fun _ => 0))), (a6, .inl (cy.1, 20, .inl (fun _ => 0))), (a7, .inl (cy.1, 120, .inl (fun _ => 0))), (a11, .inl (cy.1, 36, .inl (fun _ => 0))), (a12, .inl (cy.1, 4, .inl (fun _ => 0))), (a13, .inl (cy.1, 20, .inl (fun _ => 0))), (a16, .inl (cy.1, 10, .inl (fun _ => 0))), (a17, .inl (cy.1, 10, .inl (fun _ => 0))), (a18, .inl (cy.2.1, 6, .inr (.inl (fun _ => 0)))), (a19, .inl (cy.2.1, 25, .inr (.inl (fun _ => 0)))), (a20, .inl (cy.1, 6, .inl (fun _ => 0))), (a21, .inl (cy.1, 6, .inl (fun _ => 0))), (a22, .inl (cy.1, 6, .inl (fun _ => 0))), (a25, .inl (cy.1, 20, .inl (fun _ => 0)))]) : va_W) = (79 :: (List.range 79 ++ rb_qM)).map (rb_F cy (rb_pM ph [h, a1, a4, a5, a6, a7, a11, a12, a13, a16, a17, a18, a19, a20, a21, a22, a25]) (M79 M)) := by
  have e1 : rm_W 79 cy ph M = (List.range 79).map (rb_F cy (rb_pM ph [h, a1, a4, a5, a6, a7, a11, a12, a13, a16, a17, a18, a19, a20, a21, a22, a25]) (M79 M)) := by
    rw [rm_W_F]
    apply List.map_congr_left
    intro q hq
    exact rb_F79 (fun d hd => (if_pos hd).symm) hr (List.mem_range.mp hq)
  rw [e1, List.map_cons, List.map_append]
  rfl
theorem rb_allM : ∀ q, q < 96 → q ∈ 79 :: (List.range 79 ++ rb_qM) := by decide +kernel
theorem rb_DM {cy : rm_Y} {ph : Nat → Nat} {M : rm_M} {h sz : Nat} {e : va_E} (hi : rm_inj 79 ph) (hne : ∀ k, k < 79 → ph k ≠ h) : va_D (va_A ((h, e) :: rm_W 79 cy ph M) sz) ((h, e) :: rm_W 79 cy ph M) := by
  have at1 : ∀ (k : Nat) (x : Nat × va_E), (rm_W 79 cy ph M)[k]? = some x → k < 79 ∧ x.1 = ph k := by
    intro k x hk
    have hl : k < 79 := by have := (List.getElem?_eq_some_iff.mp hk).1; simpa [rm_W] using this
    rw [rm_W_at 79 cy ph M hl] at hk
    exact ⟨hl, by rw [← Option.some.inj hk]⟩
  refine ⟨fun i j x y hx hy hxy => ?_, fun k x hk => va_A.in hk⟩
  cases i with
  | zero =>
    cases j with
    | zero => rfl
    | succ j =>
      have e1 : x.1 = h := by rw [List.getElem?_cons_zero] at hx; rw [← Option.some.inj hx]
      rw [List.getElem?_cons_succ] at hy
      obtain ⟨b1, b2⟩ := at1 j y hy
      exact absurd (by rw [← b2, ← hxy, e1]) (hne j b1)
  | succ i =>
    rw [List.getElem?_cons_succ] at hx
    obtain ⟨a1, a2⟩ := at1 i x hx
    cases j with
    | zero =>
      have e1 : y.1 = h := by rw [List.getElem?_cons_zero] at hy; rw [← Option.some.inj hy]
      exact absurd (by rw [← a2, hxy, e1]) (hne i a1)
    | succ j =>
      rw [List.getElem?_cons_succ] at hy
      obtain ⟨b1, b2⟩ := at1 j y hy
      have := hi i j a1 b1 (by rw [← a2, ← b2, hxy])
      omega
/-- the world of 96 cells -/
theorem rb_convM {p : Program} {l : Launch} {e : Env} {R : Room} {s : State} {m : MethodId} {args : Array Value} {below : List Frame} {meth : Method} {c : Code} {Q : State → Prop} {cy : rm_Y} {D : va_G} {A : Nat → Prop} {nL pc cells slots : Nat} {lv : List (Nat × Value)} {st : List Value} {ph : Nat → Nat} {M : rm_M} {ws : va_W} (hw : ws = (79 :: (List.range 79 ++ rb_qM)).map (rb_F cy ph M)) (hAh : ∀ q, A q → q < s.heap.size → rm_A 96 ph q)
    (kk : rm_inj 96 ph → (∀ k, k < 96 → A (ph k)) → rm_L (p, l, e, R, s, m, args, below, meth, c, Q, cy, D, cells, slots) 96 ph nL pc lv st M) : rb_L (p, l, e, R, s, m, args, below, meth, c, Q, cy, D, A) nL pc lv st ws cells slots := by
  intro ls H locs hl hP hD hS
  rw [hw] at hP hD
  have get : ∀ q, q < 96 → ∃ k : Nat, ((79 :: (List.range 79 ++ rb_qM)).map (rb_F cy ph M))[k]? = some (rb_F cy ph M q) ∧ (79 :: (List.range 79 ++ rb_qM))[k]? = some q := by
    intro q hq
    obtain ⟨k, hk⟩ := List.getElem?_of_mem (rb_allM q hq)
    exact ⟨k, by rw [List.getElem?_map, hk]; rfl, hk⟩
  have hi : rm_inj 96 ph := by
    intro i j hi hj hij
    obtain ⟨k1, a1, a2⟩ := get i hi
    obtain ⟨k2, b1, b2⟩ := get j hj
    have := hD.1 k1 k2 _ _ a1 b1 hij
    subst this
    exact Option.some.inj (a2.symm.trans b2)
  have hAA : ∀ k, k < 96 → A (ph k) := by
    intro k hk
    obtain ⟨k1, a1, -⟩ := get k hk
    exact hD.2 k1 _ a1
  have hP96 : va_P D vwCl (rm_W 96 cy ph M) H := rm_ofat (fun q hq => by
    obtain ⟨k, a1, -⟩ := get q hq
    exact hP k _ a1)
  refine rb_forget (locs' := locs.filter (fun q => decide (q.base < s.heap.size))) (fun q hq hlt => List.mem_filter.mpr ⟨hq, by simpa using hlt⟩) ?_
  refine kk hi hAA ls H _ hl hP96 ⟨hS.1, fun q h1 h2 => hS.2.1 q h1 (fun z => h2 (hAh q z h1)), fun q hq => ?_⟩
  obtain ⟨g1, g2⟩ := List.mem_filter.mp hq
  exact hAh q.base (hS.2.2 q g1) (by simpa using g2)
section RVV
variable {G : rm_G} {NC : Nat} {ph : Nat → Nat} {cc : ByteArray} {own : String} {Ts : List Cond} {nL fr lo pc : Nat} {lv : List (Nat × Value)} {st : List Value} {M M2 : rm_M}
/-- a void call whose end is known -/
theorem rr_cVk (hG : rm_k G NC ph cc own Ts nL fr lo) {X : Option rm_M} {y : MethodName} {ws ws2 : List Cond} {bytes : ByteArray} {maxL rf rl index n : Nat} {ret : Option FieldType} {C : String} {T : u_T} {N q ci : Nat} {stk : List Value} (As : List Value) (hX : X = some M2) (hd : decode cc pc = .ok (.invokevirtual index, 3)) (hq : rm_kq NC q (ci, 0)) (hci : ci < 9) (hcl : vwCl[ci]? = some (C, T, N)) (hg : GoodIn Ts (wsV own index C y ws)) (hw : ws = Cond.code y bytes maxL ret :: ws2) (hds : y.cls = C ∧ y.cls ≠ "java/lang/invoke/MethodHandle" ∧ y.cls ≠ "java/lang/invoke/VarHandle" ∧ (parseMethodDescriptor y.desc).map (fun d => d.parameters.length) = some n) (hn : As.length = n) (hrm : rf + 1 ≤ fr ∧ 8 + (maxL + 11) + rl ≤ lo) (hst : stk = As.reverse ++ .ref (ph q) :: st) (hcat : (st.map fun v => v.category).sum ≤ 8) (hM : ∀ M2, X = some M2 → rm_CV y ws rf rl (.ref (ph q) :: As) NC ph M M2) (kk : rm_L G NC ph nL (pc + 3) lv st M2) : rm_L G NC ph nL pc lv stk M :=
  rr_cVV hG (X := X) (K := fun M => some M) (rho := M2) As hd (by rw [hX]; rfl) hq hci hcl hg hw hds hn hrm hst hcat hM (fun M3 h3 _ => by
    have : M2 = M3 := Option.some.inj (hX.symm.trans h3)
    rw [← this]
    exact kk)
end RVV
theorem rc_mod {G : rm_G} {ph : Nat → Nat} {M Z : rm_M} (hG : rm_k G 96 ph cX8_init RX8 wsX8_init 1 1 24) (hR : modR M Z) (kk : rm_L G 96 ph 1 232 [(0, .ref (ph 79))] [] Z) : rm_L G 96 ph 1 131 [(0, .ref (ph 79))] [] M := by
  obtain ⟨A, B, C, D, E, F, G2, H, fA, fB, fC, fD, fE, fF, fG, fH, fZ⟩ := hR
  have k79 : rm_kq 96 79 (8, 0) := ⟨rfl, by decide⟩
  refine rr_aload_n hG dX8_init_131 0 rfl rfl ?_
  refine rr_cVk hG (M2 := A) (st := []) (n := 0) (ci := 8) (rf := 0) (rl := 0) [] fA dX8_init_132 k79 (by decide) rfl gX8_init_X8_clears rfl (by decide +kernel) rfl ⟨by decide, by decide⟩ rfl (Nat.le_of_ble_eq_true rfl) (fun M9 h9 => mX8_clears ph _ _ h9) ?_
  refine rr_aload_n hG dX8_init_135 0 rfl rfl ?_
  refine rr_bipush hG (v := nI 6) dX8_init_136 (by decide) ?_
  refine rr_putI hG 8 9 dX8_init_138 k79 (by decide) rfl tX8_init_X8 tyX8_ok nmX8 (by decide) kX8_init_62 rfl rfl rfl rfl rfl (Nat.le_of_ble_eq_true rfl) rfl ?_
  show rm_L G 96 ph 1 141 [(0, .ref (ph 79))] [] (mod1 A)
  refine rr_aload_n hG dX8_init_141 0 rfl rfl ?_
  refine rr_iconst hG (v := nI 0) dX8_init_142 (by decide) ?_
  refine rr_iconst hG (v := nI 1) dX8_init_143 (by decide) ?_
  refine rr_iconst hG (v := nI 2) dX8_init_144 (by decide) ?_
  refine rr_iconst hG (v := nI 1) dX8_init_145 (by decide) ?_
  refine rr_cVk hG (M2 := B) (st := []) (n := 4) (ci := 8) (rf := 0) (rl := 0) [.int (nI 0), .int (nI 1), .int (nI 2), .int (nI 1)] fB dX8_init_146 k79 (by decide) rfl gX8_init_X8_joinOf rfl (by decide +kernel) rfl ⟨by decide, by decide⟩ rfl (Nat.le_of_ble_eq_true rfl) (fun M9 h9 => mX8_joinOf ph _ _ _ _ _ _ h9) ?_
  refine rr_aload_n hG dX8_init_149 0 rfl rfl ?_
  refine rr_iconst hG (v := nI 1) dX8_init_150 (by decide) ?_
  refine rr_iconst hG (v := nI 2) dX8_init_151 (by decide) ?_
  refine rr_iconst hG (v := nI 1) dX8_init_152 (by decide) ?_
  refine rr_iconst hG (v := nI 1) dX8_init_153 (by decide) ?_
  refine rr_cVk hG (M2 := C) (st := []) (n := 4) (ci := 8) (rf := 0) (rl := 0) [.int (nI 1), .int (nI 2), .int (nI 1), .int (nI 1)] fC dX8_init_154 k79 (by decide) rfl gX8_init_X8_joinOf rfl (by decide +kernel) rfl ⟨by decide, by decide⟩ rfl (Nat.le_of_ble_eq_true rfl) (fun M9 h9 => mX8_joinOf ph _ _ _ _ _ _ h9) ?_
  refine rr_aload_n hG dX8_init_157 0 rfl rfl ?_
  refine rr_iconst hG (v := nI 2) dX8_init_158 (by decide) ?_
  refine rr_iconst hG (v := nI 3) dX8_init_159 (by decide) ?_
  refine rr_iconst hG (v := nI 3) dX8_init_160 (by decide) ?_
  refine rr_iconst hG (v := nI 1) dX8_init_161 (by decide) ?_
  refine rr_cVk hG (M2 := D) (st := []) (n := 4) (ci := 8) (rf := 0) (rl := 0) [.int (nI 2), .int (nI 3), .int (nI 3), .int (nI 1)] fD dX8_init_162 k79 (by decide) rfl gX8_init_X8_joinOf rfl (by decide +kernel) rfl ⟨by decide, by decide⟩ rfl (Nat.le_of_ble_eq_true rfl) (fun M9 h9 => mX8_joinOf ph _ _ _ _ _ _ h9) ?_
  refine rr_aload_n hG dX8_init_165 0 rfl rfl ?_
  refine rr_iconst hG (v := nI 3) dX8_init_166 (by decide) ?_
  refine rr_iconst hG (v := nI 4) dX8_init_167 (by decide) ?_
  refine rr_iconst hG (v := nI 1) dX8_init_168 (by decide) ?_
  refine rr_iconst hG (v := nI 2) dX8_init_169 (by decide) ?_
  refine rr_cVk hG (M2 := E) (st := []) (n := 4) (ci := 8) (rf := 0) (rl := 0) [.int (nI 3), .int (nI 4), .int (nI 1), .int (nI 2)] fE dX8_init_170 k79 (by decide) rfl gX8_init_X8_joinOf rfl (by decide +kernel) rfl ⟨by decide, by decide⟩ rfl (Nat.le_of_ble_eq_true rfl) (fun M9 h9 => mX8_joinOf ph _ _ _ _ _ _ h9) ?_
  refine rr_aload_n hG dX8_init_173 0 rfl rfl ?_
  refine rr_iconst hG (v := nI 4) dX8_init_174 (by decide) ?_
  refine rr_iconst hG (v := nI 5) dX8_init_175 (by decide) ?_
  refine rr_iconst hG (v := nI 1) dX8_init_176 (by decide) ?_
  refine rr_iconst hG (v := nI 1) dX8_init_177 (by decide) ?_
  refine rr_cVk hG (M2 := F) (st := []) (n := 4) (ci := 8) (rf := 0) (rl := 0) [.int (nI 4), .int (nI 5), .int (nI 1), .int (nI 1)] fF dX8_init_178 k79 (by decide) rfl gX8_init_X8_joinOf rfl (by decide +kernel) rfl ⟨by decide, by decide⟩ rfl (Nat.le_of_ble_eq_true rfl) (fun M9 h9 => mX8_joinOf ph _ _ _ _ _ _ h9) ?_
  refine rr_aload_n hG dX8_init_181 0 rfl rfl ?_
  refine rr_iconst hG (v := nI 5) dX8_init_182 (by decide) ?_
  refine rr_iconst hG (v := nI 0) dX8_init_183 (by decide) ?_
  refine rr_iconst hG (v := nI 2) dX8_init_184 (by decide) ?_
  refine rr_iconst hG (v := nI 2) dX8_init_185 (by decide) ?_
  refine rr_cVk hG (M2 := G2) (st := []) (n := 4) (ci := 8) (rf := 0) (rl := 0) [.int (nI 5), .int (nI 0), .int (nI 2), .int (nI 2)] fG dX8_init_186 k79 (by decide) rfl gX8_init_X8_joinOf rfl (by decide +kernel) rfl ⟨by decide, by decide⟩ rfl (Nat.le_of_ble_eq_true rfl) (fun M9 h9 => mX8_joinOf ph _ _ _ _ _ _ h9) ?_
  refine rr_aload_n hG dX8_init_189 0 rfl rfl ?_
  refine rr_iconst hG (v := nI 1) dX8_init_190 (by decide) ?_
  refine rr_iconst hG (v := nI 4) dX8_init_191 (by decide) ?_
  refine rr_iconst hG (v := nI 1) dX8_init_192 (by decide) ?_
  refine rr_iconst hG (v := nI 1) dX8_init_193 (by decide) ?_
  refine rr_cVk hG (M2 := H) (st := []) (n := 4) (ci := 8) (rf := 0) (rl := 0) [.int (nI 1), .int (nI 4), .int (nI 1), .int (nI 1)] fH dX8_init_194 k79 (by decide) rfl gX8_init_X8_joinOf rfl (by decide +kernel) rfl ⟨by decide, by decide⟩ rfl (Nat.le_of_ble_eq_true rfl) (fun M9 h9 => mX8_joinOf ph _ _ _ _ _ _ h9) ?_
  refine rr_aload_n hG dX8_init_197 0 rfl rfl ?_
  refine rr_get hG 8 13 (v := .ref (ph 87)) dX8_init_198 k79 (by decide) rfl tX8_init_X8 (by decide) kX8_init_31 rfl rfl ?_
  refine rr_iconst hG (v := nI 2) dX8_init_201 (by decide) ?_
  refine rr_iconst hG (v := nI 4) dX8_init_202 (by decide) ?_
  refine rr_iast hG (X := some ()) (rho := ()) (n := 20) dX8_init_203 ⟨rfl, by decide⟩ (by decide) (fun _ _ => ?_)
  rw [show (nI 2).toNatClampNeg = 2 by decide]
  refine rr_aload_n hG dX8_init_204 0 rfl rfl ?_
  refine rr_get hG 8 13 (v := .ref (ph 87)) dX8_init_205 k79 (by decide) rfl tX8_init_X8 (by decide) kX8_init_31 rfl rfl ?_
  refine rr_bipush hG (v := nI 9) dX8_init_208 (by decide) ?_
  refine rr_iconst hG (v := nI 1) dX8_init_210 (by decide) ?_
  refine rr_iast hG (X := some ()) (rho := ()) (n := 20) dX8_init_211 ⟨rfl, by decide⟩ (by decide) (fun _ _ => ?_)
  rw [show (nI 9).toNatClampNeg = 9 by decide]
  refine rr_aload_n hG dX8_init_212 0 rfl rfl ?_
  refine rr_get hG 8 13 (v := .ref (ph 87)) dX8_init_213 k79 (by decide) rfl tX8_init_X8 (by decide) kX8_init_31 rfl rfl ?_
  refine rr_bipush hG (v := nI 10) dX8_init_216 (by decide) ?_
  refine rr_iconst hG (v := nI 1) dX8_init_218 (by decide) ?_
  refine rr_iast hG (X := some ()) (rho := ()) (n := 20) dX8_init_219 ⟨rfl, by decide⟩ (by decide) (fun _ _ => ?_)
  rw [show (nI 10).toNatClampNeg = 10 by decide]
  refine rr_aload_n hG dX8_init_220 0 rfl rfl ?_
  refine rr_get hG 8 13 (v := .ref (ph 87)) dX8_init_221 k79 (by decide) rfl tX8_init_X8 (by decide) kX8_init_31 rfl rfl ?_
  refine rr_bipush hG (v := nI 11) dX8_init_224 (by decide) ?_
  refine rr_iconst hG (v := nI 1) dX8_init_226 (by decide) ?_
  refine rr_iast hG (X := some ()) (rho := ()) (n := 20) dX8_init_227 ⟨rfl, by decide⟩ (by decide) (fun _ _ => ?_)
  rw [show (nI 11).toNatClampNeg = 11 by decide]
  show rm_L G 96 ph 1 228 [(0, .ref (ph 79))] [] (mod2 H)
  refine rr_aload_n hG dX8_init_228 0 rfl rfl ?_
  exact rr_cVk hG (M2 := Z) (st := []) (n := 0) (ci := 8) (rf := 0) (rl := 0) [] fZ dX8_init_229 k79 (by decide) rfl gX8_init_X8_takes rfl (by decide +kernel) rfl ⟨by decide, by decide⟩ rfl (Nat.le_of_ble_eq_true rfl) (fun M9 h9 => mX8_takes ph _ _ h9) kk
def rc_postM (ph : Nat → Nat) (h : Nat) (A : Nat → Prop) (u : (Nat → Nat) × rm_M) : Prop := u.1 0 = ph 0 ∧ u.1 79 = h ∧ rm_inj 96 u.1 ∧ (∀ k, k < 96 → A (u.1 k)) ∧ Inv 0 u.2
def rc_preM (D : va_G) (cy : rm_Y) (ph : Nat → Nat) (M : rm_M) (h sz : Nat) (U : State) : Prop := U.heap.size = sz ∧ va_P D vwCl ((h, .inr (8, rc_f8)) :: rm_W 79 cy ph M) U.heap ∧ va_K D vwCl (rm_ty cy) U ∧ rb_N U
set_option maxRecDepth 20000 in
theorem mX8_init (l : Launch) (D : va_G) (cy : rm_Y) (ph : Nat → Nat) (M : rm_M) (h sz : Nat) (hi : rm_inj 79 ph) (hne : ∀ k, k < 79 → ph k ≠ h) (hF : Fst M) : Met l yX8_init wsX8_init ({ frames := 1, cells := 16, slots := 529, locals := 24 }) (va_Pc [.ref h] (rc_preM D cy ph M h sz)) (va_Qv (rc_postM ph h (va_A ((h, .inr (8, rc_f8)) :: rm_W 79 cy ph M) sz)) (fun u t => va_P D vwCl (rm_W 96 cy u.1 u.2) t.heap) (va_A ((h, .inr (8, rc_f8)) :: rm_W 79 cy ph M) sz)) 16 529 (va_A ((h, .inr (8, rc_f8)) :: rm_W 79 cy ph M) sz) := by
  refine Met.ofW (cc := cX8_init) (maxL := 1) (ret := none) (by decide +kernel) rfl ?_
  intro p e s m args below meth c s₁ B hml hv
  obtain ⟨rfl, hsz, hP, hK, hN⟩ := hv
  subst hsz
  have hts := atoms_spec (ws := wsX8_init) B.pre
  have hown : s.vm.findClass RX8 = some m.cls := findClass_of_methodNamed B.named
  have hin : meth.name = "<init>" := (name_of_methodNamed B.named B.method).1
  rw [lg_entry_eq]
  have hl := lv_entry [.ref h] (n := 1) (Nat.le_of_ble_eq_true rfl)
  have hD := rb_DM (cy := cy) (M := M) (sz := s.heap.size) (e := .inr (8, rc_f8)) hi hne
  have hmem : ∀ q, va_A ((h, .inr (8, rc_f8)) :: rm_W 79 cy ph M) s.heap.size q → q < s.heap.size → q = h ∨ ∃ k, k < 79 ∧ ph k = q := by
    intro q hq hlt
    rcases hq with ⟨k, e2, hk⟩ | hq
    · cases k with
      | zero =>
        rw [List.getElem?_cons_zero] at hk
        exact Or.inl (congrArg Prod.fst (Option.some.inj hk)).symm
      | succ k =>
        rw [List.getElem?_cons_succ] at hk
        have hl9 : k < 79 := by have := (List.getElem?_eq_some_iff.mp hk).1; simpa [rm_W] using this
        rw [rm_W_at 79 cy ph M hl9] at hk
        exact Or.inr ⟨k, hl9, congrArg Prod.fst (Option.some.inj hk)⟩
    · omega
  generalize hAe : va_A ((h, .inr (8, rc_f8)) :: rm_W 79 cy ph M) s.heap.size = A at hD hmem ⊢
  have hA : ∀ q, s.heap.size ≤ q → A q := fun q hq => by rw [← hAe]; exact Or.inr hq
  generalize hQe : MQ below (va_Qv (rc_postM ph h A) (fun u t => va_P D vwCl (rm_W 96 cy u.1 u.2) t.heap) A) [Value.ref h].toArray s 16 529 A = Q
  have hG : rb_k (p, l, e, (headSpec wsX8_init { frames := 1, cells := 16, slots := 529, locals := 24 }).room, s, m, [Value.ref h].toArray, below, meth, c, Q, cy, D, A) cX8_init RX8 wsX8_init 1 1 24 16 529 := ⟨B.exec, B.bytes, hml, hown, hts, hK, hN, hin, hA, rfl, rfl, rfl, rfl⟩
  refine (?_ : rb_L (p, l, e, (headSpec wsX8_init { frames := 1, cells := 16, slots := 529, locals := 24 }).room, s, m, [Value.ref h].toArray, below, meth, c, Q, cy, D, A) 1 0 [(0, .ref h)] [] ((h, .inr (8, rc_f8)) :: rm_W 79 cy ph M) 0 0) _ _ _ hl hP hD va_S.rf
  have hr := hF.r
  have hWM := rb_wM (cy := cy) (ph := ph) hr h
  generalize rm_W 79 cy ph M = X at hWM ⊢
  refine rb_aload hG 0 dX8_init_0 rfl rfl ?_
  refine rb_oi hG dX8_init_1 (by decide +kernel) (by decide +kernel) (List.mem_of_getElem? (i := 3) rfl) (by decide) (by decide) ?_
  refine rb_fI hG (h := h) (n := 200) (len := 3) 8 1 dX8_init_4 (rb_p3 dX8_init_5 (by decide)) dX8_init_8 dX8_init_10 (by decide) (by decide +kernel) rfl tX8_init_X8 tyX8_ok nmX8 (by decide) (by decide +kernel) rfl rfl (Nat.le_of_ble_eq_true rfl) (by decide) (by decide) (fun a1 => ?_)
  refine rb_fI hG (h := h) (n := 36) (len := 2) 8 4 dX8_init_13 (rb_p2 dX8_init_14 (by decide)) dX8_init_16 dX8_init_18 (by decide) (by decide +kernel) rfl tX8_init_X8 tyX8_ok nmX8 (by decide) (by decide +kernel) rfl rfl (Nat.le_of_ble_eq_true rfl) (by decide) (by decide) (fun a4 => ?_)
  refine rb_fI hG (h := h) (n := 4) (len := 1) 8 5 dX8_init_21 (rb_p1 dX8_init_22 (by decide)) dX8_init_23 dX8_init_25 (by decide) (by decide +kernel) rfl tX8_init_X8 tyX8_ok nmX8 (by decide) (by decide +kernel) rfl rfl (Nat.le_of_ble_eq_true rfl) (by decide) (by decide) (fun a5 => ?_)
  refine rb_fI hG (h := h) (n := 20) (len := 2) 8 6 dX8_init_28 (rb_p2 dX8_init_29 (by decide)) dX8_init_31 dX8_init_33 (by decide) (by decide +kernel) rfl tX8_init_X8 tyX8_ok nmX8 (by decide) (by decide +kernel) rfl rfl (Nat.le_of_ble_eq_true rfl) (by decide) (by decide) (fun a6 => ?_)
  refine rb_fI hG (h := h) (n := 120) (len := 2) 8 7 dX8_init_36 (rb_p2 dX8_init_37 (by decide)) dX8_init_39 dX8_init_41 (by decide) (by decide +kernel) rfl tX8_init_X8 tyX8_ok nmX8 (by decide) (by decide +kernel) rfl rfl (Nat.le_of_ble_eq_true rfl) (by decide) (by decide) (fun a7 => ?_)
  refine rb_fI hG (h := h) (n := 36) (len := 2) 8 11 dX8_init_44 (rb_p2 dX8_init_45 (by decide)) dX8_init_47 dX8_init_49 (by decide) (by decide +kernel) rfl tX8_init_X8 tyX8_ok nmX8 (by decide) (by decide +kernel) rfl rfl (Nat.le_of_ble_eq_true rfl) (by decide) (by decide) (fun a11 => ?_)
  refine rb_fI hG (h := h) (n := 4) (len := 1) 8 12 dX8_init_52 (rb_p1 dX8_init_53 (by decide)) dX8_init_54 dX8_init_56 (by decide) (by decide +kernel) rfl tX8_init_X8 tyX8_ok nmX8 (by decide) (by decide +kernel) rfl rfl (Nat.le_of_ble_eq_true rfl) (by decide) (by decide) (fun a12 => ?_)
  refine rb_fI hG (h := h) (n := 20) (len := 2) 8 13 dX8_init_59 (rb_p2 dX8_init_60 (by decide)) dX8_init_62 dX8_init_64 (by decide) (by decide +kernel) rfl tX8_init_X8 tyX8_ok nmX8 (by decide) (by decide +kernel) rfl rfl (Nat.le_of_ble_eq_true rfl) (by decide) (by decide) (fun a13 => ?_)
  refine rb_fI hG (h := h) (n := 10) (len := 2) 8 16 dX8_init_67 (rb_p2 dX8_init_68 (by decide)) dX8_init_70 dX8_init_72 (by decide) (by decide +kernel) rfl tX8_init_X8 tyX8_ok nmX8 (by decide) (by decide +kernel) rfl rfl (Nat.le_of_ble_eq_true rfl) (by decide) (by decide) (fun a16 => ?_)
  refine rb_fI hG (h := h) (n := 10) (len := 2) 8 17 dX8_init_75 (rb_p2 dX8_init_76 (by decide)) dX8_init_78 dX8_init_80 (by decide) (by decide +kernel) rfl tX8_init_X8 tyX8_ok nmX8 (by decide) (by decide +kernel) rfl rfl (Nat.le_of_ble_eq_true rfl) (by decide) (by decide) (fun a17 => ?_)
  refine rb_fJ hG (h := h) (n := 6) (len := 2) 8 18 dX8_init_83 (rb_p2 dX8_init_84 (by decide)) dX8_init_86 dX8_init_88 (by decide) (by decide +kernel) rfl tX8_init_X8 tyX8_ok nmX8 (by decide) (by decide +kernel) rfl rfl (Nat.le_of_ble_eq_true rfl) (by decide) (by decide) (fun a18 => ?_)
  refine rb_fJ hG (h := h) (n := 25) (len := 2) 8 19 dX8_init_91 (rb_p2 dX8_init_92 (by decide)) dX8_init_94 dX8_init_96 (by decide) (by decide +kernel) rfl tX8_init_X8 tyX8_ok nmX8 (by decide) (by decide +kernel) rfl rfl (Nat.le_of_ble_eq_true rfl) (by decide) (by decide) (fun a19 => ?_)
  refine rb_fI hG (h := h) (n := 6) (len := 2) 8 20 dX8_init_99 (rb_p2 dX8_init_100 (by decide)) dX8_init_102 dX8_init_104 (by decide) (by decide +kernel) rfl tX8_init_X8 tyX8_ok nmX8 (by decide) (by decide +kernel) rfl rfl (Nat.le_of_ble_eq_true rfl) (by decide) (by decide) (fun a20 => ?_)
  refine rb_fI hG (h := h) (n := 6) (len := 2) 8 21 dX8_init_107 (rb_p2 dX8_init_108 (by decide)) dX8_init_110 dX8_init_112 (by decide) (by decide +kernel) rfl tX8_init_X8 tyX8_ok nmX8 (by decide) (by decide +kernel) rfl rfl (Nat.le_of_ble_eq_true rfl) (by decide) (by decide) (fun a21 => ?_)
  refine rb_fI hG (h := h) (n := 6) (len := 2) 8 22 dX8_init_115 (rb_p2 dX8_init_116 (by decide)) dX8_init_118 dX8_init_120 (by decide) (by decide +kernel) rfl tX8_init_X8 tyX8_ok nmX8 (by decide) (by decide +kernel) rfl rfl (Nat.le_of_ble_eq_true rfl) (by decide) (by decide) (fun a22 => ?_)
  refine rb_fI hG (h := h) (n := 20) (len := 2) 8 25 dX8_init_123 (rb_p2 dX8_init_124 (by decide)) dX8_init_126 dX8_init_128 (by decide) (by decide +kernel) rfl tX8_init_X8 tyX8_ok nmX8 (by decide) (by decide +kernel) rfl rfl (Nat.le_of_ble_eq_true rfl) (by decide) (by decide) (fun a25 => ?_)
  have hW2 := hWM a1 a4 a5 a6 a7 a11 a12 a13 a16 a17 a18 a19 a20 a21 a22 a25
  simp only [List.append_assoc, List.cons_append, List.nil_append]
  refine rb_convM (ph := rb_pM ph [h, a1, a4, a5, a6, a7, a11, a12, a13, a16, a17, a18, a19, a20, a21, a22, a25]) (M := M79 M) hW2 (fun q hq hlt => ?_) (fun hi2 hAA => ?_)
  · rcases hmem q hq hlt with rfl | ⟨k, hk, rfl⟩
    · exact ⟨79, by omega, rfl⟩
    · exact ⟨k, by omega, if_pos hk⟩
  have hsub : ∀ q, rm_A 96 (rb_pM ph [h, a1, a4, a5, a6, a7, a11, a12, a13, a16, a17, a18, a19, a20, a21, a22, a25]) q → A q := by
    rintro q ⟨k, hk, rfl⟩
    exact hAA k hk
  have hG2 : rm_k (p, l, e, (headSpec wsX8_init { frames := 1, cells := 16, slots := 529, locals := 24 }).room, s, m, [Value.ref h].toArray, below, meth, c, Q, cy, D, 16, 529) 96 (rb_pM ph [h, a1, a4, a5, a6, a7, a11, a12, a13, a16, a17, a18, a19, a20, a21, a22, a25]) cX8_init RX8 wsX8_init 1 1 24 := ⟨B.exec, B.bytes, hml, hown, hts, hK, hN.1, hi2, rfl, rfl, Nat.le_refl _, Nat.le_refl _⟩
  obtain ⟨Z, hR, hI⟩ := first_mod (M := M79 M) rfl hF.m79
  refine rc_mod hG2 hR ?_
  intro ls H locs hl hP hS
  have hS2 : va_S A s.heap H locs := ⟨hS.1, fun q h1 h2 => hS.2.1 q h1 (fun z => h2 (hsub q z)), fun q hq => hsub _ (hS.2.2 q hq)⟩
  rw [← hQe]
  exact W.vret B.exec B.bytes B.returns (fun t ht hW => ⟨⟨(rb_pM ph [h, a1, a4, a5, a6, a7, a11, a12, a13, a16, a17, a18, a19, a20, a21, a22, a25], Z), rfl, ⟨rfl, rfl, hi2, hAA, hI⟩, by show va_P D vwCl (rm_W 96 cy (rb_pM ph [h, a1, a4, a5, a6, a7, a11, a12, a13, a16, a17, a18, a19, a20, a21, a22, a25]) Z) t.heap; rw [ht]; exact hP⟩, hS2.F ht⟩) hS2.2.2 dX8_init_232 B.notSynchronized
