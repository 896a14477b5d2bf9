/-! ===== ends, contracts, calls ===== -/
def rm_bd {α β : Type} (X : Option (α × rm_M)) (K : α → rm_M → Option β) : Option β := match X with
  | some q => K q.1 q.2
  | none => none
def rm_bv {β : Type} (X : Option rm_M) (K : rm_M → Option β) : Option β := match X with
  | some q => K q
  | none => none
def rm_z (x : Int32) (M : rm_M) : Option (Int32 × rm_M) := if x = 0 ∨ x = 1 then some (x, M) else none
theorem rm_bd_some {α β : Type} {X : Option (α × rm_M)} {K : α → rm_M → Option β} {rho : β} (h : rm_bd X K = some rho) : ∃ r M, X = some (r, M) ∧ K r M = some rho := by
  cases X with
  | none => cases h
  | some q => exact ⟨q.1, q.2, rfl, h⟩
theorem rm_bv_some {β : Type} {X : Option rm_M} {K : rm_M → Option β} {rho : β} (h : rm_bv X K = some rho) : ∃ M, X = some M ∧ K M = some rho := by
  cases X with
  | none => cases h
  | some q => exact ⟨q, rfl, h⟩
def rm_CI (y : MethodName) (ws : List Cond) (rf rl : Nat) (As : List Value) (NC : Nat) (ph : Nat → Nat) (M : rm_M) (rho : (Int32 × rm_M)) : Prop := ∀ (l : Launch) (D : va_G) (cy : rm_Y), rm_inj NC ph → Met l y ws ({ frames := rf, cells := 0, slots := 0, locals := rl }) (va_Pc As (rm_B NC cy ph D M)) (va_Qi (fun r u => (r, u) = rho) (rm_P NC cy ph D) (rm_A NC ph)) 0 0 (rm_A NC ph)
def rm_rI (G : rm_G) (NC : Nat) (ph : Nat → Nat) (ty : FieldType) (rho : (Int32 × rm_M)) : Prop :=
  match G with
  | (_, _, _, _, s, _, args, below, meth, _, Q, cy, D, cells, slots) => meth.sig.returnType = some ty ∧ meth.locks = false ∧ cells = 0 ∧ slots = 0 ∧ Q = MQ below (va_Qi (fun r u => (r, u) = rho) (rm_P NC cy ph D) (rm_A NC ph)) args s 0 0 (rm_A NC ph)
def rm_CJ (y : MethodName) (ws : List Cond) (rf rl : Nat) (As : List Value) (NC : Nat) (ph : Nat → Nat) (M : rm_M) (rho : (Int64 × rm_M)) : Prop := ∀ (l : Launch) (D : va_G) (cy : rm_Y), rm_inj NC ph → Met l y ws ({ frames := rf, cells := 0, slots := 0, locals := rl }) (va_Pc As (rm_B NC cy ph D M)) (va_Ql (fun r u => (r, u) = rho) (rm_P NC cy ph D) (rm_A NC ph)) 0 0 (rm_A NC ph)
def rm_rJ (G : rm_G) (NC : Nat) (ph : Nat → Nat) (rho : (Int64 × rm_M)) : Prop :=
  match G with
  | (_, _, _, _, s, _, args, below, meth, _, Q, cy, D, cells, slots) => meth.sig.returnType = some .long ∧ meth.locks = false ∧ cells = 0 ∧ slots = 0 ∧ Q = MQ below (va_Ql (fun r u => (r, u) = rho) (rm_P NC cy ph D) (rm_A NC ph)) args s 0 0 (rm_A NC ph)
def rm_CV (y : MethodName) (ws : List Cond) (rf rl : Nat) (As : List Value) (NC : Nat) (ph : Nat → Nat) (M : rm_M) (rho : rm_M) : Prop := ∀ (l : Launch) (D : va_G) (cy : rm_Y), rm_inj NC ph → Met l y ws ({ frames := rf, cells := 0, slots := 0, locals := rl }) (va_Pc As (rm_B NC cy ph D M)) (va_Qv (fun u => u = rho) (rm_P NC cy ph D) (rm_A NC ph)) 0 0 (rm_A NC ph)
def rm_rV (G : rm_G) (NC : Nat) (ph : Nat → Nat) (rho : rm_M) : Prop :=
  match G with
  | (_, _, _, _, s, _, args, below, meth, _, Q, cy, D, cells, slots) => meth.sig.returnType = none ∧ meth.locks = false ∧ cells = 0 ∧ slots = 0 ∧ Q = MQ below (va_Qv (fun u => u = rho) (rm_P NC cy ph D) (rm_A NC ph)) args s 0 0 (rm_A NC ph)
section RMC
variable {G : rm_G} {NC : Nat} {ph : Nat → Nat} {cc : ByteArray} {own : String} {Ts : List Cond} {nL fr lo pc : Nat} {lv : List (Nat × Value)} {st : List Value} {M : rm_M}
theorem rr_iret (hG : rm_k G NC ph cc own Ts nL fr lo) {x : Int32} {rho : Int32 × rm_M} (hR : rm_rI G NC ph .int rho) (hd : decode cc pc = .ok (.ireturn, 1)) (hf : some (x, M) = some rho) : rm_L G NC ph nL pc lv ([.int x]) M := by
  obtain ⟨p, l, e, R, s, m, args, below, meth, c, Q, cy, D, cells, slots⟩ := G
  obtain ⟨hx, hb, hml, hown, hts, hK, hN, hi, hfr, hlo, hc, hs⟩ := hG
  obtain ⟨hr, hlk, rfl, rfl, rfl⟩ := hR
  intro ls H locs hl hP hS
  exact W.iret (v := x) hx hb hr (fun t ht hW => ⟨⟨x, M, rfl, Option.some.inj hf, by show va_P _ _ _ t.heap; rw [ht]; exact hP⟩, hS.F ht⟩) hS.2.2 hd hlk
theorem rr_zret (hG : rm_k G NC ph cc own Ts nL fr lo) {x : Int32} {rho : Int32 × rm_M} (hR : rm_rI G NC ph .boolean rho) (hd : decode cc pc = .ok (.ireturn, 1)) (hf : rm_z x M = some rho) : rm_L G NC ph nL pc lv ([.int x]) M := by
  have hxx : x = 0 ∨ x = 1 := by
    by_cases h : x = 0 ∨ x = 1
    · exact h
    · rw [rm_z, if_neg h] at hf; cases hf
  rw [rm_z, if_pos hxx] at hf
  have hn : narrow .boolean (.int x) = .int x := by rcases hxx with rfl | rfl <;> decide +kernel
  obtain ⟨p, l, e, R, s, m, args, below, meth, c, Q, cy, D, cells, slots⟩ := G
  obtain ⟨hx, hb, hml, hown, hts, hK, hN, hi, hfr, hlo, hc, hs⟩ := hG
  obtain ⟨hr, hlk, rfl, rfl, rfl⟩ := hR
  intro ls H locs hl hP hS
  exact W.zret (v := x) (ty := .boolean) hx hb hr hn (fun t ht hW => ⟨⟨x, M, rfl, Option.some.inj hf, by show va_P _ _ _ t.heap; rw [ht]; exact hP⟩, hS.F ht⟩) hS.2.2 hd hlk
theorem rr_lret (hG : rm_k G NC ph cc own Ts nL fr lo) {x : Int64} {rho : Int64 × rm_M} (hR : rm_rJ G NC ph rho) (hd : decode cc pc = .ok (.lreturn, 1)) (hf : some (x, M) = some rho) : rm_L G NC ph nL pc lv ([.long x]) M := by
  obtain ⟨p, l, e, R, s, m, args, below, meth, c, Q, cy, D, cells, slots⟩ := G
  obtain ⟨hx, hb, hml, hown, hts, hK, hN, hi, hfr, hlo, hc, hs⟩ := hG
  obtain ⟨hr, hlk, rfl, rfl, rfl⟩ := hR
  intro ls H locs hl hP hS
  exact W.lret (v := x) hx hb hr (fun t ht hW => ⟨⟨x, M, rfl, Option.some.inj hf, by show va_P _ _ _ t.heap; rw [ht]; exact hP⟩, hS.F ht⟩) hS.2.2 hd hlk
theorem rr_vret (hG : rm_k G NC ph cc own Ts nL fr lo) {rho : rm_M} (hR : rm_rV G NC ph rho) (hd : decode cc pc = .ok (.return_, 1)) (hf : some M = some rho) : rm_L G NC ph nL pc lv ([]) M := by
  obtain ⟨p, l, e, R, s, m, args, below, meth, c, Q, cy, D, cells, slots⟩ := G
  obtain ⟨hx, hb, hml, hown, hts, hK, hN, hi, hfr, hlo, hc, hs⟩ := hG
  obtain ⟨hr, hlk, rfl, rfl, rfl⟩ := hR
  intro ls H locs hl hP hS
  exact W.vret hx hb hr (fun t ht hW => ⟨⟨M, rfl, Option.some.inj hf, by show va_P _ _ _ t.heap; rw [ht]; exact hP⟩, hS.F ht⟩) hS.2.2 hd hlk
theorem rr_cVI (hG : rm_k G NC ph cc own Ts nL fr lo) {α : Type} {X : Option (Int32 × rm_M)} {K : Int32 → rm_M → Option α} {rho : α} {y : MethodName} {ws ws2 : List Cond} {bytes : ByteArray} {maxL rf rl index n : Nat} {ret : Option FieldType} {C : String} {T : u_T} {N q ci : Nat} {stk : List Value} (As : List Value) (hd : decode cc pc = .ok (.invokevirtual index, 3)) (hf : rm_bd X K = some rho) (hq : rm_kq NC q (ci, 0)) (hci : ci < 9) (hcl : vwCl[ci]? = some (C, T, N)) (hg : GoodIn Ts (wsV own index C y ws)) (hw : ws = Cond.code y bytes maxL ret :: ws2) (hds : y.cls = C ∧ y.cls ≠ "java/lang/invoke/MethodHandle" ∧ y.cls ≠ "java/lang/invoke/VarHandle" ∧ (parseMethodDescriptor y.desc).map (fun d => d.parameters.length) = some n) (hn : As.length = n) (hrm : rf + 1 ≤ fr ∧ 8 + (maxL + 11) + rl ≤ lo) (hst : stk = As.reverse ++ .ref (ph q) :: st) (hcat : (st.map fun v => v.category).sum ≤ 8) (hM : ∀ r M2, X = some (r, M2) → rm_CI y ws rf rl (.ref (ph q) :: As) NC ph M (r, M2)) (kk : ∀ r M2, X = some (r, M2) → K r M2 = some rho → rm_L G NC ph nL (pc + 3) lv (.int r :: st) M2) : rm_L G NC ph nL pc lv (stk) M := by
  obtain ⟨r, M2, hX, hK2⟩ := rm_bd_some hf
  obtain ⟨p, l, e, R, s, m, args, below, meth, c, Q, cy, D, cells, slots⟩ := G
  obtain ⟨hx, hb, hml, hown, hts, hK, hN, hi, hfr, hlo, hc, hs⟩ := hG
  intro ls H locs hl hP hS
  subst hst
  have he := rm_W_at NC cy ph M hq.2
  rw [rm_e_obj cy ph _ _ _ hq.1 hci] at he
  refine va_calli (va_runV (As := As) (rest := st) ⟨hx, hb, hml, hown, hts⟩ (hM r M2 hX l D cy hi) (cwV n hts hg hw rfl rfl hds ⟨by rw [hfr]; exact hrm.1, by rw [hlo]; exact hrm.2⟩) ⟨fun a U g mk q => ⟨q.1, q.2.1, va_K.moved (u := U) (U := U.calling g mk a) (Vm.Alike.refl U.vm) q.2.2.1, rm_N.same (s := U) (U := U.calling g mk a) rfl q.2.2.2⟩, va_recv hK hP hcl he, fun U hU hW => ⟨rfl, by show va_P _ _ _ U.heap; rw [hU]; exact hP, va_K.moved hW.alike hK, rm_N.warm hW hN⟩⟩ rfl hn hl.1 rfl (lv_room hcat) hd ⟨by simpa using hc, by simpa using hs⟩) hS (fun q _ h => h) (fun q h => h) (fun r1 u t H1 locs1 ht hvm hpost hB hz hk1 hS => ?_)
  have hru : r1 = r ∧ u = M2 := by cases hpost; exact ⟨rfl, rfl⟩
  obtain ⟨rfl, rfl⟩ := hru
  have hP1 : va_P D vwCl (rm_W NC cy ph u) H1 := by rw [← ht]; exact hB
  exact kk _ _ hX hK2 ls H1 locs1 hl hP1 hS
theorem rr_cSI (hG : rm_k G NC ph cc own Ts nL fr lo) {α : Type} {X : Option (Int32 × rm_M)} {K : Int32 → rm_M → Option α} {rho : α} {y : MethodName} {ws ws2 : List Cond} {bytes : ByteArray} {maxL rf rl index n : Nat} {ret : Option FieldType} {stk : List Value} (As : List Value) (hd : decode cc pc = .ok (.invokestatic index, 3)) (hf : rm_bd X K = some rho) (hg : GoodIn Ts (va_wsS own index y ws)) (hw : ws = Cond.code y bytes maxL ret :: ws2) (hds : y.cls ≠ "java/lang/invoke/MethodHandle" ∧ y.cls ≠ "java/lang/invoke/VarHandle" ∧ (parseMethodDescriptor y.desc).map (fun d => d.parameters.length) = some n) (hn : As.length = n) (hrm : rf + 1 ≤ fr ∧ 8 + (maxL + 11) + rl ≤ lo) (hst : stk = As.reverse ++ st) (hcat : (st.map fun v => v.category).sum ≤ 8) (hM : ∀ r M2, X = some (r, M2) → rm_CI y ws rf rl (As) NC ph M (r, M2)) (kk : ∀ r M2, X = some (r, M2) → K r M2 = some rho → rm_L G NC ph nL (pc + 3) lv (.int r :: st) M2) : rm_L G NC ph nL pc lv (stk) M := by
  obtain ⟨r, M2, hX, hK2⟩ := rm_bd_some hf
  obtain ⟨p, l, e, R, s, m, args, below, meth, c, Q, cy, D, cells, slots⟩ := G
  obtain ⟨hx, hb, hml, hown, hts, hK, hN, hi, hfr, hlo, hc, hs⟩ := hG
  intro ls H locs hl hP hS
  subst hst
  refine va_calli (va_runS (As := As) (rest := st) ⟨hx, hb, hml, hown, hts⟩ (hM r M2 hX l D cy hi) (va_cwS n hts hg hw rfl rfl hds ⟨by rw [hfr]; exact hrm.1, by rw [hlo]; exact hrm.2⟩) ⟨fun a U g mk q => ⟨q.1, q.2.1, va_K.moved (u := U) (U := U.calling g mk a) (Vm.Alike.refl U.vm) q.2.2.1, rm_N.same (s := U) (U := U.calling g mk a) rfl q.2.2.2⟩, fun U hU hW => ⟨rfl, by show va_P _ _ _ U.heap; rw [hU]; exact hP, va_K.moved hW.alike hK, rm_N.warm hW hN⟩⟩ rfl hn hl.1 rfl (lv_room hcat) hd ⟨by simpa using hc, by simpa using hs⟩) hS (fun q _ h => h) (fun q h => h) (fun r1 u t H1 locs1 ht hvm hpost hB hz hk1 hS => ?_)
  have hru : r1 = r ∧ u = M2 := by cases hpost; exact ⟨rfl, rfl⟩
  obtain ⟨rfl, rfl⟩ := hru
  have hP1 : va_P D vwCl (rm_W NC cy ph u) H1 := by rw [← ht]; exact hB
  exact kk _ _ hX hK2 ls H1 locs1 hl hP1 hS
theorem rr_cNI (hG : rm_k G NC ph cc own Ts nL fr lo) {α : Type} {X : Option (Int32 × rm_M)} {K : Int32 → rm_M → Option α} {rho : α} {y : MethodName} {ws ws2 : List Cond} {bytes : ByteArray} {maxL rf rl index n : Nat} {ret : Option FieldType} {stk : List Value} (As : List Value) (hd : decode cc pc = .ok (.invokestatic index, 3)) (hf : rm_bd X K = some rho) (hg : GoodIn Ts ws) (hnl : Cond.methodLinkNest own index y "RingPages" ∈ rm_nw) (hini : Cond.initialized y.cls ∈ Ts) (hsta : Cond.static y ∈ Ts) (hw : ws = Cond.code y bytes maxL ret :: ws2) (hds : y.cls ≠ "java/lang/invoke/MethodHandle" ∧ y.cls ≠ "java/lang/invoke/VarHandle" ∧ (parseMethodDescriptor y.desc).map (fun d => d.parameters.length) = some n) (hn : As.length = n) (hrm : rf + 1 ≤ fr ∧ 8 + (maxL + 11) + rl ≤ lo) (hst : stk = As.reverse ++ st) (hcat : (st.map fun v => v.category).sum ≤ 8) (hM : ∀ r M2, X = some (r, M2) → rm_CI y ws rf rl (As) NC ph M (r, M2)) (kk : ∀ r M2, X = some (r, M2) → K r M2 = some rho → rm_L G NC ph nL (pc + 3) lv (.int r :: st) M2) : rm_L G NC ph nL pc lv (stk) M := by
  obtain ⟨r, M2, hX, hK2⟩ := rm_bd_some hf
  obtain ⟨p, l, e, R, s, m, args, below, meth, c, Q, cy, D, cells, slots⟩ := G
  obtain ⟨hx, hb, hml, hown, hts, hK, hN, hi, hfr, hlo, hc, hs⟩ := hG
  intro ls H locs hl hP hS
  subst hst
  refine va_calli (va_runSN (As := As) (rest := st) ⟨hx, hb, hml, hown, hts⟩ (hM r M2 hX l D cy hi) ⟨va_cnB n hts hg hw rfl rfl (hN _ hnl) (hts _ hini) hds ⟨by rw [hfr]; exact hrm.1, by rw [hlo]; exact hrm.2⟩, hts _ hsta, trivial⟩ ⟨fun a U g mk q => ⟨q.1, q.2.1, va_K.moved (u := U) (U := U.calling g mk a) (Vm.Alike.refl U.vm) q.2.2.1, rm_N.same (s := U) (U := U.calling g mk a) rfl q.2.2.2⟩, fun U hU hW => ⟨rfl, by show va_P _ _ _ U.heap; rw [hU]; exact hP, va_K.moved hW.alike hK, rm_N.warm hW hN⟩⟩ rfl hn hl.1 rfl (lv_room hcat) hd ⟨by simpa using hc, by simpa using hs⟩) hS (fun q _ h => h) (fun q h => h) (fun r1 u t H1 locs1 ht hvm hpost hB hz hk1 hS => ?_)
  have hru : r1 = r ∧ u = M2 := by cases hpost; exact ⟨rfl, rfl⟩
  obtain ⟨rfl, rfl⟩ := hru
  have hP1 : va_P D vwCl (rm_W NC cy ph u) H1 := by rw [← ht]; exact hB
  exact kk _ _ hX hK2 ls H1 locs1 hl hP1 hS
theorem rr_cVJ (hG : rm_k G NC ph cc own Ts nL fr lo) {α : Type} {X : Option (Int64 × rm_M)} {K : Int64 → rm_M → Option α} {rho : α} {y : MethodName} {ws ws2 : List Cond} {bytes : ByteArray} {maxL rf rl index n : Nat} {ret : Option FieldType} {C : String} {T : u_T} {N q ci : Nat} {stk : List Value} (As : List Value) (hd : decode cc pc = .ok (.invokevirtual index, 3)) (hf : rm_bd X K = some rho) (hq : rm_kq NC q (ci, 0)) (hci : ci < 9) (hcl : vwCl[ci]? = some (C, T, N)) (hg : GoodIn Ts (wsV own index C y ws)) (hw : ws = Cond.code y bytes maxL ret :: ws2) (hds : y.cls = C ∧ y.cls ≠ "java/lang/invoke/MethodHandle" ∧ y.cls ≠ "java/lang/invoke/VarHandle" ∧ (parseMethodDescriptor y.desc).map (fun d => d.parameters.length) = some n) (hn : As.length = n) (hrm : rf + 1 ≤ fr ∧ 8 + (maxL + 11) + rl ≤ lo) (hst : stk = As.reverse ++ .ref (ph q) :: st) (hcat : (st.map fun v => v.category).sum ≤ 8) (hM : ∀ r M2, X = some (r, M2) → rm_CJ y ws rf rl (.ref (ph q) :: As) NC ph M (r, M2)) (kk : ∀ r M2, X = some (r, M2) → K r M2 = some rho → rm_L G NC ph nL (pc + 3) lv (.long r :: st) M2) : rm_L G NC ph nL pc lv (stk) M := by
  obtain ⟨r, M2, hX, hK2⟩ := rm_bd_some hf
  obtain ⟨p, l, e, R, s, m, args, below, meth, c, Q, cy, D, cells, slots⟩ := G
  obtain ⟨hx, hb, hml, hown, hts, hK, hN, hi, hfr, hlo, hc, hs⟩ := hG
  intro ls H locs hl hP hS
  subst hst
  have he := rm_W_at NC cy ph M hq.2
  rw [rm_e_obj cy ph _ _ _ hq.1 hci] at he
  refine va_calll (va_runV (As := As) (rest := st) ⟨hx, hb, hml, hown, hts⟩ (hM r M2 hX l D cy hi) (cwV n hts hg hw rfl rfl hds ⟨by rw [hfr]; exact hrm.1, by rw [hlo]; exact hrm.2⟩) ⟨fun a U g mk q => ⟨q.1, q.2.1, va_K.moved (u := U) (U := U.calling g mk a) (Vm.Alike.refl U.vm) q.2.2.1, rm_N.same (s := U) (U := U.calling g mk a) rfl q.2.2.2⟩, va_recv hK hP hcl he, fun U hU hW => ⟨rfl, by show va_P _ _ _ U.heap; rw [hU]; exact hP, va_K.moved hW.alike hK, rm_N.warm hW hN⟩⟩ rfl hn hl.1 rfl (lv_room hcat) hd ⟨by simpa using hc, by simpa using hs⟩) hS (fun q _ h => h) (fun q h => h) (fun r1 u t H1 locs1 ht hvm hpost hB hz hk1 hS => ?_)
  have hru : r1 = r ∧ u = M2 := by cases hpost; exact ⟨rfl, rfl⟩
  obtain ⟨rfl, rfl⟩ := hru
  have hP1 : va_P D vwCl (rm_W NC cy ph u) H1 := by rw [← ht]; exact hB
  exact kk _ _ hX hK2 ls H1 locs1 hl hP1 hS
theorem rr_cSJ (hG : rm_k G NC ph cc own Ts nL fr lo) {α : Type} {X : Option (Int64 × rm_M)} {K : Int64 → rm_M → Option α} {rho : α} {y : MethodName} {ws ws2 : List Cond} {bytes : ByteArray} {maxL rf rl index n : Nat} {ret : Option FieldType} {stk : List Value} (As : List Value) (hd : decode cc pc = .ok (.invokestatic index, 3)) (hf : rm_bd X K = some rho) (hg : GoodIn Ts (va_wsS own index y ws)) (hw : ws = Cond.code y bytes maxL ret :: ws2) (hds : y.cls ≠ "java/lang/invoke/MethodHandle" ∧ y.cls ≠ "java/lang/invoke/VarHandle" ∧ (parseMethodDescriptor y.desc).map (fun d => d.parameters.length) = some n) (hn : As.length = n) (hrm : rf + 1 ≤ fr ∧ 8 + (maxL + 11) + rl ≤ lo) (hst : stk = As.reverse ++ st) (hcat : (st.map fun v => v.category).sum ≤ 8) (hM : ∀ r M2, X = some (r, M2) → rm_CJ y ws rf rl (As) NC ph M (r, M2)) (kk : ∀ r M2, X = some (r, M2) → K r M2 = some rho → rm_L G NC ph nL (pc + 3) lv (.long r :: st) M2) : rm_L G NC ph nL pc lv (stk) M := by
  obtain ⟨r, M2, hX, hK2⟩ := rm_bd_some hf
  obtain ⟨p, l, e, R, s, m, args, below, meth, c, Q, cy, D, cells, slots⟩ := G
  obtain ⟨hx, hb, hml, hown, hts, hK, hN, hi, hfr, hlo, hc, hs⟩ := hG
  intro ls H locs hl hP hS
  subst hst
  refine va_calll (va_runS (As := As) (rest := st) ⟨hx, hb, hml, hown, hts⟩ (hM r M2 hX l D cy hi) (va_cwS n hts hg hw rfl rfl hds ⟨by rw [hfr]; exact hrm.1, by rw [hlo]; exact hrm.2⟩) ⟨fun a U g mk q => ⟨q.1, q.2.1, va_K.moved (u := U) (U := U.calling g mk a) (Vm.Alike.refl U.vm) q.2.2.1, rm_N.same (s := U) (U := U.calling g mk a) rfl q.2.2.2⟩, fun U hU hW => ⟨rfl, by show va_P _ _ _ U.heap; rw [hU]; exact hP, va_K.moved hW.alike hK, rm_N.warm hW hN⟩⟩ rfl hn hl.1 rfl (lv_room hcat) hd ⟨by simpa using hc, by simpa using hs⟩) hS (fun q _ h => h) (fun q h => h) (fun r1 u t H1 locs1 ht hvm hpost hB hz hk1 hS => ?_)
  have hru : r1 = r ∧ u = M2 := by cases hpost; exact ⟨rfl, rfl⟩
  obtain ⟨rfl, rfl⟩ := hru
  have hP1 : va_P D vwCl (rm_W NC cy ph u) H1 := by rw [← ht]; exact hB
  exact kk _ _ hX hK2 ls H1 locs1 hl hP1 hS
theorem rr_cVV (hG : rm_k G NC ph cc own Ts nL fr lo) {α : Type} {X : Option rm_M} {K : rm_M → Option α} {rho : α} {y : MethodName} {ws ws2 : List Cond} {bytes : ByteArray} {maxL rf rl index n : Nat} {ret : Option FieldType} {C : String} {T : u_T} {N q ci : Nat} {stk : List Value} (As : List Value) (hd : decode cc pc = .ok (.invokevirtual index, 3)) (hf : rm_bv X K = some rho) (hq : rm_kq NC q (ci, 0)) (hci : ci < 9) (hcl : vwCl[ci]? = some (C, T, N)) (hg : GoodIn Ts (wsV own index C y ws)) (hw : ws = Cond.code y bytes maxL ret :: ws2) (hds : y.cls = C ∧ y.cls ≠ "java/lang/invoke/MethodHandle" ∧ y.cls ≠ "java/lang/invoke/VarHandle" ∧ (parseMethodDescriptor y.desc).map (fun d => d.parameters.length) = some n) (hn : As.length = n) (hrm : rf + 1 ≤ fr ∧ 8 + (maxL + 11) + rl ≤ lo) (hst : stk = As.reverse ++ .ref (ph q) :: st) (hcat : (st.map fun v => v.category).sum ≤ 8) (hM : ∀ M2, X = some M2 → rm_CV y ws rf rl (.ref (ph q) :: As) NC ph M M2) (kk : ∀ M2, X = some M2 → K M2 = some rho → rm_L G NC ph nL (pc + 3) lv (st) M2) : rm_L G NC ph nL pc lv (stk) M := by
  obtain ⟨M2, hX, hK2⟩ := rm_bv_some hf
  obtain ⟨p, l, e, R, s, m, args, below, meth, c, Q, cy, D, cells, slots⟩ := G
  obtain ⟨hx, hb, hml, hown, hts, hK, hN, hi, hfr, hlo, hc, hs⟩ := hG
  intro ls H locs hl hP hS
  subst hst
  have he := rm_W_at NC cy ph M hq.2
  rw [rm_e_obj cy ph _ _ _ hq.1 hci] at he
  refine va_callv (va_runV (As := As) (rest := st) ⟨hx, hb, hml, hown, hts⟩ (hM M2 hX l D cy hi) (cwV n hts hg hw rfl rfl hds ⟨by rw [hfr]; exact hrm.1, by rw [hlo]; exact hrm.2⟩) ⟨fun a U g mk q => ⟨q.1, q.2.1, va_K.moved (u := U) (U := U.calling g mk a) (Vm.Alike.refl U.vm) q.2.2.1, rm_N.same (s := U) (U := U.calling g mk a) rfl q.2.2.2⟩, va_recv hK hP hcl he, fun U hU hW => ⟨rfl, by show va_P _ _ _ U.heap; rw [hU]; exact hP, va_K.moved hW.alike hK, rm_N.warm hW hN⟩⟩ rfl hn hl.1 rfl (lv_room hcat) hd ⟨by simpa using hc, by simpa using hs⟩) hS (fun q _ h => h) (fun q h => h) (fun u t H1 locs1 ht hvm hpost hB hz hk1 hS => ?_)
  obtain rfl : u = M2 := hpost
  have hP1 : va_P D vwCl (rm_W NC cy ph u) H1 := by rw [← ht]; exact hB
  exact kk _ hX hK2 ls H1 locs1 hl hP1 hS
theorem rr_cSV (hG : rm_k G NC ph cc own Ts nL fr lo) {α : Type} {X : Option rm_M} {K : rm_M → Option α} {rho : α} {y : MethodName} {ws ws2 : List Cond} {bytes : ByteArray} {maxL rf rl index n : Nat} {ret : Option FieldType} {stk : List Value} (As : List Value) (hd : decode cc pc = .ok (.invokestatic index, 3)) (hf : rm_bv X K = some rho) (hg : GoodIn Ts (va_wsS own index y ws)) (hw : ws = Cond.code y bytes maxL ret :: ws2) (hds : y.cls ≠ "java/lang/invoke/MethodHandle" ∧ y.cls ≠ "java/lang/invoke/VarHandle" ∧ (parseMethodDescriptor y.desc).map (fun d => d.parameters.length) = some n) (hn : As.length = n) (hrm : rf + 1 ≤ fr ∧ 8 + (maxL + 11) + rl ≤ lo) (hst : stk = As.reverse ++ st) (hcat : (st.map fun v => v.category).sum ≤ 8) (hM : ∀ M2, X = some M2 → rm_CV y ws rf rl (As) NC ph M M2) (kk : ∀ M2, X = some M2 → K M2 = some rho → rm_L G NC ph nL (pc + 3) lv (st) M2) : rm_L G NC ph nL pc lv (stk) M := by
  obtain ⟨M2, hX, hK2⟩ := rm_bv_some hf
  obtain ⟨p, l, e, R, s, m, args, below, meth, c, Q, cy, D, cells, slots⟩ := G
  obtain ⟨hx, hb, hml, hown, hts, hK, hN, hi, hfr, hlo, hc, hs⟩ := hG
  intro ls H locs hl hP hS
  subst hst
  refine va_callv (va_runS (As := As) (rest := st) ⟨hx, hb, hml, hown, hts⟩ (hM M2 hX l D cy hi) (va_cwS n hts hg hw rfl rfl hds ⟨by rw [hfr]; exact hrm.1, by rw [hlo]; exact hrm.2⟩) ⟨fun a U g mk q => ⟨q.1, q.2.1, va_K.moved (u := U) (U := U.calling g mk a) (Vm.Alike.refl U.vm) q.2.2.1, rm_N.same (s := U) (U := U.calling g mk a) rfl q.2.2.2⟩, fun U hU hW => ⟨rfl, by show va_P _ _ _ U.heap; rw [hU]; exact hP, va_K.moved hW.alike hK, rm_N.warm hW hN⟩⟩ rfl hn hl.1 rfl (lv_room hcat) hd ⟨by simpa using hc, by simpa using hs⟩) hS (fun q _ h => h) (fun q h => h) (fun u t H1 locs1 ht hvm hpost hB hz hk1 hS => ?_)
  obtain rfl : u = M2 := hpost
  have hP1 : va_P D vwCl (rm_W NC cy ph u) H1 := by rw [← ht]; exact hB
  exact kk _ hX hK2 ls H1 locs1 hl hP1 hS
theorem rr_copy (hG : rm_k G NC ph cc own Ts nL fr lo) {a b n0 n1 index : Nat} {sp dp n : Int32} (hd : decode cc pc = .ok (.invokestatic index, 3)) (hqa : rm_kq NC a (9, n0)) (hqb : rm_kq NC b (9, n1)) (h1 : ¬ sp < 0) (h2 : ¬ dp < 0) (h3 : ¬ n < 0) (h4 : sp.toNatClampNeg + n.toNatClampNeg ≤ n0) (h5 : dp.toNatClampNeg + n.toNatClampNeg ≤ n1) (hw1 : Cond.methodLink own index arraycopyName ∈ Ts) (hw2 : Cond.native arraycopyName ∈ Ts) (hw3 : Cond.static arraycopyName ∈ Ts) (hw4 : Cond.initialized "java/lang/System" ∈ Ts) (hf1 : 1 ≤ fr) (hlo1 : (st.map fun v => v.category).sum + (nativeFrameWords "java/lang/System" "arraycopy" 5 + 11) ≤ lo) (kk : rm_L G NC ph nL (pc + 3) lv (st) (rm_cp M a b sp.toNatClampNeg dp.toNatClampNeg n.toNatClampNeg)) : rm_L G NC ph nL pc lv (.int n :: .int dp :: .ref (ph b) :: .int sp :: .ref (ph a) :: st) M := by
  obtain ⟨p, l, e, R, s, m, args, below, meth, c, Q, cy, D, cells, slots⟩ := G
  obtain ⟨hx, hb, hml, hown, hts, hK, hN, hi, hfr, hlo, hc, hs⟩ := hG
  intro ls H locs hl hP hS
  have qa1 : (rm_kd a).1 = 9 := by rw [hqa.1]
  have qa2 : (rm_kd a).2 = n0 := by rw [hqa.1]
  have qb1 : (rm_kd b).1 = 9 := by rw [hqb.1]
  have qb2 : (rm_kd b).2 = n1 := by rw [hqb.1]
  have he := rm_W_at NC cy ph M hqa.2
  have he2 := rm_W_at NC cy ph M hqb.2
  rw [rm_e_int cy ph _ _ _ qa1, qa2] at he
  rw [rm_e_int cy ph _ _ _ qb1, qb2] at he2
  refine va_copyi (D := D) hx hb (hml.trans hl.1.symm) hown (hts _ hw1) (hts _ hw2) (hts _ hw3) (hts _ hw4) hK hP (rm_W_D NC cy hi M) hS a b 0 0 he he2 rfl rfl rfl h1 h2 h3 h4 h5 (fun _ _ => rfl) (by rw [hfr]; exact hf1) (by rw [hlo]; exact hlo1) hd (fun H locs hP hD hS => ?_)
  have hw := rm_W_cp NC cy ph M (a := a) (b := b) (sp := sp.toNatClampNeg) (dp := dp.toNatClampNeg) (n := n.toNatClampNeg) qb1 hqb.2
  rw [qb2] at hw
  rw [hw] at hP
  exact kk ls H locs hl hP hS
theorem rr_max (hG : rm_k G NC ph cc own Ts nL fr lo) {index : Nat} {x y : Int32} (hd : decode cc pc = .ok (.invokestatic index, 3)) (hw1 : Cond.methodLink own index Lib.Math.max.name ∈ Ts) (hw2 : Cond.static Lib.Math.max.name ∈ Ts) (hw3 : Cond.initialized "java/lang/Math" ∈ Ts) (hw4 : Cond.code Lib.Math.max.name Lib.Math.max.code 2 (some .int) ∈ Ts) (hf1 : 1 ≤ fr) (hlo1 : (st.map fun v => v.category).sum + 13 ≤ lo) (kk : rm_L G NC ph nL (pc + 3) lv (.int (if x < y then y else x) :: st) M) : rm_L G NC ph nL pc lv (.int y :: .int x :: st) M := by
  obtain ⟨p, l, e, R, s, m, args, below, meth, c, Q, cy, D, cells, slots⟩ := G
  obtain ⟨hx, hb, hml, hown, hts, hK, hN, hi, hfr, hlo, hc, hs⟩ := hG
  intro ls H locs hl hP hS
  exact va_mmax hx hb (hml.trans hl.1.symm) hown (hts _ hw1) (hts _ hw2) (hts _ hw3) (hts _ hw4) (by rw [hfr]; exact hf1) (by rw [hlo]; exact hlo1) hc hs hd (kk ls H locs hl hP hS)
theorem rr_min (hG : rm_k G NC ph cc own Ts nL fr lo) {index : Nat} {x y : Int32} (hd : decode cc pc = .ok (.invokestatic index, 3)) (hw1 : Cond.methodLink own index Lib.Math.min.name ∈ Ts) (hw2 : Cond.static Lib.Math.min.name ∈ Ts) (hw3 : Cond.initialized "java/lang/Math" ∈ Ts) (hw4 : Cond.code Lib.Math.min.name Lib.Math.min.code 2 (some .int) ∈ Ts) (hf1 : 1 ≤ fr) (hlo1 : (st.map fun v => v.category).sum + 13 ≤ lo) (kk : rm_L G NC ph nL (pc + 3) lv (.int (if y < x then y else x) :: st) M) : rm_L G NC ph nL pc lv (.int y :: .int x :: st) M := by
  obtain ⟨p, l, e, R, s, m, args, below, meth, c, Q, cy, D, cells, slots⟩ := G
  obtain ⟨hx, hb, hml, hown, hts, hK, hN, hi, hfr, hlo, hc, hs⟩ := hG
  intro ls H locs hl hP hS
  exact va_mmin hx hb (hml.trans hl.1.symm) hown (hts _ hw1) (hts _ hw2) (hts _ hw3) (hts _ hw4) (by rw [hfr]; exact hf1) (by rw [hlo]; exact hlo1) hc hs hd (kk ls H locs hl hP hS)
end RMC
theorem rm_metI {y : MethodName} {ws ws2 : List Cond} {rf rl : Nat} {As : List Value} {NC : Nat} {ph : Nat → Nat} {M : rm_M} {rho : (Int32 × rm_M)} {cc : ByteArray} {maxL : Nat} {ty : FieldType} {own : String} {lv : List (Nat × Value)} (hy : plainName y.cls = true) (hw : ws = Cond.code y cc maxL (some ty) :: ws2) (ho : y.cls = own) (hlen : (lg_sl As).length ≤ maxL) (hlv : lv_args 0 As = lv) (body : ∀ G, rm_k G NC ph cc own ws maxL rf rl → rm_rI G NC ph ty rho → rm_L G NC ph maxL 0 lv [] M) : rm_CI y ws rf rl As NC ph M rho := by
  intro l D cy hi
  refine Met.ofW (cc := cc) (maxL := maxL) (ret := some ty) hy hw ?_
  intro p e s m args below meth c s₁ B hml hv
  obtain ⟨rfl, hP, hK, hN⟩ := hv
  have hts := atoms_spec (ws := ws) B.pre
  have hown : s.vm.findClass own = some m.cls := by rw [← ho]; exact findClass_of_methodNamed B.named
  rw [lg_entry_eq]
  have hl := lv_entry As (n := maxL) hlen
  rw [hlv] at hl
  exact body (p, l, e, _, s, m, _, below, meth, c, _, cy, D, 0, 0) ⟨B.exec, B.bytes, hml, hown, hts, hK, hN, hi, rfl, rfl, Nat.zero_le _, Nat.zero_le _⟩ ⟨B.returns, B.notSynchronized, rfl, rfl, rfl⟩ _ _ _ hl hP va_S.rf
theorem rm_metJ {y : MethodName} {ws ws2 : List Cond} {rf rl : Nat} {As : List Value} {NC : Nat} {ph : Nat → Nat} {M : rm_M} {rho : (Int64 × rm_M)} {cc : ByteArray} {maxL : Nat} {own : String} {lv : List (Nat × Value)} (hy : plainName y.cls = true) (hw : ws = Cond.code y cc maxL (some .long) :: ws2) (ho : y.cls = own) (hlen : (lg_sl As).length ≤ maxL) (hlv : lv_args 0 As = lv) (body : ∀ G, rm_k G NC ph cc own ws maxL rf rl → rm_rJ G NC ph rho → rm_L G NC ph maxL 0 lv [] M) : rm_CJ y ws rf rl As NC ph M rho := by
  intro l D cy hi
  refine Met.ofW (cc := cc) (maxL := maxL) (ret := some .long) hy hw ?_
  intro p e s m args below meth c s₁ B hml hv
  obtain ⟨rfl, hP, hK, hN⟩ := hv
  have hts := atoms_spec (ws := ws) B.pre
  have hown : s.vm.findClass own = some m.cls := by rw [← ho]; exact findClass_of_methodNamed B.named
  rw [lg_entry_eq]
  have hl := lv_entry As (n := maxL) hlen
  rw [hlv] at hl
  exact body (p, l, e, _, s, m, _, below, meth, c, _, cy, D, 0, 0) ⟨B.exec, B.bytes, hml, hown, hts, hK, hN, hi, rfl, rfl, Nat.zero_le _, Nat.zero_le _⟩ ⟨B.returns, B.notSynchronized, rfl, rfl, rfl⟩ _ _ _ hl hP va_S.rf
theorem rm_metV {y : MethodName} {ws ws2 : List Cond} {rf rl : Nat} {As : List Value} {NC : Nat} {ph : Nat → Nat} {M : rm_M} {rho : rm_M} {cc : ByteArray} {maxL : Nat} {own : String} {lv : List (Nat × Value)} (hy : plainName y.cls = true) (hw : ws = Cond.code y cc maxL (none) :: ws2) (ho : y.cls = own) (hlen : (lg_sl As).length ≤ maxL) (hlv : lv_args 0 As = lv) (body : ∀ G, rm_k G NC ph cc own ws maxL rf rl → rm_rV G NC ph rho → rm_L G NC ph maxL 0 lv [] M) : rm_CV y ws rf rl As NC ph M rho := by
  intro l D cy hi
  refine Met.ofW (cc := cc) (maxL := maxL) (ret := none) hy hw ?_
  intro p e s m args below meth c s₁ B hml hv
  obtain ⟨rfl, hP, hK, hN⟩ := hv
  have hts := atoms_spec (ws := ws) B.pre
  have hown : s.vm.findClass own = some m.cls := by rw [← ho]; exact findClass_of_methodNamed B.named
  rw [lg_entry_eq]
  have hl := lv_entry As (n := maxL) hlen
  rw [hlv] at hl
  exact body (p, l, e, _, s, m, _, below, meth, c, _, cy, D, 0, 0) ⟨B.exec, B.bytes, hml, hown, hts, hK, hN, hi, rfl, rfl, Nat.zero_le _, Nat.zero_le _⟩ ⟨B.returns, B.notSynchronized, rfl, rfl, rfl⟩ _ _ _ hl hP va_S.rf
