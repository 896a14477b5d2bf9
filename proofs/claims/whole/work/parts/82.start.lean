/-! THE CLAIM OUT OF ONE WALK OF THE LAW'S BODY. Your part is whole_start (and what it stands on); all else here is the same for every law, but numbers. -/
def R_law : String := "RingPagesLaw"
def lw_P (b : Addr) (xs : List Int32) (args : Array Value) (s : State) : Prop := args = #[.ref b] ∧ s.IntsAt b xs ∧ xs.length ≤ 2048 ∧ (Jvm.Cond.and given_1 narrow_1).before args s = true
def lw_Q (_ : Array Value) (s : State) (o : Outcome) (t : State) : Prop := o = .returned (some (.int 1)) ∧ Framed s o t [] 600000 7302250
def lw_Z (below : List Frame) (a : Array Value) (s : State) : State → Prop := fun t => ∃ o, t.status = .running ∧ Ended t below o ∧ lw_Q a s o t
/-- the law's own end, with 1 on the stack, nothing written that was there before, its room as the claim has it -/
theorem lw_ret {p : Program} {l : Launch} {e : Env} {s : State} {m : MethodId} {below : List Frame} {meth : Method} {c : Code} {b : Nat} (hx : p.tables.exec = Jvm.exec) (hb : c.code = code) (hr : meth.sig.returnType = ret) (hlocks : meth.locks = false) {pc : Nat} {H : Heap} {ls : Array Slot} (hdg : decode code pc = .ok (.ireturn, 1)) : W p l e room_1 s m #[Value.ref b] below meth c H [] 600000 7302250 (lw_Z below #[Value.ref b] s) (F0 m pc ls [.int 1]) := by
  intro T hT X
  obtain ⟨fs, hret, hrun, hended, hW, hframe⟩ := X.leave (v := some (.int 1)) (hlocks := hlocks) (fun h => by rw [hr] at h; cases h)
  have hmeth' : T.vm.method? m = some meth := X.method'
  refine ⟨T.setFrames fs, ?_, .returned (some (.int 1)), hrun, hended, rfl, ⟨_, rfl⟩, hW, hframe⟩
  jvm_step X.here [X.here.top, hx, hb, hdg, hmeth', hr, ret, narrow_b1]
  (try refine ⟨rfl, ?_⟩); (try refine ⟨rfl, ?_⟩)
  first | (intro acts; rw [hret _ acts rfl rfl rfl]) | rw [hret _ _ rfl rfl rfl]
  exact Steps.refl _
/-- what holds at the law's entry: the machine, the code, the tables' words (any of lw_tbl by 'hts w (by decide +kernel)'), the script of L ints xs at the cell b, what the Statement gives of the start (any of its parts by flat_of_before) -/
def lw_At (p : Program) (s : State) (m : MethodId) (meth : Method) (c : Code) (b L : Nat) (xs : Nat → Int32) : Prop :=
  p.tables.exec = Jvm.exec ∧ c.code = code ∧ meth.sig.returnType = ret ∧ c.maxLocals = 4 ∧ s.vm.findClass R_law = some m.cls ∧ (∀ w ∈ lw_tbl, w.before #[Value.ref b] s = true) ∧ va_X b L xs s s.heap ∧ b < s.heap.size ∧ meth.locks = false ∧ (Jvm.Cond.and given_1 narrow_1).before #[Value.ref b] s = true
set_option maxHeartbeats 4000000 in
set_option maxRecDepth 20000 in
theorem whole_start {p : Program} {e : Env} {s : State} {m : MethodId} {below : List Frame} {meth : Method} {c : Code} (l : Launch) (hflags : l.flags = flags0) {b L : Nat} {xs : Nat → Int32} (hL : L ≤ 2048) (C0 : lw_At p s m meth c b L xs) : W p l e room_1 s m #[Value.ref b] below meth c s.heap [] 0 0 (lw_Z below #[Value.ref b] s) (entryFrame m ([Value.ref b] : List Value).toArray 4) := by
  obtain ⟨hx, hb, hr, hml, hown, hts0, hX, hbl, hlocks, hgv⟩ := C0
  have hts : ∀ w ∈ wsL_law, w.before #[Value.ref b] s = true := fun w h => hts0 w (wsL_law_in w h)
  have hN := ls_N hts0
  obtain ⟨D, cy, hK⟩ := ls_K hts0
  obtain ⟨aK, aV, hE, hRr⟩ := ls_E (A := fun q : Nat => s.heap.size ≤ q) hts0 hgv (fun a ha hz => by omega)
  have hA : ∀ q : Nat, s.heap.size ≤ q → (fun q : Nat => s.heap.size ≤ q) q := fun _ h => h
  have hS : va_S (fun q : Nat => s.heap.size ≤ q) s.heap s.heap [] := va_S.rf
  have hP : va_P D vwCl [] s.heap := fun k q h => by simp at h
  have hD : va_D (fun q : Nat => s.heap.size ≤ q) [] := ⟨fun i j p q h => by simp at h, fun k q h => by simp at h⟩
  have hl := lv_entry ([.ref b]) (n := 4) (Nat.le_of_ble_eq_true rfl)
  rw [lg_entry_eq]
  generalize (lg_sl ([.ref b]) ++ List.replicate (4 - (lg_sl ([.ref b])).length) Slot.unset).toArray = ls at hl ⊢
  have hl : lv_has ls 4 [(0, .ref b)] := hl
  refine va_new (ci := 7) (fs := rc_nulls) (C := RX7) (T := TX7) (N := 10) hx hb hts0 inX7 tyX7 tyX7_ok hown (hts (.classLink RL 7 RX7) (by decide +kernel)) (hts (.instantiable RX7 10) (by decide +kernel)) (hts (.initialized RX7) (by decide +kernel)) hK hP hD hS hA rfl dvX7 (Nat.le_of_ble_eq_true rfl) (Nat.le_of_ble_eq_true rfl) dL_law_0 (fun q1 H hP hD hS => ?_)
  have hP : va_P D vwCl [(q1, .inr (7, rc_nulls))] H := hP
  have hD : va_D (fun q : Nat => s.heap.size ≤ q) [(q1, .inr (7, rc_nulls))] := hD
  refine lv_dup hx hb dL_law_3 rfl ?_
  have hq1 : s.heap.size ≤ q1 := hD.2 0 _ rfl
  have hFc : ∀ x, va_A [(q1, .inr (7, rc_nulls))] H.size x → s.heap.size ≤ x := by
    intro x h
    rcases h with ⟨k, e2, h⟩ | h
    · have h0 : k < 1 := (List.getElem?_eq_some_iff.mp h).1
      rw [show k = 0 by omega] at h
      have := congrArg Prod.fst (Option.some.inj h)
      have h9 : q1 = x := this
      omega
    · exact Nat.le_trans hS.1 h
  refine va_callv (va_runI (As := []) (rest := [.ref q1]) ⟨hx, hb, hml, hown, hts⟩ (mX7_init l D cy q1 H.size aK aV) (cwI 0 hts gL_law_X7_init rfl rfl rfl (hts (.initialized RX7) (by decide +kernel)) (hts (.methodLink RL 9 yX7_init) (by decide +kernel)) (hts (.instanceMethod yX7_init) (by decide +kernel)) rfl (by decide +kernel) ⟨Nat.le_of_ble_eq_true rfl, Nat.le_of_ble_eq_true rfl⟩) ⟨fun a U g mk q => ⟨q.1, q.2.1, q.2.2.1, va_K.moved (u := U) (U := U.calling g mk a) (Vm.Alike.refl U.vm) q.2.2.2.1, rb_N.same (s := U) (U := U.calling g mk a) rfl q.2.2.2.2.1, rs_E.moved (u := U) (U := U.calling g mk a) (Vm.Alike.refl U.vm) q.2.2.2.2.2.1, vk_R.same (u := U) (U := U.calling g mk a) rfl q.2.2.2.2.2.2⟩, fun U hU hW => ⟨rfl, by rw [hU], by rw [hU]; exact hP, va_K.moved hW.alike hK, rb_N.warm hW hN, by rw [hU]; exact ((hE.kept hS.2.1).narrow hFc).moved hW.alike, vk_R.warm hW hRr⟩⟩ rfl rfl hl.1 rfl (lv_room (Nat.le_of_ble_eq_true rfl)) dL_law_4 ⟨Nat.le_of_ble_eq_true rfl, Nat.le_of_ble_eq_true rfl⟩) hS (fun x _ h => hFc x h) hFc (fun u t H locs ht hvm hpost hB hz hk1 hS => ?_)
  obtain ⟨ph, M⟩ := u
  obtain ⟨e0, hi, hAA, hF⟩ := hpost
  have e0 : ph 0 = q1 := e0
  have hP : va_P D vwCl (rm_W 79 cy ph M) H := by rw [← ht]; exact hB
  have hD : va_D (fun q : Nat => s.heap.size ≤ q) (rm_W 79 cy ph M) := (rm_W_D 79 cy hi M).weaken (fun k x _ h => by
    obtain ⟨j, hj, h2⟩ := h
    rw [← h2]
    exact hFc _ (hAA j hj))
  refine lv_astore_n (lv' := [(1, .ref q1), (0, .ref b)]) hx hb dL_law_7 rfl hl (by decide) rfl (fun ls hl => ?_)
  refine va_new (ci := 8) (fs := rc_f8) (C := RX8) (T := TX8) (N := 26) hx hb hts0 inX8 tyX8 tyX8_ok hown (hts (.classLink RL 10 RX8) (by decide +kernel)) (hts (.instantiable RX8 26) (by decide +kernel)) (hts (.initialized RX8) (by decide +kernel)) hK hP hD hS hA rfl dvX8 (Nat.le_of_ble_eq_true rfl) (Nat.le_of_ble_eq_true rfl) dL_law_8 (fun q2 H hP hD hS => ?_)
  refine lv_dup hx hb dL_law_11 rfl ?_
  have len79 : (rm_W 79 cy ph M).length = 79 := by simp [rm_W]
  have at79 : (rm_W 79 cy ph M ++ [(q2, .inr (8, rc_f8))])[79]? = some (q2, .inr (8, rc_f8)) := by
    rw [List.getElem?_append_right (by omega), len79]
    rfl
  have atk : ∀ k, k < 79 → (rm_W 79 cy ph M ++ [(q2, .inr (8, rc_f8))])[k]? = some (ph k, rm_e cy ph k (M.1 k) (M.2.1 k) M.2.2) := fun k hk => by
    rw [List.getElem?_append_left (by omega)]
    exact rm_W_at 79 cy ph M hk
  have hne : ∀ k, k < 79 → ph k ≠ q2 := fun k hk he => by
    have := hD.1 k 79 _ _ (atk k hk) at79 he
    omega
  have hPm : va_P D vwCl ((q2, .inr (8, rc_f8)) :: rm_W 79 cy ph M) H := by
    intro k x hk
    cases k with
    | zero =>
      rw [List.getElem?_cons_zero] at hk
      rw [← Option.some.inj hk]
      exact hP 79 _ at79
    | succ k =>
      rw [List.getElem?_cons_succ] at hk
      have h9 : k < (rm_W 79 cy ph M).length := (List.getElem?_eq_some_iff.mp hk).1
      exact hP k x (by rw [List.getElem?_append_left h9]; exact hk)
  have hFm : ∀ x, va_A ((q2, .inr (8, rc_f8)) :: rm_W 79 cy ph M) H.size x → s.heap.size ≤ x := by
    intro x h
    rcases h with ⟨k, e2, h⟩ | h
    · cases k with
      | zero =>
        rw [List.getElem?_cons_zero] at h
        have h9 : q2 = x := congrArg Prod.fst (Option.some.inj h)
        have := hD.2 79 _ at79
        have this : s.heap.size ≤ q2 := this
        omega
      | succ k =>
        rw [List.getElem?_cons_succ] at h
        have h9 : k < (rm_W 79 cy ph M).length := (List.getElem?_eq_some_iff.mp h).1
        exact hD.2 k (x, e2) (by rw [List.getElem?_append_left h9]; exact h)
    · exact Nat.le_trans hS.1 h
  refine va_callv (va_runI (As := []) (rest := [.ref q2]) ⟨hx, hb, hml, hown, hts⟩ (mX8_init l D cy ph M q2 H.size hi hne hF) (cwI 0 hts gL_law_X8_init rfl rfl rfl (hts (.initialized RX8) (by decide +kernel)) (hts0 (.methodLink RL 12 yX8_init) (wsL_law_in _ (by decide +kernel))) (hts0 (.instanceMethod yX8_init) (wsL_law_in _ (by decide +kernel))) rfl (by decide +kernel) ⟨Nat.le_of_ble_eq_true rfl, Nat.le_of_ble_eq_true rfl⟩) ⟨fun a U g mk q => ⟨q.1, q.2.1, q.2.2.1, va_K.moved (u := U) (U := U.calling g mk a) (Vm.Alike.refl U.vm) q.2.2.2.1, rb_N.same (s := U) (U := U.calling g mk a) rfl q.2.2.2.2⟩, fun U hU hW => ⟨rfl, by rw [hU], by rw [hU]; exact hPm, va_K.moved hW.alike hK, rb_N.warm hW hN⟩⟩ rfl rfl hl.1 rfl (lv_room (Nat.le_of_ble_eq_true rfl)) dL_law_12 ⟨Nat.le_of_ble_eq_true rfl, Nat.le_of_ble_eq_true rfl⟩) hS (fun x _ h => hFm x h) hFm (fun u t H locs ht hvm hpost hB hz hk1 hS => ?_)
  obtain ⟨ph2, Z⟩ := u
  obtain ⟨e1, e2, hi2, hA2, hI⟩ := hpost
  have e1 : ph2 0 = q1 := by
    have h9 : ph2 0 = ph 0 := e1
    rw [h9, e0]
  have e2 : ph2 79 = q2 := e2
  have hP : va_P D vwCl (rm_W 96 cy ph2 Z) H := by rw [← ht]; exact hB
  refine lv_astore_n (lv' := [(2, .ref q2), (1, .ref q1), (0, .ref b)]) hx hb dL_law_15 rfl hl (by decide) rfl (fun ls hl => ?_)
  refine lv_iconst (v := nI (4 * 0)) hx hb dL_law_16 (by decide) ?_
  refine lv_istore_n (lv' := [(3, .int (nI (4 * 0))), (2, .ref q2), (1, .ref q1), (0, .ref b)]) hx hb dL_law_17 rfl hl (by decide) rfl (fun ls hl => ?_)
  have hl := lv_sub hl [3, 2, 1, 0] (l' := [(0, .ref b), (1, .ref q1), (2, .ref q2), (3, .int (nI (4 * 0)))]) rfl
  have hge : ∀ q, rm_A 96 ph2 q → s.heap.size ≤ q := by
    rintro q ⟨k, hk, rfl⟩
    exact hFm _ (hA2 k hk)
  obtain ⟨M2, hf⟩ := law_loop (xs := xs) hL L (L + 1) 0 Z (by omega) (by omega) (by omega) hI
  refine va_forget hS.2.2 ?_
  rw [← e1, ← e2] at hl
  have hG : rm_k (p, l, e, room_1, s, m, #[Value.ref b], below, meth, c, lw_Z below #[Value.ref b] s, cy, D, 96, 1380) 96 ph2 cL_law RL wsL_law 4 9 346 := ⟨hx, hb, hml, hown, hts, hK, hN.1, hi2, rfl, rfl, Nat.le_of_ble_eq_true rfl, Nat.le_of_ble_eq_true rfl⟩
  have hXX : rm_X (p, l, e, room_1, s, m, #[Value.ref b], below, meth, c, lw_Z below #[Value.ref b] s, cy, D, 96, 1380) 96 ph2 b L xs := ⟨hX, hbl, fun h => by have := hge b h; omega⟩
  have hR : rm_rL (p, l, e, room_1, s, m, #[Value.ref b], below, meth, c, lw_Z below #[Value.ref b] s, cy, D, 96, 1380) 96 ph2 := by
    intro pc lv M hd ls H locs hl hP hS
    refine va_forget (fun q hq => hge _ (hS.2.2 q hq)) ?_
    refine W.widen (k := 600000) (n := 7302250) (Nat.le_of_ble_eq_true rfl) (Nat.le_of_ble_eq_true rfl) ?_
    exact lw_ret hx hb hr hlocks hd
  exact wL_law_L18 hG hXX hR (rho := (nI 1, M2)) rfl (L + 1) (nI (4 * 0)) Z hf ls H [] hl hP ⟨hS.1, fun q h1 h2 => hS.2.1 q h1 (fun z => by have z : s.heap.size ≤ q := z; omega), fun _ h => by cases h⟩
set_option maxHeartbeats 4000000 in
theorem lw_walk (l : Launch) (hflags : l.flags = flags0) (b : Addr) (xs : List Int32) : MetFree l x (headSpec (Jvm.Cond.code x code maxLocals ret :: tables_1) room_1) (lw_P b xs) (fun _ _ _ _ _ => True) lw_Q := by
  refine MetFree.of_bodyS (code := code) (maxLocals := maxLocals) (ret := ret) (by decide) ?_ ?_
  · intro args s m h hn
    obtain ⟨meth, c, h1, h2, h3, h4, h5, h6, -, -⟩ := Cond.code_spec hn (atoms_spec (ws := Jvm.Cond.code x code maxLocals ret :: tables_1) h _ List.mem_cons_self)
    exact ⟨meth, c, h1, h2, h3, h4, h5, h6⟩
  · intro p e s m args below meth c s₁ B hml0 hP _
    obtain ⟨rfl, hx, hbd, hgv⟩ := hP
    obtain ⟨scr, harrAt, hlist, hof, hsmall⟩ := hx
    obtain ⟨hcb, hkn, -, -⟩ := State.arrayAt?_spec harrAt
    have hown : s.vm.findClass R_law = some m.cls := findClass_of_methodNamed B.named
    have hts0 : ∀ c ∈ (Jvm.Cond.code x code maxLocals ret :: tables_1), c.before #[Value.ref b] s = true := atoms_spec (ws := Jvm.Cond.code x code maxLocals ret :: tables_1) B.pre
    have hts : ∀ w ∈ lw_tbl, w.before #[Value.ref b] s = true := k2_hts_sels lw_privs (fun w hw => hts0 w (List.mem_cons_of_mem _ hw)) lw_privs_ok
    have hml : c.maxLocals = 4 := B.maxLocals_eq (hts0 _ List.mem_cons_self)
    have X₀ : Stand p l e room_1 s m #[Value.ref b] below meth c s₁ [] 0 0 := Stand.of_body B
    have hh0 : s₁.heap = s.heap := by rw [B.state]; rfl
    have hsz : scr.slots.size = xs.length := by rw [← Array.length_toList, hlist, List.length_map]
    have hval : ∀ j : Nat, j < xs.length → scr.slots[j]? = some (.int (xs.getD j 0)) := fun j hj => by
      rw [← Array.getElem?_toList, hlist]
      simp [hj]
    have hbl : b < s.heap.size := (Array.getElem?_eq_some_iff.mp hcb).1
    have hX : va_X b xs.length (fun j => xs.getD j 0) s s.heap := ⟨scr, hcb, hof, hkn, hsz, hval⟩
    have K : W p l e room_1 s m #[Value.ref b] below meth c s₁.heap [] 0 0 (lw_Z below #[Value.ref b] s) (entryFrame m ([Value.ref b] : List Value).toArray 4) := by
      rw [hh0]
      exact whole_start l hflags hbd ⟨B.exec, B.bytes, B.returns, hml, hown, hts, hX, hbl, B.notSynchronized, hgv⟩
    obtain ⟨t, a1, o, b1, b2, b3⟩ := K s₁ rfl X₀
    exact ⟨t, o, a1, b1, b2, b3⟩
theorem lw_pre_spec {args : Array Value} {s : State} (h : (Jvm.Cond.and given_1 narrow_1).before args s = true) (hr : rest_1_c.before args s = true) : ∃ (b : Addr) (xs : List Int32), lw_P b xs args s := by
  have hs := flat_of_before _ h
  have hq := flat_of_before _ hr
  have hc : (Cond.count 1).before args s = true := hs _ (by decide +kernel)
  have harr : (Cond.arrayOf (.arg 0) .int).before args s = true := hs _ (by decide +kernel)
  have hle : (Cond.le (.length (.arg 0)) (.int 2048)).before args s = true := hs _ (by decide +kernel)
  have hlen : (Cond.isInt (.length (.arg 0))).before args s = true := hq _ (by decide +kernel)
  have hall : (Cond.all (.arg 0) (.isInt (.elem (.arg 0) (.index 0)))).before args s = true := hq _ (by decide +kernel)
  obtain ⟨b, xs, hb, hx⟩ := State.ints_of_pre rfl harr hlen hall
  have hsm : xs.length < 2 ^ 31 := hx.choose_spec.2.2.2
  have hev : (Term.length (.arg 0)).eval args s none [] s = some (.int xs.length.toInt32) := hx.length_eval hb
  have hv := Cond.le_ints hev (show (Term.int 2048).eval args s none [] s = some (.int 2048) from rfl)
  have hd : xs.length.toInt32 ≤ 2048 := by
    simpa [Cond.before, Cond.holds, hv] using hle
  have hN : xs.length ≤ 2048 := (Int32.ofNat_le_ofNat hsm (by decide)).mp (show Int32.ofNat xs.length ≤ Int32.ofNat 2048 from hd)
  exact ⟨b, xs, Cond.one_arg hc (show args[0]? = some (.ref b) from hb), hx, hN, h⟩
theorem lw_comes (l : Launch) (hflags : l.flags = flags0) : Comes l x (Jvm.Cond.code x code maxLocals ret :: tables_1) room_1 (fun tb e args s => Calls_1 tb e args s ∧ rest_1 tb e args s ∧ Pre_1 tb e args s)
    (fun _ _ args s o t => lw_Q args s o t) := by
  intro p e ha hc hk s m args below hf hfit hheap happ hpre
  obtain ⟨b, xs, hP⟩ := lw_pre_spec hpre.2.2 hpre.2.1
  obtain ⟨k, o, h1, h2, h3, hQ⟩ := lw_walk l hflags b xs p e ha hc hk s m args below hf ((Spec.applies_iff_loose hf).mp happ).1 hP trivial
  exact ⟨k, o, h1, h2, h3, hQ⟩
theorem lw_frame {s t : State} {o : Outcome} {args : Array Value} (h : Framed s o t [] 600000 7302250) :
    Framed s o t (fieldLocs frame_1_writes args s ++ arrayLocs frame_1_arrays args s ++ staticLocs frame_1_statics s) 600000 7302250 := h
theorem lw_limb (L : Cond) (hL : ∀ (args : Array Value) (s t : State), L.after args s (.returned (some (.int 1))) t = true) :
    ArmFor flags0 classFile x code maxLocals ret World_1 tables_1 room_1 Calls_1 rest_1 Pre_1
      (fun tb e a s o t => postC L tb e a s o t ∧ Framed s o t (fieldLocs frame_1_writes a s ++ arrayLocs frame_1_arrays a s ++ staticLocs frame_1_statics s) 600000 7302250) := by
  intro l hflags _ _ p e ha hc hk s m args below hf hfit hheap happ hpre
  obtain ⟨k, o, h1, h2, h3, rfl, hF⟩ := lw_comes l hflags p e ha hc hk s m args below hf hfit hheap happ hpre
  exact ⟨k, _, h1, h2, h3, hL args s _, lw_frame hF⟩
theorem i_vc : Claimed_1_1 ∧ Claimed_1_2 := ⟨lw_limb limb_1_1 (fun args s t => by simp [limb_1_1, Cond.after, Cond.holds, Cond.value]), lw_limb limb_1_2 (fun args s t => Cond.after_iff.mpr (by
  first | (rw [show limb_1_2 = Cond.eq .result (.int 1) from rfl, Cond.eq_ints (x := 1) (y := 1) rfl rfl]; simp; done) | (simp [limb_1_2, Cond.value, Term.eval]; done)))⟩
