/-! ===== constructors: a world that grows; rows of a walk over it ===== -/
def rb_nw : List Cond := [.methodLinkNest RX7 9 yX5_init "RingPages", .methodLinkNest RX2 17 yX4_init "RingPages", .methodLinkNest RX7 25 yX0_init "RingPages", .methodLinkNest RX7 32 yX6_init "RingPages", .methodLinkNest RX7 39 yX3_init "RingPages", .methodLinkNest RX7 46 yX4_init "RingPages", .methodLinkNest RX7 53 yX1_init "RingPages"]
theorem va_AOA.moved {ty : FieldType} {u U : State} (hvm : u.vm.Alike U.vm) (h : va_AOA ty u) : va_AOA ty U := by
  obtain ⟨comp, c, k, h1, h2, h3, h4, h5⟩ := arrayOverA_spec h
  obtain ⟨k', hk', he⟩ := hvm.2.2 _ _ h3
  have hi : (U.vm.classes.findIdx? fun (x : Class) => match x.kind with | .array component _ => component == comp | _ => false) = some c := by
    rw [hvm.findIdx?_eq _ (fun _ => rfl)]
    exact h2
  have hkind : k'.kind = .array comp (.array ty) := by rw [he]; exact h4
  have f1 : U.vm.findClass (FieldType.array ty).toString = some comp := by rw [hvm.findClass]; exact h1
  have f2 : U.vm.findClass ("[" ++ (FieldType.array ty).toString) = some c := by rw [hvm.findClass]; exact h5
  unfold va_AOA Cond.before Cond.holds
  simp only [Cond.value]
  rw [f1, Option.bind_some]
  refine (congrArg (fun o : Option Nat => (o.bind (fun c => (U.vm.classes[c]?).map fun (k : Class) => match k.kind with | .array _ t2 => decide (t2 = FieldType.array ty) && decide (U.vm.findClass ("[" ++ (FieldType.array ty).toString) = some c) | _ => false) == some true)) hi).trans ?_
  simp [hk', hkind, f2]
theorem va_AOA.same {ty : FieldType} {u U : State} (hv : u.vm = U.vm) (h : va_AOA ty u) : va_AOA ty U := h.moved (by rw [hv]; exact Vm.Alike.refl _)
def rb_N (U : State) : Prop := rm_N U ∧ (∀ w ∈ rb_nw, va_Nw w U) ∧ va_AOA .int U ∧ va_AO "RingPages$State" U
theorem rb_N.warm {s U : State} (hW : s.WarmedH U.vm) (h : rb_N s) : rb_N U := by
  refine ⟨h.1.warm hW, fun w hw => ?_, h.2.2.1.moved hW.alike, h.2.2.2.moved hW.alike⟩
  have h1 := h.2.1 w hw
  simp only [rb_nw, List.mem_cons, List.not_mem_nil, or_false] at hw
  rcases hw with rfl | rfl | rfl | rfl | rfl | rfl | rfl <;> exact va_Nw.warmM hW h1
theorem rb_N.same {s U : State} (hv : s.vm = U.vm) (h : rb_N s) : rb_N U := by
  refine ⟨h.1.same hv, fun w hw => ?_, h.2.2.1.same hv, h.2.2.2.moved (by rw [hv]; exact Vm.Alike.refl _)⟩
  have h1 := h.2.1 w hw
  simp only [rb_nw, List.mem_cons, List.not_mem_nil, or_false] at hw
  rcases hw with rfl | rfl | rfl | rfl | rfl | rfl | rfl <;> exact va_Nw.same rfl hv h1
abbrev rb_G : Type := Program × Launch × Env × Room × State × MethodId × Array Value × List Frame × Method × Code × (State → Prop) × rm_Y × va_G × (Nat → Prop)
def rb_L (G : rb_G) (nL pc : Nat) (lv : List (Nat × Value)) (st : List Value) (ws : va_W) (cells slots : Nat) : Prop :=
  match G with
  | (p, l, e, R, s, m, args, below, meth, c, Q, _, D, A) => ∀ (ls : Array Slot) (H : Heap) (locs : List Loc), lv_has ls nL lv → va_P D vwCl ws H → va_D A ws → va_S A s.heap H locs → W p l e R s m args below meth c H locs cells slots Q (F0 m pc ls st)
def rb_k (G : rb_G) (cc : ByteArray) (own : String) (Ts : List Cond) (nL fr lo rc rs : Nat) : Prop :=
  match G with
  | (p, _, _, R, s, m, args, _, meth, c, _, cy, D, A) => p.tables.exec = Jvm.exec ∧ c.code = cc ∧ c.maxLocals = nL ∧ s.vm.findClass own = some m.cls ∧ (∀ w ∈ Ts, w.before args s = true) ∧ va_K D vwCl (rm_ty cy) s ∧ rb_N s ∧ meth.name = "<init>" ∧ (∀ q, s.heap.size ≤ q → A q) ∧ R.frames = fr ∧ R.locals = lo ∧ R.cells = rc ∧ R.slots = rs
def rb_cy (G : rb_G) : rm_Y := match G with
  | (_, _, _, _, _, _, _, _, _, _, _, cy, _, _) => cy
def rb_w (cy : rm_Y) (ph : Nat → Nat) (qs : List Nat) : va_W := qs.map (fun q => (ph q, rm_e cy ph q (fun _ => 0) (fun _ => 0) (fun _ => 0)))
/-- a constructor: from the bare object to the cells at qs of the layout -/
def rb_CI (y : MethodName) (wsy : List Cond) (rf rl mc ms q0 ci : Nat) (fs : List Value) (qs : List Nat) : Prop := ∀ (l : Launch) (D : va_G) (cy : rm_Y) (h sz : Nat), Met l y wsy ({ frames := rf, cells := mc, slots := ms, locals := rl }) (va_Pc [.ref h] (fun U => U.heap.size = sz ∧ va_P D vwCl [(h, .inr (ci, fs))] U.heap ∧ va_K D vwCl (rm_ty cy) U ∧ rb_N U))
  (va_Qv (fun ph : Nat → Nat => ph q0 = h) (fun ph t => va_P D vwCl (rb_w cy ph qs) t.heap ∧ va_D (va_A [(h, .inr (ci, fs))] sz) (rb_w cy ph qs)) (va_A [(h, .inr (ci, fs))] sz)) mc ms (va_A [(h, .inr (ci, fs))] sz)
def rb_E (G : rb_G) (q0 : Nat) (qs : List Nat) (mc ms h : Nat) : Prop :=
  match G with
  | (_, _, _, _, s, _, args, below, meth, _, Q, cy, D, A) => meth.sig.returnType = none ∧ meth.locks = false ∧ Q = MQ below (va_Qv (fun ph : Nat → Nat => ph q0 = h) (fun ph t => va_P D vwCl (rb_w cy ph qs) t.heap ∧ va_D A (rb_w cy ph qs)) A) args s mc ms A
theorem rb_D1 (h : Nat) (e : va_E) (sz : Nat) : va_D (va_A [(h, e)] sz) [(h, e)] := by
  refine ⟨fun i j p q hi hj _ => ?_, fun k q hk => va_A.in hk⟩
  have h1 := (List.getElem?_eq_some_iff.mp hi).1
  have h2 := (List.getElem?_eq_some_iff.mp hj).1
  simp only [List.length_cons, List.length_nil] at h1 h2
  omega
theorem rb_met {y : MethodName} {wsy ws2 : List Cond} {rf rl mc ms q0 ci : Nat} {fs : List Value} {qs : List Nat} {cc : ByteArray} {maxL : Nat} {own : String} (hy : plainName y.cls = true) (hw : wsy = Cond.code y cc maxL none :: ws2) (ho : y.cls = own) (hyn : y.name = "<init>") (hmL : 1 ≤ maxL)
    (body : ∀ (G : rb_G) (h : Nat), rb_k G cc own wsy maxL rf rl mc ms → rb_E G q0 qs mc ms h → rb_L G maxL 0 [(0, .ref h)] [] [(h, .inr (ci, fs))] 0 0) : rb_CI y wsy rf rl mc ms q0 ci fs qs := by
  intro l D cy h sz
  refine Met.ofW (cc := cc) (maxL := maxL) (ret := none) hy hw ?_
  intro p e s m args below meth c s₁ B hml hv
  obtain ⟨rfl, hsz, hP, hK, hN⟩ := hv
  subst hsz
  have hts := atoms_spec (ws := wsy) B.pre
  have hown : s.vm.findClass own = some m.cls := by rw [← ho]; exact findClass_of_methodNamed B.named
  have hin : meth.name = "<init>" := by rw [← hyn]; exact (name_of_methodNamed B.named B.method).1
  rw [lg_entry_eq]
  have hl := lv_entry [.ref h] (n := maxL) (by show 1 ≤ maxL; exact hmL)
  exact body (p, l, e, _, s, m, _, below, meth, c, _, cy, D, va_A [(h, .inr (ci, fs))] s.heap.size) h ⟨B.exec, B.bytes, hml, hown, hts, hK, hN, hin, fun q hq => Or.inr hq, rfl, rfl, rfl, rfl⟩ ⟨B.returns, B.notSynchronized, rfl⟩ _ _ _ hl hP (rb_D1 _ _ _) va_S.rf
/-- a constant that is pushed -/
def rb_ps (cc : ByteArray) (pc len : Nat) (v : Int32) : Prop := (∃ n : Int, decode cc pc = .ok (.iconst n, 1) ∧ len = 1 ∧ Int32.ofInt n = v) ∨ (∃ n : Int, decode cc pc = .ok (.bipush n, 2) ∧ len = 2 ∧ (Int8.ofInt n).toInt32 = v) ∨ (∃ n : Int, decode cc pc = .ok (.sipush n, 3) ∧ len = 3 ∧ (Int16.ofInt n).toInt32 = v)
theorem rb_p1 {cc : ByteArray} {pc : Nat} {v : Int32} {n : Int} (h : decode cc pc = .ok (.iconst n, 1)) (hv : Int32.ofInt n = v) : rb_ps cc pc 1 v := Or.inl ⟨n, h, rfl, hv⟩
theorem rb_p2 {cc : ByteArray} {pc : Nat} {v : Int32} {n : Int} (h : decode cc pc = .ok (.bipush n, 2)) (hv : (Int8.ofInt n).toInt32 = v) : rb_ps cc pc 2 v := Or.inr (Or.inl ⟨n, h, rfl, hv⟩)
theorem rb_p3 {cc : ByteArray} {pc : Nat} {v : Int32} {n : Int} (h : decode cc pc = .ok (.sipush n, 3)) (hv : (Int16.ofInt n).toInt32 = v) : rb_ps cc pc 3 v := Or.inr (Or.inr ⟨n, h, rfl, hv⟩)
section RBR
variable {G : rb_G} {cc : ByteArray} {own : String} {Ts : List Cond} {nL fr lo rc rs pc : Nat} {lv : List (Nat × Value)} {st : List Value} {ws : va_W} {cells slots : Nat}
theorem rb_aload (hG : rb_k G cc own Ts nL fr lo rc rs) {i x : Nat} {k : Fin 4} (n : Nat) (hd : decode cc pc = .ok (.aload_n k, 1)) (hn : (k : Nat) = i) (ha : lv[n]? = some (i, .ref x)) (kk : rb_L G nL (pc + 1) lv (.ref x :: st) ws cells slots) : rb_L G nL pc lv st ws cells slots := by
  obtain ⟨p, l, e, R, s, m, args, below, meth, c, Q, cy, D, A⟩ := G
  obtain ⟨hx, hb, hml, hown, hts, hK, hN, hnm, hA, hfr, hlo, hrc, hrs⟩ := hG
  intro ls H locs hl hP hD hS
  exact lv_aload_n hx hb hd hn (lv_at hl n ha) (kk ls H locs hl hP hD hS)
theorem rb_iload (hG : rb_k G cc own Ts nL fr lo rc rs) {i : Nat} {x : Int32} {k : Fin 4} (n : Nat) (hd : decode cc pc = .ok (.iload_n k, 1)) (hn : (k : Nat) = i) (ha : lv[n]? = some (i, .int x)) (kk : rb_L G nL (pc + 1) lv (.int x :: st) ws cells slots) : rb_L G nL pc lv st ws cells slots := by
  obtain ⟨p, l, e, R, s, m, args, below, meth, c, Q, cy, D, A⟩ := G
  obtain ⟨hx, hb, hml, hown, hts, hK, hN, hnm, hA, hfr, hlo, hrc, hrs⟩ := hG
  intro ls H locs hl hP hD hS
  exact lv_iload_n hx hb hd hn (lv_at hl n ha) (kk ls H locs hl hP hD hS)
theorem rb_istore (hG : rb_k G cc own Ts nL fr lo rc rs) {i : Nat} {x : Int32} {k : Fin 4} {lv2 : List (Nat × Value)} (hd : decode cc pc = .ok (.istore_n k, 1)) (hn : (k : Nat) = i) (hi2 : i < nL) (hl2 : (i, Value.int x) :: lv.filter (fun q => !(q.1 == i) && !(q.1 + 1 == i && q.2.category == 2)) = lv2) (kk : rb_L G nL (pc + 1) lv2 st ws cells slots) : rb_L G nL pc lv (.int x :: st) ws cells slots := by
  obtain ⟨p, l, e, R, s, m, args, below, meth, c, Q, cy, D, A⟩ := G
  obtain ⟨hx, hb, hml, hown, hts, hK, hN, hnm, hA, hfr, hlo, hrc, hrs⟩ := hG
  intro ls H locs hl hP hD hS
  exact lv_istore_n hx hb hd hn hl hi2 hl2 (fun ls hl => kk ls H locs hl hP hD hS)
theorem rb_iinc (hG : rb_k G cc own Ts nL fr lo rc rs) {i k : Nat} {n : Int} {x v : Int32} {lv2 : List (Nat × Value)} (hd : decode cc pc = .ok (.iinc i n, 3)) (hk : lv[k]? = some (i, .int x)) (hv : x + Int32.ofInt n = v) (hi2 : i < nL) (hl2 : (i, Value.int v) :: lv.filter (fun q => !(q.1 == i) && !(q.1 + 1 == i && q.2.category == 2)) = lv2) (kk : rb_L G nL (pc + 3) lv2 st ws cells slots) : rb_L G nL pc lv st ws cells slots := by
  obtain ⟨p, l, e, R, s, m, args, below, meth, c, Q, cy, D, A⟩ := G
  obtain ⟨hx, hb, hml, hown, hts, hK, hN, hnm, hA, hfr, hlo, hrc, hrs⟩ := hG
  intro ls H locs hl hP hD hS
  exact lv_iinc hx hb hd hl hk hv hi2 hl2 (fun ls hl => kk ls H locs hl hP hD hS)
theorem rb_goto (hG : rb_k G cc own Ts nL fr lo rc rs) {off : Int} {tgt : Nat} (hd : decode cc pc = .ok (.goto off, 3)) (ht : (pc : Int) + off = (tgt : Int)) (kk : rb_L G nL tgt lv st ws cells slots) : rb_L G nL pc lv st ws cells slots := by
  obtain ⟨p, l, e, R, s, m, args, below, meth, c, Q, cy, D, A⟩ := G
  obtain ⟨hx, hb, hml, hown, hts, hK, hN, hnm, hA, hfr, hlo, hrc, hrs⟩ := hG
  intro ls H locs hl hP hD hS
  exact lv_goto hx hb hd ht (kk ls H locs hl hP hD hS)
theorem rb_icmp_ge (hG : rb_k G cc own Ts nL fr lo rc rs) {x y : Int32} {off : Int} {tgt : Nat} (hd : decode cc pc = .ok (.if_icmp .ge off, 3)) (ht : (pc : Int) + off = (tgt : Int)) (kt : y ≤ x → rb_L G nL tgt lv st ws cells slots) (kf : ¬ y ≤ x → rb_L G nL (pc + 3) lv st ws cells slots) : rb_L G nL pc lv (.int y :: .int x :: st) ws cells slots := by
  obtain ⟨p, l, e, R, s, m, args, below, meth, c, Q, cy, D, A⟩ := G
  obtain ⟨hx, hb, hml, hown, hts, hK, hN, hnm, hA, hfr, hlo, hrc, hrs⟩ := hG
  intro ls H locs hl hP hD hS
  exact lv_icmp_ge hx hb hd ht (fun q => kt q ls H locs hl hP hD hS) (fun q => kf q ls H locs hl hP hD hS)
theorem rb_push (hG : rb_k G cc own Ts nL fr lo rc rs) {len : Nat} {v : Int32} (hp : rb_ps cc pc len v) (kk : rb_L G nL (pc + len) lv (.int v :: st) ws cells slots) : rb_L G nL pc lv st ws cells slots := by
  obtain ⟨p, l, e, R, s, m, args, below, meth, c, Q, cy, D, A⟩ := G
  obtain ⟨hx, hb, hml, hown, hts, hK, hN, hnm, hA, hfr, hlo, hrc, hrs⟩ := hG
  intro ls H locs hl hP hD hS
  rcases hp with ⟨n, hd, rfl, hv⟩ | ⟨n, hd, rfl, hv⟩ | ⟨n, hd, rfl, hv⟩
  · exact lv_iconst hx hb hd hv (kk ls H locs hl hP hD hS)
  · exact lv_bipush hx hb hd hv (kk ls H locs hl hP hD hS)
  · exact lv_sipush hx hb hd hv (kk ls H locs hl hP hD hS)
theorem rb_oi (hG : rb_k G cc own Ts nL fr lo rc rs) {ix a : Nat} (hd : decode cc pc = .ok (.invokespecial ix, 3)) (w1 : Cond.methodLink own ix objectInit ∈ Ts) (w2 : Cond.instanceMethod objectInit ∈ Ts) (w3 : Cond.code objectInit ⟨#[0xb1]⟩ 1 none ∈ Ts) (hf : 1 ≤ fr) (hlo2 : 20 ≤ lo) (kk : rb_L G nL (pc + 3) lv [] ws cells slots) : rb_L G nL pc lv [.ref a] ws cells slots := by
  obtain ⟨p, l, e, R, s, m, args, below, meth, c, Q, cy, D, A⟩ := G
  obtain ⟨hx, hb, hml, hown, hts, hK, hN, hnm, hA, hfr, hlo, hrc, hrs⟩ := hG
  intro ls H locs hl hP hD hS
  have hroom := lv_room (m := m) (pc := pc) (ls := ls) (rest := [.ref a]) (st := []) (Nat.zero_le _)
  refine W.objInit hx hb hown (hts _ w1) (hts _ w2) (hts _ w3) (rest := []) rfl (by rw [hml]; exact hl.1) rfl hd (by rw [hfr]; exact hf) (by rw [hlo]; omega) ?_
  exact W.eq (g2 := F0 m (pc + 3) ls []) rfl (kk ls H locs hl hP hD hS)
theorem rb_newI (hG : rb_k G cc own Ts nL fr lo rc rs) {n : Nat} (hn : n < 1000) (hw : Cond.arrayClass .int ∈ Ts) (hd : decode cc pc = .ok (.newarray .int, 2)) (hc : cells + 1 ≤ rc) (hs : slots + n ≤ rs) (kk : ∀ q, rb_L G nL (pc + 2) lv (.ref q :: st) (ws ++ [(q, .inl ((rb_cy G).1, n, .inl (fun _ => 0)))]) (cells + 1) (slots + n)) : rb_L G nL pc lv (.int (nI n) :: st) ws cells slots := by
  obtain ⟨p, l, e, R, s, m, args, below, meth, c, Q, cy, D, A⟩ := G
  obtain ⟨hx, hb, hml, hown, hts, hK, hN, hnm, hA, hfr, hlo, hrc, hrs⟩ := hG
  intro ls H locs hl hP hD hS
  refine va_newa (atype := .int) (ty := .int) (N' := n) (a0 := (n, .inl (fun _ => 0))) hx hb (hts _ hw) rfl hK hP hD hS hA (fun cA => by rw [vp_cell_i]; rfl) (nI_pos (by omega)) (nI_clamp (by omega)) (by show n * 4 ≤ 536870912; omega) (by rw [hrc]; exact hc) (by rw [hrs]; exact hs) hd (fun q cA H1 hK1 hP1 hD1 hS1 => ?_)
  have a1 : s.vm.findClass ("[" ++ (FieldType.int).toString) = some cA := (hK1.2 4 (cA, .int) rfl).2
  have a2 : s.vm.findClass ("[" ++ (FieldType.int).toString) = some cy.1 := (hK.2 0 (cy.1, .int) rfl).2
  have e1 : cA = cy.1 := Option.some.inj (a1.symm.trans a2)
  subst e1
  exact kk q ls H1 locs hl hP1 hD1 hS1
theorem rb_newJ (hG : rb_k G cc own Ts nL fr lo rc rs) {n : Nat} (hn : n < 1000) (hw : Cond.arrayClass .long ∈ Ts) (hd : decode cc pc = .ok (.newarray .long, 2)) (hc : cells + 1 ≤ rc) (hs : slots + n ≤ rs) (kk : ∀ q, rb_L G nL (pc + 2) lv (.ref q :: st) (ws ++ [(q, .inl ((rb_cy G).2.1, n, .inr (.inl (fun _ => 0))))]) (cells + 1) (slots + n)) : rb_L G nL pc lv (.int (nI n) :: st) ws cells slots := by
  obtain ⟨p, l, e, R, s, m, args, below, meth, c, Q, cy, D, A⟩ := G
  obtain ⟨hx, hb, hml, hown, hts, hK, hN, hnm, hA, hfr, hlo, hrc, hrs⟩ := hG
  intro ls H locs hl hP hD hS
  refine va_newa (atype := .long) (ty := .long) (N' := n) (a0 := (n, .inr (.inl (fun _ => 0)))) hx hb (hts _ hw) rfl hK hP hD hS hA (fun cA => by rw [vp_cell_l]; rfl) (nI_pos (by omega)) (nI_clamp (by omega)) (by show n * 8 ≤ 536870912; omega) (by rw [hrc]; exact hc) (by rw [hrs]; exact hs) hd (fun q cA H1 hK1 hP1 hD1 hS1 => ?_)
  have a1 : s.vm.findClass ("[" ++ (FieldType.long).toString) = some cA := (hK1.2 4 (cA, .long) rfl).2
  have a2 : s.vm.findClass ("[" ++ (FieldType.long).toString) = some cy.2.1 := (hK.2 1 (cy.2.1, .long) rfl).2
  have e1 : cA = cy.2.1 := Option.some.inj (a1.symm.trans a2)
  subst e1
  exact kk q ls H1 locs hl hP1 hD1 hS1
theorem rb_newS (hG : rb_k G cc own Ts nL fr lo rc rs) {n ix : Nat} (hn : n < 1000) (hw : Cond.classLink own ix "RingPages$State" ∈ Ts) (hd : decode cc pc = .ok (.anewarray ix, 3)) (hc : cells + 1 ≤ rc) (hs : slots + n ≤ rs) (kk : ∀ q, rb_L G nL (pc + 3) lv (.ref q :: st) (ws ++ [(q, .inl ((rb_cy G).2.2.1, n, .inr (.inr (.inr (.inr (fun _ => none))))))]) (cells + 1) (slots + n)) : rb_L G nL pc lv (.int (nI n) :: st) ws cells slots := by
  obtain ⟨p, l, e, R, s, m, args, below, meth, c, Q, cy, D, A⟩ := G
  obtain ⟨hx, hb, hml, hown, hts, hK, hN, hnm, hA, hfr, hlo, hrc, hrs⟩ := hG
  intro ls H locs hl hP hD hS
  refine va_newq (N' := n) hx hb hown (hts _ hw) hN.2.2.2 hK hP hD hS hA (nI_pos (by omega)) (nI_clamp (by omega)) (by omega) (by rw [hrc]; exact hc) (by rw [hrs]; exact hs) hd (fun q cA H1 hK1 hP1 hD1 hS1 => ?_)
  obtain ⟨_, _, _, _, _, a1⟩ := (hK1.2 4 (cA, .object "RingPages$State") rfl).2
  obtain ⟨_, _, _, _, _, a2⟩ := (hK.2 2 (cy.2.2.1, .object "RingPages$State") rfl).2
  have e1 : cA = cy.2.2.1 := Option.some.inj (a1.symm.trans a2)
  subst e1
  exact kk q ls H1 locs hl hP1 hD1 hS1
theorem rb_pl (r : Nat → Nat) (e : va_E) (f : Nat → va_E) : va_pl ([] ++ (List.range 6).map r) (vr_up f ((List.range 6).map r) e) = (List.range 6).map (fun i => (r i, e)) := by
  unfold va_pl
  rw [List.nil_append, List.map_map]
  apply List.map_congr_left
  intro i hi
  show (r i, vr_up f ((List.range 6).map r) e (r i)) = (r i, e)
  rw [vr_up_in (List.mem_map.mpr ⟨i, hi, rfl⟩)]
theorem rb_newM (hG : rb_k G cc own Ts nL fr lo rc rs) {ix : Nat} (hw : Cond.classLink own ix "[[I" ∈ Ts) (hw2 : Cond.arrayClass .int ∈ Ts) (hd : decode cc pc = .ok (.multianewarray ix 2, 4)) (hc : cells + 7 ≤ rc) (hs : slots + 42 ≤ rs)
    (kk : ∀ (q : Nat) (r : Nat → Nat), rb_L G nL (pc + 4) lv (.ref q :: st) ((ws ++ [(q, .inl ((rb_cy G).2.2.2, 6, .inr (.inr (.inr (.inr (fun i => if i < 6 then some (r i) else none))))))]) ++ (List.range 6).map (fun i => (r i, .inl ((rb_cy G).1, 6, .inl (fun _ => 0))))) (cells + 7) (slots + 42)) : rb_L G nL pc lv (.int (nI 6) :: .int (nI 6) :: st) ws cells slots := by
  obtain ⟨p, l, e, R, s, m, args, below, meth, c, Q, cy, D, A⟩ := G
  obtain ⟨hx, hb, hml, hown, hts, hK, hN, hnm, hA, hfr, hlo, hrc, hrs⟩ := hG
  intro ls H locs hl hP hD hS
  have hcy : s.vm.findClass (FieldType.array .int).toString = some cy.1 := (hK.2 0 (cy.1, .int) rfl).2
  refine va_mna (L := []) (f := fun _ => .inl (cy.1, 0, .inl (fun _ => 0))) (X := ws) (ty := .int) (cy := cy.1) (N' := 6) (K' := 6) (z := (6, .inl (fun _ => 0))) hx hb hown (hts _ hw) hN.2.2.1 (hts _ hw2) hcy hK (by rw [show va_pl [] (fun _ => (.inl (cy.1, 0, .inl (fun _ => 0)) : va_E)) = [] from rfl, List.append_nil]; exact hP) (by rw [show va_pl [] (fun _ => (.inl (cy.1, 0, .inl (fun _ => 0)) : va_E)) = [] from rfl, List.append_nil]; exact hD) hS hA (by decide) (by decide) rfl rfl (by decide) (by decide) (by decide) rfl rfl (by rw [hrc]; exact hc) (by rw [hrs]; exact hs) (fun c => by rw [vp_cell_i, ← arrV_new]; rfl) hd (fun q r cA H1 hr1 hr2 hK1 hP1 hD1 hS1 => ?_)
  have a1 : s.vm.findClass ("[" ++ (FieldType.array .int).toString) = some cA := (hK1.2 4 (cA, .array .int) rfl).2
  have a2 : s.vm.findClass ("[" ++ (FieldType.array .int).toString) = some cy.2.2.2 := (hK.2 3 (cy.2.2.2, .array .int) rfl).2
  have e1 : cA = cy.2.2.2 := Option.some.inj (a1.symm.trans a2)
  subst e1
  rw [rb_pl] at hP1 hD1
  exact kk q r ls H1 locs hl hP1 hD1 hS1
theorem rb_put (hG : rb_k G cc own Ts nL fr lo rc rs) {C : String} {T : u_T} {N ix v h : Nat} {fs : List Value} {ty : FieldType} {ty0 : Nat → FieldType} (q0 ci k : Nat) (he : ws[q0]? = some (h, .inr (ci, fs))) (hcl : vwCl[ci]? = some (C, T, N)) (hin : ∀ w ∈ u_ws C T N, w ∈ Ts) (hty : ∀ k, k < N → parseFieldDescriptor (T k).2.2.1 = some (ty0 k)) (hnm : ∀ a, a < N → ∀ b, b < N → a ≠ b → (T a).2.1 ≠ (T b).2.1) (hk : k < N) (hw : Cond.fieldLink own ix own (T k).2.1 (T k).2.2.1 ∈ Ts) (hr : (T k).1 = own) (hpd : ty0 k = ty) (hn : narrow ty (.ref v) = .ref v) (hfit : fits ty (.ref v) = true) (hlen : k < fs.length) (hd : decode cc pc = .ok (.putfield ix, 3)) (kk : rb_L G nL (pc + 3) lv st (ws.set q0 (h, .inr (ci, fs.set k (.ref v)))) cells slots) : rb_L G nL pc lv (.ref v :: .ref h :: st) ws cells slots := by
  obtain ⟨p, l, e, R, s, m, args, below, meth, c, Q, cy, D, A⟩ := G
  obtain ⟨hx, hb, hml, hown, hts, hK, hN, hnme, hA, hfr, hlo, hrc, hrs⟩ := hG
  intro ls H locs hl hP hD hS
  have hsame : ∀ x, s.fieldFound? (T k).1 (T k).2.1 (T k).2.2.1 = some x → s.fieldFound? own (T k).2.1 (T k).2.2.1 = some x := by rw [hr]; exact fun _ h9 => h9
  cases hf : (T k).2.2.2 with
  | true => exact va_putF (D := D) hx hb hts hin ty0 hty hnm hown hK hP hD hS q0 he hcl k hk (hts _ hw) hsame hf hnme hr (by rw [hty k hk, hpd]) hn hfit hlen hd (fun H locs hP hD hS => kk ls H locs hl hP hD hS)
  | false => exact va_put (D := D) hx hb hts hin ty0 hty hnm hown hK hP hD hS q0 he hcl k hk (hts _ hw) hsame hf (by rw [hty k hk, hpd]) hn hfit hlen hd (fun H locs hP hD hS => kk ls H locs hl hP hD hS)
theorem rb_ret (hG : rb_k G cc own Ts nL fr lo rc rs) {q0 mc ms h : Nat} {qs : List Nat} (hE : rb_E G q0 qs mc ms h) (ph : Nat → Nat) (hph : ph q0 = h) (hw : ws = rb_w (rb_cy G) ph qs) (hd : decode cc pc = .ok (.return_, 1)) (hc : cells = mc) (hs : slots = ms) : rb_L G nL pc lv [] ws cells slots := by
  obtain ⟨p, l, e, R, s, m, args, below, meth, c, Q, cy, D, A⟩ := G
  obtain ⟨hx, hb, hml, hown, hts, hK, hN, hnme, hA, hfr, hlo, hrc, hrs⟩ := hG
  obtain ⟨hr, hlk, rfl⟩ := hE
  subst hc
  subst hs
  intro ls H locs hl hP hD hS
  rw [hw] at hP hD
  exact W.vret hx hb hr (fun t ht hW => ⟨⟨ph, rfl, hph, by rw [ht]; exact hP, hD⟩, hS.F ht⟩) hS.2.2 hd hlk
end RBR
