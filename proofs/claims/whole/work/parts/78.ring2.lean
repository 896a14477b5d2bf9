/-! ===== RingPages(): the first TEXT, and the contract ===== -/
def tF : String := "n6;j0,1,2,1;j1,2,1,1;j2,3,3,1;j3,4,1,2;j4,5,1,1;j5,0,2,2;j1,4,1,1;s2,4;a3,1;a4,1;a5,1;p2,1,5,10;"
theorem rm_ofat {NC : Nat} {cy : rm_Y} {ph : Nat → Nat} {D : va_G} {M : rm_M} {H : Heap} (h : ∀ q, q < NC → va_at D vwCl (ph q, rm_e cy ph q (M.1 q) (M.2.1 q) M.2.2) H) : va_P D vwCl (rm_W NC cy ph M) H := by
  intro k x hk
  have hl : k < NC := by have := (List.getElem?_eq_some_iff.mp hk).1; simpa [rm_W] using this
  rw [rm_W_at NC cy ph M hl] at hk
  rw [← Option.some.inj hk]
  exact h k hl
theorem rb_all : ∀ q, q < 79 → q ∈ 0 :: rb_qA := by decide +kernel
theorem rb_clA : rb_cl rb_qA := by unfold rb_cl; decide +kernel
theorem rb_n0 : ∀ q ∈ rb_qA, q ≠ 0 := by decide +kernel
def rb_p0 (h : Nat) (ph : Nat → Nat) : Nat → Nat := fun x => if x = 0 then h else ph x
def rb_F (cy : rm_Y) (ph : Nat → Nat) (M : rm_M) (q : Nat) : Nat × va_E := (ph q, rm_e cy ph q (M.1 q) (M.2.1 q) M.2.2)
theorem rb_wW (cy : rm_Y) (h : Nat) (ph : Nat → Nat) : ((h, .inr (7, rb_fs ph 10)) :: rb_w cy ph rb_qA : va_W) = (0 :: rb_qA).map (rb_F cy (rb_p0 h ph) M0) := by
  have e1 : rb_w cy ph rb_qA = rb_qA.map (rb_F cy (rb_p0 h ph) M0) := by
    rw [rb_w_cong rb_clA (ph' := rb_p0 h ph) (fun q hq => by unfold rb_p0; rw [if_neg (rb_n0 q hq)])]
    unfold rb_w
    apply List.map_congr_left
    intro q hq
    unfold rb_F
    rw [rm_e_r cy (rb_p0 h ph) _ _ (fun _ => 0) M0.2.2 (rb_clA q hq).1]
    rfl
  rw [e1, List.map_cons]
  rfl
theorem rb_forget {p : Program} {l : Launch} {e : Env} {R : Room} {s : State} {m : MethodId} {args : Array Value} {below : List Frame} {meth : Method} {c : Code} {H : Heap} {locs locs' : List Loc} {cells slots : Nat} {Q : State → Prop} {g : JFrame} (hf : ∀ q ∈ locs, q.base < s.heap.size → q ∈ locs') (kk : W p l e R s m args below meth c H locs' cells slots Q g) : W p l e R s m args below meth c H locs cells slots Q g := fun T hT X => kk T hT { X with same := X.same.weaken hf (Nat.le_refl _) (Nat.le_refl _) }
theorem rb_conv {p : Program} {l : Launch} {e : Env} {R : Room} {s : State} {m : MethodId} {args : Array Value} {below : List Frame} {meth : Method} {c : Code} {Q : State → Prop} {cy : rm_Y} {D : va_G} {A : Nat → Prop} {nL pc h cells slots : Nat} {lv : List (Nat × Value)} {st : List Value} {ph : Nat → Nat} (hAh : ∀ q, A q → q < s.heap.size → q = h)
    (kk : rm_inj 79 (rb_p0 h ph) → (∀ k, k < 79 → A (rb_p0 h ph k)) → rm_L (p, l, e, R, s, m, args, below, meth, c, Q, cy, D, cells, slots) 79 (rb_p0 h ph) nL pc lv st M0) : rb_L (p, l, e, R, s, m, args, below, meth, c, Q, cy, D, A) nL pc lv st ((h, .inr (7, rb_fs ph 10)) :: rb_w cy ph rb_qA) cells slots := by
  intro ls H locs hl hP hD hS
  rw [rb_wW] at hP hD
  have get : ∀ q, q < 79 → ∃ k : Nat, ((0 :: rb_qA).map (rb_F cy (rb_p0 h ph) M0))[k]? = some (rb_F cy (rb_p0 h ph) M0 q) ∧ (0 :: rb_qA)[k]? = some q := by
    intro q hq
    obtain ⟨k, hk⟩ := List.getElem?_of_mem (rb_all q hq)
    exact ⟨k, by rw [List.getElem?_map, hk]; rfl, hk⟩
  have hi : rm_inj 79 (rb_p0 h ph) := by
    intro i j hi hj hij
    obtain ⟨k1, a1, a2⟩ := get i hi
    obtain ⟨k2, b1, b2⟩ := get j hj
    have := hD.1 k1 k2 _ _ a1 b1 hij
    subst this
    exact Option.some.inj (a2.symm.trans b2)
  have hAA : ∀ k, k < 79 → A (rb_p0 h ph k) := by
    intro k hk
    obtain ⟨k1, a1, -⟩ := get k hk
    exact hD.2 k1 _ a1
  have hP79 : va_P D vwCl (rm_W 79 cy (rb_p0 h ph) M0) H := rm_ofat (fun q hq => by
    obtain ⟨k, a1, -⟩ := get q hq
    exact hP k _ a1)
  refine rb_forget (locs' := locs.filter (fun q => decide (q.base < s.heap.size))) (fun q hq hlt => List.mem_filter.mpr ⟨hq, by simpa using hlt⟩) ?_
  refine kk hi hAA ls H _ hl hP79 ⟨hS.1, fun q h1 h2 => hS.2.1 q h1 (fun z => h2 ⟨0, by omega, (hAh q z h1).symm⟩), fun q hq => ?_⟩
  obtain ⟨g1, g2⟩ := List.mem_filter.mp hq
  exact ⟨0, by omega, (hAh q.base (hS.2.2 q g1) (by simpa using g2)).symm⟩
def rm_Es (G : rm_G) (NC : Nat) (ph : Nat → Nat) (aK aV : Nat) : Prop :=
  match G with
  | (_, _, _, _, s, _, _, _, _, _, _, _, _, _, _) => rs_E aK aV (rm_A NC ph) s s.heap ∧ vk_R RX7 67 tF aK s
section RST
variable {G : rm_G} {NC : Nat} {ph : Nat → Nat} {cc : ByteArray} {own : String} {Ts : List Cond} {nL fr lo pc : Nat} {lv : List (Nat × Value)} {st : List Value} {M : rm_M} {aK aV : Nat}
theorem rr_ldcS (hG : rm_k G NC ph cc RX7 Ts nL fr lo) (hE : rm_Es G NC ph aK aV) (hd : decode cc pc = .ok (.ldc 67, 2)) (kk : rm_L G NC ph nL (pc + 2) lv (.ref aK :: st) M) : rm_L G NC ph nL pc lv st M := by
  obtain ⟨p, l, e, R, s, m, args, below, meth, c, Q, cy, D, cells, slots⟩ := G
  obtain ⟨hx, hb, hml, hown, hts, hK, hN, hi, hfr, hlo, hc, hs⟩ := hG
  intro ls H locs hl hP hS
  exact va_ldcS hx hb hown hE.2 hd (kk ls H locs hl hP hS)
theorem rr_cSt (hG : rm_k G NC ph cc own Ts nL fr lo) (hE : rm_Es G NC ph aK aV) {y : MethodName} {ws ws2 : List Cond} {bytes : ByteArray} {maxL rf rl index n : Nat} {ret : Option FieldType} {v : Int32} {As stk : List Value} (hM : rs_CI y ws rf rl (.ref aK :: As) aK aV v) (hg : GoodIn Ts (wsV own index "java/lang/String" y ws)) (hw : ws = Cond.code y bytes maxL ret :: ws2) (hds : y.cls = "java/lang/String" ∧ y.cls ≠ "java/lang/invoke/MethodHandle" ∧ y.cls ≠ "java/lang/invoke/VarHandle" ∧ (parseMethodDescriptor y.desc).map (fun d => d.parameters.length) = some n) (hn : As.length = n) (hrm : rf + 1 ≤ fr ∧ 8 + (maxL + 11) + rl ≤ lo) (hst : stk = As.reverse ++ .ref aK :: st) (hcat : (st.map fun v => v.category).sum ≤ 8) (hd : decode cc pc = .ok (.invokevirtual index, 3))
    (kk : rm_L G NC ph nL (pc + 3) lv (.int v :: st) M) : rm_L G NC ph nL pc lv stk M := by
  obtain ⟨p, l, e, R, s, m, args, below, meth, c, Q, cy, D, cells, slots⟩ := G
  obtain ⟨hx, hb, hml, hown, hts, hK, hN, hi, hfr, hlo, hc, hs⟩ := hG
  intro ls H locs hl hP hS
  subst hst
  have hE1 : rs_E aK aV rs_F s H := (hE.1.kept hS.2.1).narrow (fun q h => h.elim)
  obtain ⟨cell, g1, g2, g3, -⟩ := hE1.2.2.1
  refine va_calli (va_runV (As := As) (rest := st) ⟨hx, hb, hml, hown, hts⟩ (hM l) (cwV n hts hg hw rfl rfl hds ⟨by rw [hfr]; exact hrm.1, by rw [hlo]; exact hrm.2⟩) ⟨fun a U g mk q => ⟨q.1, rs_E.moved (u := U) (U := U.calling g mk a) (Vm.Alike.refl U.vm) q.2⟩, ⟨cell, g1, g2, g3⟩, fun U hU hW => ⟨rfl, by show rs_E aK aV rs_F U U.heap; rw [hU]; exact hE1.moved hW.alike⟩⟩ rfl hn hl.1 rfl (lv_room hcat) hd ⟨by simpa using hc, by simpa using hs⟩) hS (fun q _ h => h.elim) (fun q h => h.elim) (fun r u t H1 locs1 ht hvm hpost hB hz hk1 hS => ?_)
  have e2 : r = v := hpost
  subst e2
  exact kk ls H1 locs1 hl (hP.kept (fun k x hx2 => hk1 x.1 (hP k x hx2).lt (fun z => z))) hS
end RST
theorem kX7_init_10 : Cond.fieldLink RX7 10 "RingPages" "text" "LRingPages$Text;" ∈ wsX7_init := by decide +kernel
theorem kX7_init_87 : Cond.fieldLink RX7 87 "RingPages$Text" "length" "I" ∈ wsX7_init := by decide +kernel
theorem rc_loop {G : rm_G} {ph : Nat → Nat} {aK aV : Nat} (hG : rm_k G 79 ph cX7_init RX7 wsX7_init 2 6 140) (hE : rm_Es G 79 ph aK aV) (kk : ∀ M, AppI 96 M → rm_L G 79 ph 2 145 [(1, .int (nI 96)), (0, .ref (ph 0))] [] M) : ∀ d i M, i + d = 96 → AppI i M → rm_L G 79 ph 2 116 [(1, .int (nI i)), (0, .ref (ph 0))] [] M := by
  intro d
  induction d with
  | zero =>
    intro i M hi h
    have e96 : i = 96 := by omega
    subst e96
    refine rr_iload_n hG dX7_init_116 0 rfl rfl ?_
    refine rr_ldcS hG hE dX7_init_117 ?_
    refine rr_cSt hG hE (n := 0) (st := [.int (nI 96)]) (As := []) (mJ0_length aK aV) gX7_init_J0_length_8abf5 rfl (by decide +kernel) rfl ⟨by decide, by decide⟩ rfl (Nat.le_of_ble_eq_true rfl) dX7_init_119 ?_
    exact rr_icmp_ge hG (tgt := 145) (X := some ()) (Y := none) (rho := ()) dX7_init_122 (by decide) (by rw [if_pos (by decide)]) (fun _ _ => kk M h) (fun q _ => absurd (by decide) q)
  | succ d ih =>
    intro i M hi h
    have hlt : i < 96 := by omega
    refine rr_iload_n hG dX7_init_116 0 rfl rfl ?_
    refine rr_ldcS hG hE dX7_init_117 ?_
    refine rr_cSt hG hE (n := 0) (st := [.int (nI i)]) (As := []) (mJ0_length aK aV) gX7_init_J0_length_8abf5 rfl (by decide +kernel) rfl ⟨by decide, by decide⟩ rfl (Nat.le_of_ble_eq_true rfl) dX7_init_119 ?_
    have hno : ¬ nI 96 ≤ nI i := by rw [nI_leI (by omega) (by omega)]; omega
    refine rr_icmp_ge hG (tgt := 145) (X := none) (Y := some ()) (rho := ()) dX7_init_122 (by decide) (by rw [if_neg hno]) (fun q _ => absurd q hno) (fun _ _ => ?_)
    refine rr_aload_n hG dX7_init_125 1 rfl rfl ?_
    refine rr_get hG 7 0 (v := .ref (ph 1)) dX7_init_126 (rm_c (by decide) rfl (by decide)) (by decide) rfl tX7_init_X7 (by decide) kX7_init_10 rfl rfl ?_
    refine rr_ldcS hG hE dX7_init_129 ?_
    refine rr_iload_n hG dX7_init_131 0 rfl rfl ?_
    refine rr_cSt hG hE (n := 1) (st := [.ref (ph 1)]) (As := [.int (nI i)]) (mJ0_charAt aK aV hlt) gX7_init_J0_charAt_5068e rfl (by decide +kernel) rfl ⟨by decide, by decide⟩ rfl (Nat.le_of_ble_eq_true rfl) dX7_init_132 ?_
    obtain ⟨M2, f2, h2⟩ := app1 h hlt
    refine rr_cVI hG (X := fX5_append (nI (ftx i)) M) (K := fun r M => some (r, M)) (rho := (nI 1, M2)) (q := 1) (st := []) (n := 1) (ci := 5) (rf := 0) (rl := 0) [.int (nI (ftx i))] dX7_init_135 (by rw [f2]; rfl) (rm_c (by decide) rfl (by decide)) (by decide) rfl gX7_init_X5_append rfl (by decide +kernel) rfl ⟨by decide, by decide⟩ rfl (Nat.le_of_ble_eq_true rfl) (fun r9 M9 h9 => mX5_append (by decide) ph _ _ _ h9) (fun r M3 h3 _ => ?_)
    obtain ⟨rfl, rfl⟩ : nI 1 = r ∧ M2 = M3 := by
      have := f2.symm.trans h3
      injection this with this
      injection this with a b
      exact ⟨a, b⟩
    refine rr_pop hG dX7_init_138 rfl ?_
    refine rr_iinc hG (v := nI (i + 1)) (lv2 := [(1, .int (nI (i + 1))), (0, .ref (ph 0))]) (k := 0) dX7_init_139 rfl (by rw [show Int32.ofInt 1 = nI 1 by decide, nI_add]) (by decide) rfl ?_
    refine rr_goto hG (tgt := 116) dX7_init_142 (by decide) ?_
    exact ih (i + 1) M2 (by omega) h2
theorem rc_end {G : rm_G} {ph : Nat → Nat} (hG : rm_k G 79 ph cX7_init RX7 wsX7_init 2 6 140) (kk : ∀ M, Fst M → rm_L G 79 ph 2 158 [(1, .int (nI 96)), (0, .ref (ph 0))] [] M) (M : rm_M) (h : AppI 96 M) : rm_L G 79 ph 2 145 [(1, .int (nI 96)), (0, .ref (ph 0))] [] M := by
  obtain ⟨M2, f2, h2⟩ := first_lay h
  refine rr_aload_n hG dX7_init_145 1 rfl rfl ?_
  refine rr_cVI hG (X := fX7_layText M) (K := fun r M => some (r, M)) (rho := (nI 1, M2)) (q := 0) (st := []) (n := 0) (ci := 7) (rf := 5) (rl := 118) [] dX7_init_146 (by rw [f2]; rfl) (rm_c (by decide) rfl (by decide)) (by decide) rfl gX7_init_X7_layText rfl (by decide +kernel) rfl ⟨by decide, by decide⟩ rfl (Nat.le_of_ble_eq_true rfl) (fun r9 M9 h9 => mX7_layText (by decide) ph _ _ h9) (fun r M3 h3 _ => ?_)
  obtain ⟨rfl, rfl⟩ : nI 1 = r ∧ M2 = M3 := by
    have := f2.symm.trans h3
    injection this with this
    injection this with a b
    exact ⟨a, b⟩
  refine rr_pop hG dX7_init_149 rfl ?_
  refine rr_aload_n hG dX7_init_150 1 rfl rfl ?_
  refine rr_get hG 7 0 (v := .ref (ph 1)) dX7_init_151 (rm_c (by decide) rfl (by decide)) (by decide) rfl tX7_init_X7 (by decide) kX7_init_10 rfl rfl ?_
  refine rr_iconst hG (v := nI 0) dX7_init_154 (by decide) ?_
  refine rr_putI hG 5 3 dX7_init_155 (rm_c (by decide) rfl (by decide)) (by decide) rfl tX7_init_X5 tyX5_ok nmX5 (by decide) kX7_init_87 rfl rfl rfl rfl rfl (Nat.le_of_ble_eq_true rfl) rfl ?_
  exact kk _ h2
abbrev rc_nulls : List Value := [.null, .null, .null, .null, .null, .null, .null, .null, .null, .null]
def rc_post (h : Nat) (A : Nat → Prop) (u : (Nat → Nat) × rm_M) : Prop := u.1 0 = h ∧ rm_inj 79 u.1 ∧ (∀ k, k < 79 → A (u.1 k)) ∧ Fst u.2
def rc_pre (D : va_G) (cy : rm_Y) (h sz aK aV : Nat) (U : State) : Prop := U.heap.size = sz ∧ va_P D vwCl [(h, .inr (7, rc_nulls))] U.heap ∧ va_K D vwCl (rm_ty cy) U ∧ rb_N U ∧ rs_E aK aV (va_A [(h, .inr (7, rc_nulls))] sz) U U.heap ∧ vk_R RX7 67 tF aK U
theorem mX7_init (l : Launch) (D : va_G) (cy : rm_Y) (h sz aK aV : Nat) : Met l yX7_init wsX7_init ({ frames := 6, cells := 78, slots := 815, locals := 140 }) (va_Pc [.ref h] (rc_pre D cy h sz aK aV)) (va_Qv (rc_post h (va_A [(h, .inr (7, rc_nulls))] sz)) (fun u t => va_P D vwCl (rm_W 79 cy u.1 u.2) t.heap) (va_A [(h, .inr (7, rc_nulls))] sz)) 78 815 (va_A [(h, .inr (7, rc_nulls))] sz) := by
  refine Met.ofW (cc := cX7_init) (maxL := 2) (ret := none) (by decide +kernel) rfl ?_
  intro p e s m args below meth c s₁ B hml hv
  obtain ⟨rfl, hsz, hP, hK, hN, hE, hR⟩ := hv
  subst hsz
  have hts := atoms_spec (ws := wsX7_init) B.pre
  have hown : s.vm.findClass RX7 = some m.cls := findClass_of_methodNamed B.named
  have hin : meth.name = "<init>" := (name_of_methodNamed B.named B.method).1
  rw [lg_entry_eq]
  have hl := lv_entry [.ref h] (n := 2) (Nat.le_of_ble_eq_true rfl)
  generalize hAe : va_A [(h, .inr (7, rc_nulls))] s.heap.size = A at hE ⊢
  have hAh : ∀ q, A q → q < s.heap.size → q = h := by
    intro q hq hlt
    rw [← hAe] at hq
    rcases hq with ⟨k, e2, hk⟩ | hq
    · have h0 : k < 1 := (List.getElem?_eq_some_iff.mp hk).1
      rw [show k = 0 by omega] at hk
      have := congrArg Prod.fst (Option.some.inj hk)
      exact this.symm
    · omega
  have hA : ∀ q, s.heap.size ≤ q → A q := fun q hq => by rw [← hAe]; exact Or.inr hq
  have hD : va_D A [(h, .inr (7, rc_nulls))] := by rw [← hAe]; exact rb_D1 _ _ _
  generalize hQe : MQ below (va_Qv (rc_post h A) (fun u t => va_P D vwCl (rm_W 79 cy u.1 u.2) t.heap) A) [Value.ref h].toArray s 78 815 A = Q
  have hG : rb_k (p, l, e, (headSpec wsX7_init { frames := 6, cells := 78, slots := 815, locals := 140 }).room, s, m, [Value.ref h].toArray, below, meth, c, Q, cy, D, A) cX7_init RX7 wsX7_init 2 6 140 78 815 := ⟨B.exec, B.bytes, hml, hown, hts, hK, hN, hin, hA, rfl, rfl, rfl, rfl⟩
  refine rb_ring (h := h) hG (fun ph => ?_) _ _ _ hl hP hD va_S.rf
  refine rb_conv hAh (fun hi hAA => ?_)
  have hsub : ∀ q, rm_A 79 (rb_p0 h ph) q → A q := by
    rintro q ⟨k, hk, rfl⟩
    exact hAA k hk
  have hG2 : rm_k (p, l, e, (headSpec wsX7_init { frames := 6, cells := 78, slots := 815, locals := 140 }).room, s, m, [Value.ref h].toArray, below, meth, c, Q, cy, D, 78, 815) 79 (rb_p0 h ph) cX7_init RX7 wsX7_init 2 6 140 := ⟨B.exec, B.bytes, hml, hown, hts, hK, hN.1, hi, rfl, rfl, Nat.le_refl _, Nat.le_refl _⟩
  have hE2 : rm_Es (p, l, e, (headSpec wsX7_init { frames := 6, cells := 78, slots := 815, locals := 140 }).room, s, m, [Value.ref h].toArray, below, meth, c, Q, cy, D, 78, 815) 79 (rb_p0 h ph) aK aV := ⟨hE.narrow hsub, hR⟩
  refine rr_iconst hG2 (v := nI 0) dX7_init_114 (by decide) ?_
  refine rr_istore_n hG2 (lv2 := [(1, .int (nI 0)), (0, .ref h)]) dX7_init_115 rfl (by decide) rfl ?_
  refine rc_loop hG2 hE2 (rc_end hG2 (fun M hM => ?_)) 96 0 M0 (by omega) AppI0
  intro ls H locs hl hP hS
  have hS2 : va_S A s.heap H locs := ⟨hS.1, fun q h1 h2 => hS.2.1 q h1 (fun z => h2 (hsub q z)), fun q hq => hsub _ (hS.2.2 q hq)⟩
  rw [← hQe]
  exact W.vret B.exec B.bytes B.returns (fun t ht hW => ⟨⟨(rb_p0 h ph, M), rfl, ⟨rfl, hi, hAA, hM⟩, by show va_P D vwCl (rm_W 79 cy (rb_p0 h ph) M) t.heap; rw [ht]; exact hP⟩, hS2.F ht⟩) hS2.2.2 dX7_init_158 B.notSynchronized
