/-! ===== String.length and String.charAt over the class's one constant ===== -/
def rs_F : Nat → Prop := fun _ => False
def fL : List Nat := [110, 54, 59, 106, 48, 44, 49, 44, 50, 44, 49, 59, 106, 49, 44, 50, 44, 49, 44, 49, 59, 106, 50, 44, 51, 44, 51, 44, 49, 59, 106, 51, 44, 52, 44, 49, 44, 50, 59, 106, 52, 44, 53, 44, 49, 44, 49, 59, 106, 53, 44, 48, 44, 50, 44, 50, 59, 106, 49, 44, 52, 44, 49, 44, 49, 59, 115, 50, 44, 52, 59, 97, 51, 44, 49, 59, 97, 52, 44, 49, 59, 97, 53, 44, 49, 59, 112, 50, 44, 49, 44, 53, 44, 49, 48, 59]
def ftx (k : Nat) : Nat := fL.getD k 0
def sB : List Int32 := fL.map nI
theorem sB_chr : ∀ k, k < 96 → ((sB.getD k 0 &&& 255).toUInt32 % 65536).toInt32 = nI (ftx k) ∧ narrow .char (.int (nI (ftx k))) = .int (nI (ftx k)) := by decide +kernel
def rs_E (aK aV : Nat) (A : Nat → Prop) (U : State) (H : Heap) : Prop :=
  va_Z "java/lang/String" "COMPACT_STRINGS" "Z" (.int 1) A U H ∧ va_Zq "jdk/internal/util/Preconditions" "SIOOBE_FORMATTER" "Ljava/util/function/BiFunction;" A U H ∧ va_O "java/lang/String" aK A U H ∧ va_OF "java/lang/String" "coder" "B" (.int 0) aK A U H ∧ va_OF "java/lang/String" "value" "[B" (.ref aV) aK A U H ∧ va_T .byte aV 96 (fun j => .int (sB.getD j 0)) A U H
theorem rs_E.moved {aK aV : Nat} {A : Nat → Prop} {u U : State} {H : Heap} (hvm : u.vm.Alike U.vm) (h : rs_E aK aV A u H) : rs_E aK aV A U H :=
  ⟨va_Z.moved hvm h.1, va_Zq.moved hvm h.2.1, va_O.moved hvm h.2.2.1, va_OF.moved hvm h.2.2.2.1, va_OF.moved hvm h.2.2.2.2.1, va_T.moved hvm h.2.2.2.2.2⟩
theorem rs_E.kept {aK aV : Nat} {A : Nat → Prop} {U : State} {H H1 : Heap} (h : rs_E aK aV A U H) (hq : ∀ a : Nat, a < H.size → ¬ A a → H1[a]? = H[a]?) : rs_E aK aV A U H1 :=
  ⟨h.1.kept hq, h.2.1.kept hq, h.2.2.1.kept hq, h.2.2.2.1.kept hq, h.2.2.2.2.1.kept hq, h.2.2.2.2.2.kept hq⟩
theorem rs_E.narrow {aK aV : Nat} {A B : Nat → Prop} {U : State} {H : Heap} (h : rs_E aK aV A U H) (hAB : ∀ q, B q → A q) : rs_E aK aV B U H :=
  ⟨h.1.narrow hAB, h.2.1.narrow hAB, h.2.2.1.narrow hAB, h.2.2.2.1.narrow hAB, h.2.2.2.2.1.narrow hAB, h.2.2.2.2.2.narrow hAB⟩
abbrev rs_rm (rf rl : Nat) : Room := { frames := rf, cells := 0, slots := 0, locals := rl }
abbrev rs_Q (v : Int32) : Array Value → State → Outcome → State → Prop := va_Qi (fun r (_ : Unit) => r = v) (fun _ _ => True) rs_F
def rs_CI (y : MethodName) (ws : List Cond) (rf rl : Nat) (As : List Value) (aK aV : Nat) (v : Int32) : Prop := ∀ l : Launch, Met l y ws (rs_rm rf rl) (va_Pc As (fun U => rs_E aK aV rs_F U U.heap)) (rs_Q v) 0 0 rs_F
theorem rs_metI {y : MethodName} {ws ws2 : List Cond} {rf rl : Nat} {As : List Value} {aK aV : Nat} {v : Int32} {cc : ByteArray} {maxL : Nat} {ty : FieldType} {own : String} {lv : List (Nat × Value)} (hy : plainName y.cls = true) (hw : ws = Cond.code y cc maxL (some ty) :: ws2) (ho : y.cls = own) (hlen : (lg_sl As).length ≤ maxL) (hlv : lv_args 0 As = lv)
    (body : ∀ (p : Program) (l : Launch) (e : Env) (s : State) (m : MethodId) (args : Array Value) (below : List Frame) (meth : Method) (c : Code) (ls : Array Slot), p.tables.exec = Jvm.exec → c.code = cc → c.maxLocals = maxL → s.vm.findClass own = some m.cls → (∀ w ∈ ws, w.before args s = true) → meth.sig.returnType = some ty → meth.locks = false → rs_E aK aV rs_F s s.heap → lv_has ls maxL lv →
      W p l e (rs_rm rf rl) s m args below meth c s.heap [] 0 0 (MQ below (rs_Q v) args s 0 0 rs_F) (F0 m 0 ls [])) : rs_CI y ws rf rl As aK aV v := by
  intro l
  refine Met.ofW (cc := cc) (maxL := maxL) (ret := some ty) hy hw ?_
  intro p e s m args below meth c s₁ B hml hv
  obtain ⟨rfl, hE⟩ := hv
  have hts := atoms_spec (ws := ws) B.pre
  have hown : s.vm.findClass own = some m.cls := by rw [← ho]; exact findClass_of_methodNamed B.named
  rw [lg_entry_eq]
  have hl := lv_entry As (n := maxL) hlen
  rw [hlv] at hl
  exact body p l e s m _ below meth c _ B.exec B.bytes hml hown hts B.returns B.notSynchronized hE hl
section RSR
variable {p : Program} {l : Launch} {e : Env} {R : Room} {s : State} {m : MethodId} {args : Array Value} {below : List Frame} {meth : Method} {c : Code} {H : Heap} {locs : List Loc} {cc : ByteArray} {pc nL : Nat} {ls : Array Slot} {aK aV : Nat}
theorem rs_ret (hx : p.tables.exec = Jvm.exec) (hb : c.code = cc) {ty : FieldType} (hr : meth.sig.returnType = some ty) (hlk : meth.locks = false) {v : Int32} (hn : narrow ty (.int v) = .int v) (hS : va_S rs_F s.heap H locs) (hd : decode cc pc = .ok (.ireturn, 1)) : W p l e R s m args below meth c H locs 0 0 (MQ below (rs_Q v) args s 0 0 rs_F) (F0 m pc ls [.int v]) :=
  W.zret (v := v) (ty := ty) hx hb hr hn (fun t ht hW => ⟨⟨v, (), rfl, rfl, trivial⟩, hS.F ht⟩) hS.2.2 hd hlk
theorem rs_callV {Q : State → Prop} (hx : p.tables.exec = Jvm.exec) (hb : c.code = cc) (hml : c.maxLocals = nL) {own : String} (hown : s.vm.findClass own = some m.cls) {Ts : List Cond} (hts : ∀ w ∈ Ts, w.before args s = true) (hE : rs_E aK aV rs_F s s.heap) (hS : va_S rs_F s.heap H locs) (hls : ls.size = nL)
    {y : MethodName} {ws ws2 : List Cond} {bytes : ByteArray} {maxL rf rl index n : Nat} {ret : Option FieldType} {v : Int32} {As st stk : List Value} (hM : rs_CI y ws rf rl (.ref aK :: As) aK aV v) (hg : GoodIn Ts (wsV own index "java/lang/String" y ws)) (hw : ws = Cond.code y bytes maxL ret :: ws2) (hds : y.cls = "java/lang/String" ∧ y.cls ≠ "java/lang/invoke/MethodHandle" ∧ y.cls ≠ "java/lang/invoke/VarHandle" ∧ (parseMethodDescriptor y.desc).map (fun d => d.parameters.length) = some n) (hn : As.length = n) (hrm : rf + 1 ≤ R.frames ∧ 8 + (maxL + 11) + rl ≤ R.locals) (hst : stk = As.reverse ++ .ref aK :: st) (hcat : (st.map fun v => v.category).sum ≤ 8) (hd : decode cc pc = .ok (.invokevirtual index, 3))
    (kk : ∀ (H1 : Heap) (locs1 : List Loc), va_S rs_F s.heap H1 locs1 → W p l e R s m args below meth c H1 locs1 0 0 Q (F0 m (pc + 3) ls (.int v :: st))) : W p l e R s m args below meth c H locs 0 0 Q (F0 m pc ls stk) := by
  subst hst
  have hE1 := hE.kept hS.2.1
  obtain ⟨cell, g1, g2, g3, -⟩ := hE1.2.2.1
  refine va_calli (va_runV (As := As) (rest := st) ⟨hx, hb, hml, hown, hts⟩ (hM l) (cwV n hts hg hw rfl rfl hds hrm) ⟨fun a U g mk q => ⟨q.1, rs_E.moved (u := U) (U := U.calling g mk a) (Vm.Alike.refl U.vm) q.2⟩, ⟨cell, g1, g2, g3⟩, fun U hU hW => ⟨rfl, by show rs_E aK aV rs_F U U.heap; rw [hU]; exact hE1.moved hW.alike⟩⟩ rfl hn hls rfl (lv_room hcat) hd ⟨Nat.zero_le _, Nat.zero_le _⟩) hS (fun q _ h => h) (fun q h => h) (fun r u t H1 locs1 ht hvm hpost hB hz hk1 hS => ?_)
  have e : r = v := hpost
  subst e
  exact kk H1 locs1 hS
theorem rs_callS {Q : State → Prop} (hx : p.tables.exec = Jvm.exec) (hb : c.code = cc) (hml : c.maxLocals = nL) {own : String} (hown : s.vm.findClass own = some m.cls) {Ts : List Cond} (hts : ∀ w ∈ Ts, w.before args s = true) (hE : rs_E aK aV rs_F s s.heap) (hS : va_S rs_F s.heap H locs) (hls : ls.size = nL)
    {y : MethodName} {ws ws2 : List Cond} {bytes : ByteArray} {maxL rf rl index n : Nat} {ret : Option FieldType} {v : Int32} {As st stk : List Value} (hM : rs_CI y ws rf rl As aK aV v) (hg : GoodIn Ts (va_wsS own index y ws)) (hw : ws = Cond.code y bytes maxL ret :: ws2) (hds : y.cls ≠ "java/lang/invoke/MethodHandle" ∧ y.cls ≠ "java/lang/invoke/VarHandle" ∧ (parseMethodDescriptor y.desc).map (fun d => d.parameters.length) = some n) (hn : As.length = n) (hrm : rf + 1 ≤ R.frames ∧ 8 + (maxL + 11) + rl ≤ R.locals) (hst : stk = As.reverse ++ st) (hcat : (st.map fun v => v.category).sum ≤ 8) (hd : decode cc pc = .ok (.invokestatic index, 3))
    (kk : ∀ (H1 : Heap) (locs1 : List Loc), va_S rs_F s.heap H1 locs1 → W p l e R s m args below meth c H1 locs1 0 0 Q (F0 m (pc + 3) ls (.int v :: st))) : W p l e R s m args below meth c H locs 0 0 Q (F0 m pc ls stk) := by
  subst hst
  have hE1 := hE.kept hS.2.1
  refine va_calli (va_runS (As := As) (rest := st) ⟨hx, hb, hml, hown, hts⟩ (hM l) (va_cwS n hts hg hw rfl rfl hds hrm) ⟨fun a U g mk q => ⟨q.1, rs_E.moved (u := U) (U := U.calling g mk a) (Vm.Alike.refl U.vm) q.2⟩, fun U hU hW => ⟨rfl, by show rs_E aK aV rs_F U U.heap; rw [hU]; exact hE1.moved hW.alike⟩⟩ rfl hn hls rfl (lv_room hcat) hd ⟨Nat.zero_le _, Nat.zero_le _⟩) hS (fun q _ h => h) (fun q h => h) (fun r u t H1 locs1 ht hvm hpost hB hz hk1 hS => ?_)
  have e : r = v := hpost
  subst e
  exact kk H1 locs1 hS
end RSR
theorem mJ0_coder (aK aV : Nat) : rs_CI yJ0_coder_7d493 wsJ0_coder_7d493 0 0 [.ref aK] aK aV 0 := by
  refine rs_metI (cc := cJ0_coder_7d493) (maxL := 1) (ty := .byte) (by decide +kernel) rfl rfl (Nat.le_of_ble_eq_true rfl) rfl (fun p l e s m args below meth c ls hx hb hml hown hts hr hlk hE hl => ?_)
  have hS : va_S rs_F s.heap s.heap [] := va_S.rf
  refine va_gets hx hb hE.1 hS hown (hts (.fieldLink RJ0 38 "java/lang/String" "COMPACT_STRINGS" "Z") (by decide +kernel)) (fun _ h9 => h9) dJ0_coder_7d493_0 ?_
  refine lv_if_eq (tgt := 13) hx hb dJ0_coder_7d493_3 (by decide) (fun q => absurd q (by decide)) (fun _ => ?_)
  refine lv_aload_n hx hb dJ0_coder_7d493_6 rfl (lv_at hl 0 rfl) ?_
  refine vk_getf hx hb hE.2.2.2.1 hS hown (hts (.fieldLink RJ0 15 "java/lang/String" "coder" "B") (by decide +kernel)) (fun _ h9 => h9) dJ0_coder_7d493_7 ?_
  refine lv_goto (tgt := 14) hx hb dJ0_coder_7d493_10 (by decide) ?_
  exact rs_ret hx hb hr hlk (by decide +kernel) hS dJ0_coder_7d493_14
theorem mJ0_isLatin1 (aK aV : Nat) : rs_CI yJ0_isLatin1_aae02 wsJ0_isLatin1_aae02 0 0 [.ref aK] aK aV 1 := by
  refine rs_metI (cc := cJ0_isLatin1_aae02) (maxL := 1) (ty := .boolean) (by decide +kernel) rfl rfl (Nat.le_of_ble_eq_true rfl) rfl (fun p l e s m args below meth c ls hx hb hml hown hts hr hlk hE hl => ?_)
  have hS : va_S rs_F s.heap s.heap [] := va_S.rf
  refine va_gets hx hb hE.1 hS hown (hts (.fieldLink RJ0 38 "java/lang/String" "COMPACT_STRINGS" "Z") (by decide +kernel)) (fun _ h9 => h9) dJ0_isLatin1_aae02_0 ?_
  refine lv_if_eq (tgt := 17) hx hb dJ0_isLatin1_aae02_3 (by decide) (fun q => absurd q (by decide)) (fun _ => ?_)
  refine lv_aload_n hx hb dJ0_isLatin1_aae02_6 rfl (lv_at hl 0 rfl) ?_
  refine vk_getf hx hb hE.2.2.2.1 hS hown (hts (.fieldLink RJ0 15 "java/lang/String" "coder" "B") (by decide +kernel)) (fun _ h9 => h9) dJ0_isLatin1_aae02_7 ?_
  refine lv_if_ne (tgt := 17) hx hb dJ0_isLatin1_aae02_10 (by decide) (fun q => absurd rfl q) (fun _ => ?_)
  refine lv_iconst (v := 1) hx hb dJ0_isLatin1_aae02_13 (by decide) ?_
  refine lv_goto (tgt := 18) hx hb dJ0_isLatin1_aae02_14 (by decide) ?_
  exact rs_ret hx hb hr hlk (by decide +kernel) hS dJ0_isLatin1_aae02_18
theorem mJ0_length (aK aV : Nat) : rs_CI yJ0_length_8abf5 wsJ0_length_8abf5 1 20 [.ref aK] aK aV (nI 96) := by
  refine rs_metI (cc := cJ0_length_8abf5) (maxL := 1) (ty := .int) (by decide +kernel) rfl rfl (Nat.le_of_ble_eq_true rfl) rfl (fun p l e s m args below meth c ls hx hb hml hown hts hr hlk hE hl => ?_)
  have hS : va_S rs_F s.heap s.heap [] := va_S.rf
  refine lv_aload_n hx hb dJ0_length_8abf5_0 rfl (lv_at hl 0 rfl) ?_
  refine vk_getf hx hb hE.2.2.2.2.1 hS hown (hts (.fieldLink RJ0 9 "java/lang/String" "value" "[B") (by decide +kernel)) (fun _ h9 => h9) dJ0_length_8abf5_1 ?_
  refine va_tlen (v := nI 96) hx hb hE.2.2.2.2.2 hS rfl dJ0_length_8abf5_4 ?_
  refine lv_aload_n hx hb dJ0_length_8abf5_5 rfl (lv_at hl 0 rfl) ?_
  refine rs_callV (n := 0) (st := [.int (nI 96)]) (As := []) hx hb hml hown hts hE hS hl.1 (mJ0_coder aK aV) gJ0_length_8abf5_J0_coder_7d493 rfl (by decide +kernel) rfl ⟨Nat.le_of_ble_eq_true rfl, Nat.le_of_ble_eq_true rfl⟩ rfl (Nat.le_of_ble_eq_true rfl) dJ0_length_8abf5_6 (fun H1 locs1 hS => ?_)
  refine lv_ishr hx hb dJ0_length_8abf5_9 ?_
  have e : nI 96 >>> ((0 : Int32) &&& 31) = nI 96 := by decide
  rw [e]
  exact rs_ret hx hb hr hlk rfl hS dJ0_length_8abf5_10
theorem mJ3_checkIndex (aK aV : Nat) {k : Nat} (hk : k < 96) (v : Value) (hv : v = .null ∨ ∃ t, v = .ref t) : rs_CI yJ3_checkIndex_8e157 wsJ3_checkIndex_8e157 0 0 [.int (nI k), .int (nI 96), v] aK aV (nI k) := by
  have core : ∀ (p : Program) (l : Launch) (e : Env) (s : State) (m : MethodId) (args : Array Value) (below : List Frame) (meth : Method) (c : Code) (ls : Array Slot), p.tables.exec = Jvm.exec → c.code = cJ3_checkIndex_8e157 → meth.sig.returnType = some .int → meth.locks = false → lv_has ls 3 [(0, .int (nI k)), (1, .int (nI 96)), (2, v)] →
      W p l e (rs_rm 0 0) s m args below meth c s.heap [] 0 0 (MQ below (rs_Q (nI k)) args s 0 0 rs_F) (F0 m 0 ls []) := by
    intro p l e s m args below meth c ls hx hb hr hlk hl
    have hS : va_S rs_F s.heap s.heap [] := va_S.rf
    refine lv_iload_n hx hb dJ3_checkIndex_8e157_0 rfl (lv_at hl 0 rfl) ?_
    refine lv_if_lt (tgt := 9) hx hb dJ3_checkIndex_8e157_1 (by decide) (fun q => absurd q (nI_pos (by omega))) (fun _ => ?_)
    refine lv_iload_n hx hb dJ3_checkIndex_8e157_4 rfl (lv_at hl 0 rfl) ?_
    refine lv_iload_n hx hb dJ3_checkIndex_8e157_5 rfl (lv_at hl 1 rfl) ?_
    refine lv_icmp_lt (tgt := 16) hx hb dJ3_checkIndex_8e157_6 (by decide) (fun _ => ?_) (fun q => absurd (nI_lt hk (by omega)) q)
    refine lv_iload_n hx hb dJ3_checkIndex_8e157_16 rfl (lv_at hl 0 rfl) ?_
    exact rs_ret hx hb hr hlk rfl hS dJ3_checkIndex_8e157_17
  rcases hv with rfl | ⟨t, rfl⟩
  · exact rs_metI (cc := cJ3_checkIndex_8e157) (maxL := 3) (ty := .int) (own := RJ3) (by decide +kernel) rfl rfl (Nat.le_of_ble_eq_true rfl) rfl (fun p l e s m args below meth c ls hx hb hml hown hts hr hlk hE hl => core p l e s m args below meth c ls hx hb hr hlk hl)
  · exact rs_metI (cc := cJ3_checkIndex_8e157) (maxL := 3) (ty := .int) (own := RJ3) (by decide +kernel) rfl rfl (Nat.le_of_ble_eq_true rfl) rfl (fun p l e s m args below meth c ls hx hb hml hown hts hr hlk hE hl => core p l e s m args below meth c ls hx hb hr hlk hl)
/-- String.checkIndex: void -/
def rs_CV (y : MethodName) (ws : List Cond) (rf rl : Nat) (As : List Value) (aK aV : Nat) : Prop := ∀ l : Launch, Met l y ws (rs_rm rf rl) (va_Pc As (fun U => rs_E aK aV rs_F U U.heap)) (va_Qv (fun (_ : Unit) => True) (fun _ _ => True) rs_F) 0 0 rs_F
theorem mJ0_checkIndex (aK aV : Nat) {k : Nat} (hk : k < 96) : rs_CV yJ0_checkIndex_df160 wsJ0_checkIndex_df160 1 22 [.int (nI k), .int (nI 96)] aK aV := by
  intro l
  refine Met.ofW (cc := cJ0_checkIndex_df160) (maxL := 2) (ret := none) (by decide +kernel) rfl ?_
  intro p e s m args below meth c s₁ B hml hv
  obtain ⟨rfl, hE⟩ := hv
  have hts := atoms_spec (ws := wsJ0_checkIndex_df160) B.pre
  have hown : s.vm.findClass RJ0 = some m.cls := findClass_of_methodNamed B.named
  have hx := B.exec
  have hb := B.bytes
  rw [lg_entry_eq]
  have hl := lv_entry [.int (nI k), .int (nI 96)] (n := 2) (Nat.le_of_ble_eq_true rfl)
  generalize (lg_sl ([.int (nI k), .int (nI 96)]) ++ List.replicate (2 - (lg_sl ([.int (nI k), .int (nI 96)])).length) Slot.unset).toArray = ls at hl ⊢
  have hl : lv_has ls 2 [(0, .int (nI k)), (1, .int (nI 96))] := hl
  have hS : va_S rs_F s.heap s.heap [] := va_S.rf
  obtain ⟨v, hv, hZ⟩ : ∃ v : Value, (v = .null ∨ ∃ t, v = .ref t) ∧ va_Z "jdk/internal/util/Preconditions" "SIOOBE_FORMATTER" "Ljava/util/function/BiFunction;" v rs_F s s.heap := by
    rcases hE.2.1 with h | ⟨t, h⟩
    · exact ⟨.null, Or.inl rfl, h⟩
    · exact ⟨.ref t, Or.inr ⟨t, rfl⟩, h⟩
  refine lv_iload_n hx hb dJ0_checkIndex_df160_0 rfl (lv_at hl 0 rfl) ?_
  refine lv_iload_n hx hb dJ0_checkIndex_df160_1 rfl (lv_at hl 1 rfl) ?_
  refine va_gets hx hb hZ hS hown (hts (.fieldLink RJ0 1053 "jdk/internal/util/Preconditions" "SIOOBE_FORMATTER" "Ljava/util/function/BiFunction;") (by decide +kernel)) (fun _ h9 => h9) dJ0_checkIndex_df160_2 ?_
  refine rs_callS (n := 3) (st := []) (As := [.int (nI k), .int (nI 96), v]) hx hb hml hown hts hE hS hl.1 (mJ3_checkIndex aK aV hk v hv) gJ0_checkIndex_df160_J3_checkIndex_8e157 rfl (by decide +kernel) rfl ⟨Nat.le_of_ble_eq_true rfl, Nat.le_of_ble_eq_true rfl⟩ rfl (Nat.le_of_ble_eq_true rfl) dJ0_checkIndex_df160_5 (fun H1 locs1 hS => ?_)
  refine lv_pop hx hb dJ0_checkIndex_df160_8 rfl ?_
  exact W.vret hx hb B.returns (fun t ht hW => ⟨⟨(), rfl, trivial, trivial⟩, hS.F ht⟩) hS.2.2 dJ0_checkIndex_df160_9 B.notSynchronized
theorem mJ1_charAt (aK aV : Nat) {k : Nat} (hk : k < 96) : rs_CI yJ1_charAt_3b067 wsJ1_charAt_3b067 2 43 [.ref aV, .int (nI k)] aK aV (nI (ftx k)) := by
  refine rs_metI (cc := cJ1_charAt_3b067) (maxL := 2) (ty := .char) (own := RJ1) (by decide +kernel) rfl rfl (Nat.le_of_ble_eq_true rfl) rfl (fun p l e s m args below meth c ls hx hb hml hown hts hr hlk hE hl => ?_)
  have hS : va_S rs_F s.heap s.heap [] := va_S.rf
  refine lv_iload_n hx hb dJ1_charAt_3b067_0 rfl (lv_at hl 1 rfl) ?_
  refine lv_aload_n hx hb dJ1_charAt_3b067_1 rfl (lv_at hl 0 rfl) ?_
  refine va_tlen (v := nI 96) hx hb hE.2.2.2.2.2 hS rfl dJ1_charAt_3b067_2 ?_
  refine va_callv (va_runS (As := [.int (nI k), .int (nI 96)]) (rest := []) ⟨hx, hb, hml, hown, hts⟩ (mJ0_checkIndex aK aV hk l) (va_cwS 2 hts gJ1_charAt_3b067_J0_checkIndex_df160 rfl rfl rfl (by decide +kernel) ⟨Nat.le_of_ble_eq_true rfl, Nat.le_of_ble_eq_true rfl⟩) ⟨fun a U g mk q => ⟨q.1, rs_E.moved (u := U) (U := U.calling g mk a) (Vm.Alike.refl U.vm) q.2⟩, fun U hU hW => ⟨rfl, by show rs_E aK aV rs_F U U.heap; rw [hU]; exact hE.moved hW.alike⟩⟩ rfl rfl hl.1 rfl (lv_room (Nat.le_of_ble_eq_true rfl)) dJ1_charAt_3b067_3 ⟨Nat.zero_le _, Nat.zero_le _⟩) hS (fun q _ h => h) (fun q h => h) (fun u t H1 locs1 ht hvm hpost hB hz hk1 hS => ?_)
  refine lv_aload_n hx hb dJ1_charAt_3b067_6 rfl (lv_at hl 0 rfl) ?_
  refine lv_iload_n hx hb dJ1_charAt_3b067_7 rfl (lv_at hl 1 rfl) ?_
  refine va_tb (v := .int (sB.getD k 0)) hx hb hE.2.2.2.2.2 hS (vp_in_nI hk (by omega)) (by show Value.int (sB.getD (nI k).toNatClampNeg 0) = _; rw [nI_clamp (by omega)]) dJ1_charAt_3b067_8 ?_
  refine lv_sipush (v := 255) hx hb dJ1_charAt_3b067_9 (by decide) ?_
  refine lv_iand hx hb dJ1_charAt_3b067_12 ?_
  refine lv_i2c (v := nI (ftx k)) hx hb dJ1_charAt_3b067_13 (sB_chr k hk).1 ?_
  exact rs_ret hx hb hr hlk (sB_chr k hk).2 hS dJ1_charAt_3b067_14
theorem mJ0_charAt (aK aV : Nat) {k : Nat} (hk : k < 96) : rs_CI yJ0_charAt_5068e wsJ0_charAt_5068e 3 64 [.ref aK, .int (nI k)] aK aV (nI (ftx k)) := by
  refine rs_metI (cc := cJ0_charAt_5068e) (maxL := 2) (ty := .char) (own := RJ0) (by decide +kernel) rfl rfl (Nat.le_of_ble_eq_true rfl) rfl (fun p l e s m args below meth c ls hx hb hml hown hts hr hlk hE hl => ?_)
  have hS : va_S rs_F s.heap s.heap [] := va_S.rf
  refine lv_aload_n hx hb dJ0_charAt_5068e_0 rfl (lv_at hl 0 rfl) ?_
  refine rs_callV (n := 0) (st := []) (As := []) hx hb hml hown hts hE hS hl.1 (mJ0_isLatin1 aK aV) gJ0_charAt_5068e_J0_isLatin1_aae02 rfl (by decide +kernel) rfl ⟨Nat.le_of_ble_eq_true rfl, Nat.le_of_ble_eq_true rfl⟩ rfl (Nat.le_of_ble_eq_true rfl) dJ0_charAt_5068e_1 (fun H1 locs1 hS => ?_)
  refine lv_if_eq (tgt := 16) hx hb dJ0_charAt_5068e_4 (by decide) (fun q => absurd q (by decide)) (fun _ => ?_)
  refine lv_aload_n hx hb dJ0_charAt_5068e_7 rfl (lv_at hl 0 rfl) ?_
  refine vk_getf hx hb hE.2.2.2.2.1 hS hown (hts (.fieldLink RJ0 9 "java/lang/String" "value" "[B") (by decide +kernel)) (fun _ h9 => h9) dJ0_charAt_5068e_8 ?_
  refine lv_iload_n hx hb dJ0_charAt_5068e_11 rfl (lv_at hl 1 rfl) ?_
  refine rs_callS (n := 2) (st := []) (As := [.ref aV, .int (nI k)]) hx hb hml hown hts hE hS hl.1 (mJ1_charAt aK aV hk) gJ0_charAt_5068e_J1_charAt_3b067 rfl (by decide +kernel) rfl ⟨Nat.le_of_ble_eq_true rfl, Nat.le_of_ble_eq_true rfl⟩ rfl (Nat.le_of_ble_eq_true rfl) dJ0_charAt_5068e_12 (fun H1 locs1 hS => ?_)
  exact rs_ret hx hb hr hlk (sB_chr k hk).2 hS dJ0_charAt_5068e_15
