/-! ===== cells of the layout do not look beyond what they point to ===== -/
def rb_x (cy : rm_Y) (ph : Nat → Nat) (q : Nat) : Nat × va_E := (ph q, rm_e cy ph q (fun _ => 0) (fun _ => 0) (fun _ => 0))
theorem rb_w_eq (cy : rm_Y) (ph : Nat → Nat) (qs : List Nat) : rb_w cy ph qs = qs.map (rb_x cy ph) := rfl
def rb_do (n q : Nat) : List Nat := match n with
  | 0 => [q + 1, q + 2, q + 3]
  | 1 => [q + 1, q + 8, q + 15, q + 16, q + 17, q + 18]
  | 2 => [q + 1]
  | 3 => [q + 1]
  | 4 => [q + 1, q + 2]
  | 5 => [q + 1, q + 2]
  | 6 => [q + 1]
  | _ => []
def rb_dp (q : Nat) : List Nat := if (rm_kd q).1 = 11 then (List.range (rm_kd q).2).map (fun k => q + 56 + 3 * k) else if (rm_kd q).1 = 12 then (List.range (rm_kd q).2).map (fun k => q + 1 + k) else rb_do (rm_kd q).1 q
theorem rm_O_cong {ph ph' : Nat → Nat} {q : Nat} {i : Nat → Int32} {j : Nat → Int64} {r : Nat → Nat} : ∀ n, n ≠ 7 → n ≠ 8 → (∀ d ∈ rb_do n q, ph d = ph' d) → rm_O ph q i j r n = rm_O ph' q i j r n
  | 0, _, _, h => by simp only [rm_O]; rw [h (q + 1) (by simp [rb_do]), h (q + 2) (by simp [rb_do]), h (q + 3) (by simp [rb_do])]
  | 1, _, _, h => by simp only [rm_O]; rw [h (q + 1) (by simp [rb_do]), h (q + 8) (by simp [rb_do]), h (q + 15) (by simp [rb_do]), h (q + 16) (by simp [rb_do]), h (q + 17) (by simp [rb_do]), h (q + 18) (by simp [rb_do])]
  | 2, _, _, h => by simp only [rm_O]; rw [h (q + 1) (by simp [rb_do])]
  | 3, _, _, h => by simp only [rm_O]; rw [h (q + 1) (by simp [rb_do])]
  | 4, _, _, h => by simp only [rm_O]; rw [h (q + 1) (by simp [rb_do]), h (q + 2) (by simp [rb_do])]
  | 5, _, _, h => by simp only [rm_O]; rw [h (q + 1) (by simp [rb_do]), h (q + 2) (by simp [rb_do])]
  | 6, _, _, h => by simp only [rm_O]; rw [h (q + 1) (by simp [rb_do])]
  | 7, h, _, _ => absurd rfl h
  | 8, _, h, _ => absurd rfl h
  | _ + 9, _, _, _ => rfl
theorem rm_e_cong {cy : rm_Y} {ph ph' : Nat → Nat} {q : Nat} {i : Nat → Int32} {j : Nat → Int64} {r : Nat → Nat} (h7 : (rm_kd q).1 ≠ 7) (h8 : (rm_kd q).1 ≠ 8) (h : ∀ d ∈ rb_dp q, ph d = ph' d) : rm_e cy ph q i j r = rm_e cy ph' q i j r := by
  unfold rm_e
  by_cases c9 : (rm_kd q).1 = 9
  · rw [if_pos c9, if_pos c9]
  rw [if_neg c9, if_neg c9]
  by_cases c10 : (rm_kd q).1 = 10
  · rw [if_pos c10, if_pos c10]
  rw [if_neg c10, if_neg c10]
  unfold rb_dp at h
  by_cases c11 : (rm_kd q).1 = 11
  · rw [if_pos c11] at h
    rw [if_pos c11, if_pos c11]
    have hf : (fun k => if k < (rm_kd q).2 then some (ph (q + 56 + 3 * k)) else none) = (fun k => if k < (rm_kd q).2 then some (ph' (q + 56 + 3 * k)) else none) := by
      funext k
      by_cases hk : k < (rm_kd q).2
      · rw [if_pos hk, if_pos hk, h _ (List.mem_map.mpr ⟨k, List.mem_range.mpr hk, rfl⟩)]
      · rw [if_neg hk, if_neg hk]
    rw [hf]
  rw [if_neg c11] at h
  rw [if_neg c11, if_neg c11]
  by_cases c12 : (rm_kd q).1 = 12
  · rw [if_pos c12] at h
    rw [if_pos c12, if_pos c12]
    have hf : (fun k => if k < (rm_kd q).2 then some (ph (q + 1 + k)) else none) = (fun k => if k < (rm_kd q).2 then some (ph' (q + 1 + k)) else none) := by
      funext k
      by_cases hk : k < (rm_kd q).2
      · rw [if_pos hk, if_pos hk, h _ (List.mem_map.mpr ⟨k, List.mem_range.mpr hk, rfl⟩)]
      · rw [if_neg hk, if_neg hk]
    rw [hf]
  rw [if_neg c12] at h
  rw [if_neg c12, if_neg c12, rm_O_cong _ h7 h8 h]
/-- cells that point among themselves -/
def rb_cl (qs : List Nat) : Prop := ∀ q ∈ qs, (rm_kd q).1 ≠ 7 ∧ (rm_kd q).1 ≠ 8 ∧ ∀ d ∈ rb_dp q, d ∈ qs
theorem rb_w_cong {cy : rm_Y} {ph ph' : Nat → Nat} {qs : List Nat} (hc : rb_cl qs) (h : ∀ q ∈ qs, ph q = ph' q) : rb_w cy ph qs = rb_w cy ph' qs := by
  unfold rb_w
  apply List.map_congr_left
  intro q hq
  obtain ⟨h7, h8, hd⟩ := hc q hq
  rw [h q hq, rm_e_cong h7 h8 (fun d hd2 => h d (hd d hd2))]
def rb_mix (qs2 : List Nat) (ph ph2 : Nat → Nat) : Nat → Nat := fun x => if x ∈ qs2 then ph2 x else ph x
theorem rb_mix_in {qs2 : List Nat} {ph ph2 : Nat → Nat} {x : Nat} (h : x ∈ qs2) : rb_mix qs2 ph ph2 x = ph2 x := if_pos h
theorem rb_mix_out {qs2 : List Nat} {ph ph2 : Nat → Nat} {x : Nat} (h : x ∉ qs2) : rb_mix qs2 ph ph2 x = ph x := if_neg h
theorem rb_w_mix {cy : rm_Y} {ph ph2 : Nat → Nat} {qs qs2 : List Nat} (h1 : rb_cl qs) (h2 : rb_cl qs2) (hd : ∀ q ∈ qs, q ∉ qs2) : rb_w cy ph qs ++ rb_w cy ph2 qs2 = rb_w cy (rb_mix qs2 ph ph2) (qs ++ qs2) := by
  rw [rb_w_cong h1 (ph' := rb_mix qs2 ph ph2) (fun q hq => (rb_mix_out (hd q hq)).symm), rb_w_cong h2 (ph' := rb_mix qs2 ph ph2) (fun q hq => (rb_mix_in hq).symm)]
  unfold rb_w
  rw [List.map_append]
theorem rb_join {A : Nat → Prop} {D : va_G} {cl : List vw_C} {ws w1 : va_W} {q : Nat} {e : va_E} {H H1 : Heap} (hP : va_P D cl (ws ++ [(q, e)]) H) (hD : va_D A (ws ++ [(q, e)])) (hk : ∀ x : Nat, x < H.size → ¬ va_A [(q, e)] H.size x → H1[x]? = H[x]?) (hF : ∀ x, va_A [(q, e)] H.size x → A x) (hP1 : va_P D cl w1 H1) (hD1 : va_D (va_A [(q, e)] H.size) w1) : va_P D cl (ws ++ w1) H1 ∧ va_D A (ws ++ w1) := by
  have up : ∀ (k : Nat) (x : Nat × va_E), ws[k]? = some x → (ws ++ [(q, e)])[k]? = some x := fun k x hx => by
    rw [List.getElem?_append_left (List.getElem?_eq_some_iff.mp hx).1]; exact hx
  have apart : ∀ (k : Nat) (x : Nat × va_E), ws[k]? = some x → x.1 < H.size ∧ ¬ va_A [(q, e)] H.size x.1 := by
    intro k x hx
    have hl := (hP k x (up k x hx)).lt
    refine ⟨hl, fun h => ?_⟩
    rcases h with ⟨k2, e2, h⟩ | h
    · have h0 : k2 < 1 := (List.getElem?_eq_some_iff.mp h).1
      rw [show k2 = 0 by omega] at h
      have h3 : q = x.1 := congrArg Prod.fst (Option.some.inj h)
      have h4 := hD.1 k ws.length x (q, e) (up k x hx) (by simp) h3.symm
      have h5 := (List.getElem?_eq_some_iff.mp hx).1
      omega
    · omega
  refine ⟨va_P.app (fun k x hx => (hP k x (up k x hx)).kept (hk x.1 (apart k x hx).1 (apart k x hx).2)) hP1, va_D.app ⟨fun i j a b hi hj => hD.1 i j a b (up i a hi) (up j b hj), fun k x hx => hD.2 k x (up k x hx)⟩ (hD1.weaken (fun k x _ h => hF x.1 h)) (fun i j x y hx hy hxy => (apart i x hx).2 (by rw [hxy]; exact hD1.2 j y hy))⟩
section RBO
variable {G : rb_G} {cc : ByteArray} {own : String} {Ts : List Cond} {nL fr lo rc rs pc : Nat} {lv : List (Nat × Value)} {st : List Value} {ws : va_W} {cells slots : Nat}
/-- new, dup, the constructor's call -/
theorem rb_obj (hG : rb_k G cc own Ts nL fr lo rc rs) {C : String} {T : u_T} {N ci ix iy q0 rf rl mc ms maxL : Nat} {y : MethodName} {wsy ws2 : List Cond} {bytes : ByteArray} {fs : List Value} {qs : List Nat} {ty0 : Nat → FieldType}
    (hM : rb_CI y wsy rf rl mc ms q0 ci fs qs) (hcl : vwCl[ci]? = some (C, T, N)) (hin : ∀ w ∈ u_ws C T N, w ∈ Ts) (hty : ∀ k, k < N → parseFieldDescriptor (T k).2.2.1 = some (ty0 k)) (hfs : ∀ j, j < N → defaultValue (ty0 j) = vp_V fs j) (hw1 : Cond.classLink own ix C ∈ Ts) (hw2 : Cond.instantiable C N ∈ Ts) (hw3 : Cond.initialized C ∈ Ts) (hyc : y.cls = C) (hyn : y.name = "<init>") (hyi : Cond.instanceMethod y ∈ Ts) (hlink : Cond.methodLinkNest own iy y "RingPages" ∈ rb_nw ∨ Cond.methodLink own iy y ∈ Ts) (hgood : GoodIn Ts wsy) (hwy : wsy = Cond.code y bytes maxL none :: ws2) (hds : y.cls ≠ "java/lang/invoke/MethodHandle" ∧ y.cls ≠ "java/lang/invoke/VarHandle" ∧ (parseMethodDescriptor y.desc).map (fun d => d.parameters.length) = some 0) (hrm : rf + 1 ≤ fr ∧ 8 + (maxL + 11) + rl ≤ lo) (hc : cells + 1 + mc ≤ rc) (hs : slots + N + ms ≤ rs) (hcat : (st.map fun v => v.category).sum ≤ 7)
    (d1 : decode cc pc = .ok (.new ix, 3)) (d2 : decode cc (pc + 3) = .ok (.dup, 1)) (d3 : decode cc (pc + 3 + 1) = .ok (.invokespecial iy, 3)) (kk : ∀ ph : Nat → Nat, rb_L G nL (pc + 3 + 1 + 3) lv (.ref (ph q0) :: st) (ws ++ rb_w (rb_cy G) ph qs) (cells + 1 + mc) (slots + N + ms)) : rb_L G nL pc lv st ws cells slots := by
  obtain ⟨p, l, e, R, s, m, args, below, meth, c, Q, cy, D, A⟩ := G
  obtain ⟨hx, hb, hml, hown, hts, hK, hN, hnme, hA, hfr, hlo, hrc, hrs⟩ := hG
  intro ls H locs hl hP hD hS
  refine va_new (ci := ci) (fs := fs) (C := C) (T := T) (N := N) hx hb hts hin ty0 hty hown (hts _ hw1) (hts _ hw2) (hts _ hw3) hK hP hD hS hA hcl hfs (by rw [hrc]; omega) (by rw [hrs]; omega) d1 (fun q H hP hD hS => ?_)
  refine lv_dup hx hb d2 rfl ?_
  have hPc : va_P D vwCl [(q, .inr (ci, fs))] H := fun k x hx2 => by
    have h0 : k < 1 := (List.getElem?_eq_some_iff.mp hx2).1
    rw [show k = 0 by omega] at hx2
    cases hx2
    exact hP ws.length _ (by simp)
  have hFc : ∀ x, va_A [(q, .inr (ci, fs))] H.size x → A x := by
    intro x h
    rcases h with ⟨k, e2, h⟩ | h
    · have h0 : k < 1 := (List.getElem?_eq_some_iff.mp h).1
      rw [show k = 0 by omega] at h
      cases h
      exact hD.2 ws.length (q, .inr (ci, fs)) (by simp)
    · exact hA x (Nat.le_trans hS.1 h)
  have hpre : PreS s H (va_Pc [.ref q] (fun U => U.heap.size = H.size ∧ va_P D vwCl [(q, .inr (ci, fs))] U.heap ∧ va_K D vwCl (rm_ty cy) U ∧ rb_N U)) (.ref q :: []) := ⟨fun a U g mk q => ⟨q.1, q.2.1, q.2.2.1, va_K.moved (u := U) (U := U.calling g mk a) (Vm.Alike.refl U.vm) q.2.2.2.1, rb_N.same (s := U) (U := U.calling g mk a) rfl q.2.2.2.2⟩, fun U hU hW => ⟨rfl, by rw [hU], by rw [hU]; exact hPc, va_K.moved hW.alike hK, rb_N.warm hW hN⟩⟩
  have hrun : va_Run p l e R s m args below meth c H locs (cells + 1) (slots + N) mc ms (F0 m (pc + 3 + 1) ls (.ref q :: .ref q :: st)) (.ref q :: st) (va_Qv (fun ph : Nat → Nat => ph q0 = q) (fun ph t => va_P D vwCl (rb_w cy ph qs) t.heap ∧ va_D (va_A [(q, .inr (ci, fs))] H.size) (rb_w cy ph qs)) (va_A [(q, .inr (ci, fs))] H.size) (Value.ref q :: ([] : List Value)).toArray) (va_A [(q, .inr (ci, fs))] H.size) := by
    have hcat2 : ((Value.ref q :: st).map fun v => v.category).sum ≤ 8 := by
      show 1 + (st.map fun v => v.category).sum ≤ 8
      omega
    rcases hlink with hl2 | hl2
    · exact va_runIN (As := []) (rest := .ref q :: st) ⟨hx, hb, hml, hown, hts⟩ (hM l D cy q H.size) ⟨va_cnB 0 hts hgood hwy rfl rfl (hN.2.1 _ hl2) (by rw [hyc]; exact hts _ hw3) hds ⟨by rw [hfr]; exact hrm.1, by rw [hlo]; exact hrm.2⟩, hyn, hts _ hyi⟩ hpre rfl rfl hl.1 rfl (lv_room hcat2) d3 ⟨by rw [hrc]; omega, by rw [hrs]; omega⟩
    · exact va_runI (As := []) (rest := .ref q :: st) ⟨hx, hb, hml, hown, hts⟩ (hM l D cy q H.size) (cwI 0 hts hgood hwy rfl rfl (by rw [hyc]; exact hts _ hw3) (hts _ hl2) (hts _ hyi) hyn hds ⟨by rw [hfr]; exact hrm.1, by rw [hlo]; exact hrm.2⟩) hpre rfl rfl hl.1 rfl (lv_room hcat2) d3 ⟨by rw [hrc]; omega, by rw [hrs]; omega⟩
  refine va_callv hrun hS (fun x _ h => hFc x h) hFc (fun ph t H1 locs1 ht hvm hpost hB hz hk1 hS => ?_)
  obtain ⟨hP1, hD1⟩ := hB
  rw [ht] at hP1
  obtain ⟨hP, hD⟩ := rb_join hP hD hk1 hFc hP1 hD1
  have hpost : ph q0 = q := hpost
  have hk := kk ph ls H1 locs1 hl hP hD hS
  rw [hpost] at hk
  exact hk
/-- this.f = new int[n] -/
theorem rb_fI (hG : rb_k G cc own Ts nL fr lo rc rs) {C : String} {T : u_T} {N ix n len h : Nat} {fs : List Value} {X : va_W} {ty0 : Nat → FieldType} (ci k : Nat) (d0 : decode cc pc = .ok (.aload_n 0, 1)) (hp : rb_ps cc (pc + 1) len (nI n)) (d2 : decode cc (pc + 1 + len) = .ok (.newarray .int, 2)) (d3 : decode cc (pc + 1 + len + 2) = .ok (.putfield ix, 3)) (hn : n < 1000) (hw : Cond.arrayClass .int ∈ Ts) (hcl : vwCl[ci]? = some (C, T, N)) (hin : ∀ w ∈ u_ws C T N, w ∈ Ts) (hty : ∀ k, k < N → parseFieldDescriptor (T k).2.2.1 = some (ty0 k)) (hnm : ∀ a, a < N → ∀ b, b < N → a ≠ b → (T a).2.1 ≠ (T b).2.1) (hk : k < N) (hwf : Cond.fieldLink own ix own (T k).2.1 (T k).2.2.1 ∈ Ts) (hr : (T k).1 = own) (hpd : ty0 k = .array .int) (hlen : k < fs.length) (hc : cells + 1 ≤ rc) (hs : slots + n ≤ rs)
    (kk : ∀ q, rb_L G nL (pc + 1 + len + 2 + 3) [(0, .ref h)] [] ((h, .inr (ci, fs.set k (.ref q))) :: (X ++ [(q, .inl ((rb_cy G).1, n, .inl (fun _ => 0)))])) (cells + 1) (slots + n)) : rb_L G nL pc [(0, .ref h)] [] ((h, .inr (ci, fs)) :: X) cells slots := by
  refine rb_aload hG 0 d0 rfl rfl ?_
  refine rb_push hG hp ?_
  refine rb_newI hG hn hw d2 hc hs (fun q => ?_)
  refine rb_put hG (h := h) (fs := fs) 0 ci k rfl hcl hin hty hnm hk hwf hr hpd rfl rfl hlen d3 ?_
  exact kk q
/-- this.f = new long[n] -/
theorem rb_fJ (hG : rb_k G cc own Ts nL fr lo rc rs) {C : String} {T : u_T} {N ix n len h : Nat} {fs : List Value} {X : va_W} {ty0 : Nat → FieldType} (ci k : Nat) (d0 : decode cc pc = .ok (.aload_n 0, 1)) (hp : rb_ps cc (pc + 1) len (nI n)) (d2 : decode cc (pc + 1 + len) = .ok (.newarray .long, 2)) (d3 : decode cc (pc + 1 + len + 2) = .ok (.putfield ix, 3)) (hn : n < 1000) (hw : Cond.arrayClass .long ∈ Ts) (hcl : vwCl[ci]? = some (C, T, N)) (hin : ∀ w ∈ u_ws C T N, w ∈ Ts) (hty : ∀ k, k < N → parseFieldDescriptor (T k).2.2.1 = some (ty0 k)) (hnm : ∀ a, a < N → ∀ b, b < N → a ≠ b → (T a).2.1 ≠ (T b).2.1) (hk : k < N) (hwf : Cond.fieldLink own ix own (T k).2.1 (T k).2.2.1 ∈ Ts) (hr : (T k).1 = own) (hpd : ty0 k = .array .long) (hlen : k < fs.length) (hc : cells + 1 ≤ rc) (hs : slots + n ≤ rs)
    (kk : ∀ q, rb_L G nL (pc + 1 + len + 2 + 3) [(0, .ref h)] [] ((h, .inr (ci, fs.set k (.ref q))) :: (X ++ [(q, .inl ((rb_cy G).2.1, n, .inr (.inl (fun _ => 0))))])) (cells + 1) (slots + n)) : rb_L G nL pc [(0, .ref h)] [] ((h, .inr (ci, fs)) :: X) cells slots := by
  refine rb_aload hG 0 d0 rfl rfl ?_
  refine rb_push hG hp ?_
  refine rb_newJ hG hn hw d2 hc hs (fun q => ?_)
  refine rb_put hG (h := h) (fs := fs) 0 ci k rfl hcl hin hty hnm hk hwf hr hpd rfl rfl hlen d3 ?_
  exact kk q
/-- this.f = new int[6][6] -/
theorem rb_fM (hG : rb_k G cc own Ts nL fr lo rc rs) {C : String} {T : u_T} {N ix iz len h : Nat} {fs : List Value} {X : va_W} {ty0 : Nat → FieldType} (ci k : Nat) (d0 : decode cc pc = .ok (.aload_n 0, 1)) (hp : rb_ps cc (pc + 1) len (nI 6)) (hp2 : rb_ps cc (pc + 1 + len) len (nI 6)) (d2 : decode cc (pc + 1 + len + len) = .ok (.multianewarray iz 2, 4)) (d3 : decode cc (pc + 1 + len + len + 4) = .ok (.putfield ix, 3)) (hw0 : Cond.classLink own iz "[[I" ∈ Ts) (hw : Cond.arrayClass .int ∈ Ts) (hcl : vwCl[ci]? = some (C, T, N)) (hin : ∀ w ∈ u_ws C T N, w ∈ Ts) (hty : ∀ k, k < N → parseFieldDescriptor (T k).2.2.1 = some (ty0 k)) (hnm : ∀ a, a < N → ∀ b, b < N → a ≠ b → (T a).2.1 ≠ (T b).2.1) (hk : k < N) (hwf : Cond.fieldLink own ix own (T k).2.1 (T k).2.2.1 ∈ Ts) (hr : (T k).1 = own) (hpd : ty0 k = .array (.array .int)) (hlen : k < fs.length) (hc : cells + 7 ≤ rc) (hs : slots + 42 ≤ rs)
    (kk : ∀ (q : Nat) (r : Nat → Nat), rb_L G nL (pc + 1 + len + len + 4 + 3) [(0, .ref h)] [] ((h, .inr (ci, fs.set k (.ref q))) :: ((X ++ [(q, .inl ((rb_cy G).2.2.2, 6, .inr (.inr (.inr (.inr (fun i => if i < 6 then some (r i) else none))))))]) ++ (List.range 6).map (fun i => (r i, .inl ((rb_cy G).1, 6, .inl (fun _ => 0)))))) (cells + 7) (slots + 42)) : rb_L G nL pc [(0, .ref h)] [] ((h, .inr (ci, fs)) :: X) cells slots := by
  refine rb_aload hG 0 d0 rfl rfl ?_
  refine rb_push hG hp ?_
  refine rb_push hG hp2 ?_
  refine rb_newM hG hw0 hw d2 hc hs (fun q r => ?_)
  refine rb_put hG (h := h) (fs := fs) 0 ci k rfl hcl hin hty hnm hk hwf hr hpd rfl rfl hlen d3 ?_
  exact kk q r
end RBO
