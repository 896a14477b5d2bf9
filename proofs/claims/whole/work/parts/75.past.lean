/-! ===== Past(): an array and six States ===== -/
section RBQ
variable {G : rb_G} {cc : ByteArray} {own : String} {Ts : List Cond} {nL fr lo rc rs pc : Nat} {lv : List (Nat × Value)} {st : List Value} {ws : va_W} {cells slots : Nat}
theorem rb_get (hG : rb_k G cc own Ts nL fr lo rc rs) {C : String} {T : u_T} {N ix h : Nat} {fs : List Value} {v : Value} (q0 ci k : Nat) (he : ws[q0]? = some (h, .inr (ci, fs))) (hcl : vwCl[ci]? = some (C, T, N)) (hin : ∀ w ∈ u_ws C T N, w ∈ Ts) (hk : k < N) (hw : Cond.fieldLink own ix own (T k).2.1 (T k).2.2.1 ∈ Ts) (hr : (T k).1 = own) (hv : fs[k]? = some v) (hd : decode cc pc = .ok (.getfield ix, 3)) (kk : rb_L G nL (pc + 3) lv (v :: st) ws cells slots) : rb_L G nL pc lv (.ref h :: st) ws cells slots := by
  obtain ⟨p, l, e, R, s, m, args, below, meth, c, Q, cy, D, A⟩ := G
  obtain ⟨hx, hb, hml, hown, hts, hK, hN, hnme, hA, hfr, hlo, hrc, hrs⟩ := hG
  intro ls H locs hl hP hD hS
  have hsame : ∀ x, s.fieldFound? (T k).1 (T k).2.1 (T k).2.2.1 = some x → s.fieldFound? own (T k).2.1 (T k).2.2.1 = some x := by rw [hr]; exact fun _ h9 => h9
  exact va_get (D := D) hx hb hts hin hown hK hP q0 he hcl k hk (hts _ hw) hsame hv hd (kk ls H locs hl hP hD hS)
theorem rb_aast (hG : rb_k G cc own Ts nL fr lo rc rs) {a n v i : Nat} {f : Nat → Option Nat} {vs : List Value} (q0 qk : Nat) (ha : ws[q0]? = some (a, .inl ((rb_cy G).2.2.1, n, .inr (.inr (.inr (.inr f)))))) (hv : ws[qk]? = some (v, .inr (4, vs))) (hi : i < n) (hn : n < 1000) (hd : decode cc pc = .ok (.aastore, 1)) (kk : rb_L G nL (pc + 1) lv st (ws.set q0 (a, .inl ((rb_cy G).2.2.1, n, .inr (.inr (.inr (.inr (va_up f i (some v)))))))) cells slots) : rb_L G nL pc lv (.ref v :: .int (nI i) :: .ref a :: st) ws cells slots := by
  obtain ⟨p, l, e, R, s, m, args, below, meth, c, Q, cy, D, A⟩ := G
  obtain ⟨hx, hb, hml, hown, hts, hK, hN, hnme, hA, hfr, hlo, hrc, hrs⟩ := hG
  intro ls H locs hl hP hD hS
  have hcl : (nI i).toNatClampNeg = i := nI_clamp (by omega)
  refine va_astq (D := D) hx hb hK hP hD hS q0 2 qk 4 (r := (RX4, TX4, 10)) ha rfl hv rfl (vp_in_nI hi (by omega)) hd (fun H locs hP hD hS => ?_)
  rw [hcl] at hP hD
  exact kk ls H locs hl hP hD hS
end RBQ
def rb_pf (ph : Nat → Nat) (i : Nat) : Nat → Option Nat := fun k => if k < i then some (ph (5 + 56 + 3 * k)) else none
def rb_pw (cy : rm_Y) (h a : Nat) (ph : Nat → Nat) (i : Nat) (qs : List Nat) : va_W := (h, .inr (2, [.ref a, .int 0, .int 0])) :: (a, .inl (cy.2.2.1, 6, .inr (.inr (.inr (.inr (rb_pf ph i)))))) :: rb_w cy ph qs
theorem rb_pf_up {ph ph2 : Nat → Nat} {i : Nat} {qs2 : List Nat} (hq : 61 + 3 * i ∈ qs2) (hroot : ∀ k, k < i → 61 + 3 * k ∉ qs2) : va_up (rb_pf ph i) i (some (ph2 (61 + 3 * i))) = rb_pf (rb_mix qs2 ph ph2) (i + 1) := by
  funext k
  unfold va_up rb_pf
  by_cases c : k = i
  · subst c
    rw [if_pos rfl, if_pos (by omega), show 5 + 56 + 3 * k = 61 + 3 * k by omega, rb_mix_in hq]
  · rw [if_neg c]
    by_cases c2 : k < i
    · rw [if_pos c2, if_pos (by omega), show 5 + 56 + 3 * k = 61 + 3 * k by omega, rb_mix_out (hroot k c2)]
    · rw [if_neg c2, if_neg (by omega)]
theorem tX2_init_X4 : ∀ w ∈ u_ws RX4 TX4 10, w ∈ wsX2_init := by decide +kernel
theorem dvX4 : ∀ j, j < 10 → defaultValue (tyX4 j) = vp_V [.null, .null, .int 0, .int 0, .int 0, .int 0, .int 0, .int 0, .int 0, .int 0] j := by decide +kernel
theorem rb_past {G : rb_G} {mc ms : Nat} (hG : rb_k G cX2_init RX2 wsX2_init 2 2 40 mc ms) {i h a cells slots : Nat} {ph : Nat → Nat} {qs qs2 : List Nat} (hi : i < 6) (hq2 : qs2 = [61 + 3 * i, 61 + 3 * i + 1, 61 + 3 * i + 2]) (hkd : rm_kd (61 + 3 * i) = (4, 0)) (h1 : rb_cl qs) (h2 : rb_cl qs2) (hdis : ∀ q ∈ qs, q ∉ qs2) (hc : cells + 1 + 2 ≤ mc) (hs : slots + 10 + 12 ≤ ms)
    (kk : ∀ ph', rb_L G 2 15 [(1, .int (nI (i + 1))), (0, .ref h)] [] (rb_pw (rb_cy G) h a ph' (i + 1) (qs ++ qs2)) (cells + 1 + 2) (slots + 10 + 12)) : rb_L G 2 15 [(1, .int (nI i)), (0, .ref h)] [] (rb_pw (rb_cy G) h a ph i qs) cells slots := by
  have hroot : ∀ k, k < i → 61 + 3 * k ∉ qs2 := by
    intro k hk
    rw [hq2]
    simp only [List.mem_cons, List.not_mem_nil, or_false]
    omega
  have hin : 61 + 3 * i ∈ qs2 := by rw [hq2]; exact List.mem_cons_self
  refine rb_iload hG 0 dX2_init_15 rfl rfl ?_
  refine rb_push hG (rb_p2 (v := nI 6) dX2_init_16 (by decide)) ?_
  refine rb_icmp_ge hG (tgt := 40) dX2_init_18 (by decide) (fun q => absurd q (by rw [nI_leI (by omega) (by omega)]; omega)) (fun _ => ?_)
  refine rb_aload hG 1 dX2_init_21 rfl rfl ?_
  refine rb_get hG (h := h) (v := .ref a) 0 2 0 rfl rfl tX2_init_X2 (by decide) (by decide +kernel) rfl rfl dX2_init_22 ?_
  refine rb_iload hG 0 dX2_init_25 rfl rfl ?_
  refine rb_obj hG (mX4_init hkd) (bytes := cX4_init) (maxL := 1) rfl tX2_init_X4 tyX4_ok dvX4 (by decide +kernel) (by decide +kernel) (by decide +kernel) rfl rfl (by decide +kernel) (Or.inl (List.mem_of_getElem? (i := 1) rfl)) gX2_init_X4_init_n17 rfl (by decide +kernel) ⟨by decide, by decide⟩ hc hs (Nat.le_of_ble_eq_true rfl) dX2_init_26 dX2_init_29 dX2_init_30 (fun ph2 => ?_)
  rw [← hq2]
  have hobj : (rb_pw (rb_cy G) h a ph i qs ++ rb_w (rb_cy G) ph2 qs2)[qs.length + 2]? = some (ph2 (61 + 3 * i), .inr (4, rm_O ph2 (61 + 3 * i) (fun _ => 0) (fun _ => 0) (fun _ => 0) 4)) := by
    have hlen : (rb_pw (rb_cy G) h a ph i qs).length = qs.length + 2 := by unfold rb_pw rb_w; simp
    rw [List.getElem?_append_right (by omega), hlen, Nat.sub_self, hq2]
    show some (rb_x (rb_cy G) ph2 (61 + 3 * i)) = _
    unfold rb_x
    rw [rm_e_obj (rb_cy G) ph2 _ _ _ hkd (by decide)]
  refine rb_aast hG (a := a) (f := rb_pf ph i) (n := 6) 1 (qs.length + 2) rfl hobj hi (by omega) dX2_init_33 ?_
  refine rb_iinc hG (k := 0) (v := nI (i + 1)) (lv2 := [(1, .int (nI (i + 1))), (0, .ref h)]) dX2_init_34 rfl (by rw [show Int32.ofInt 1 = nI 1 by decide, nI_add]) (by decide) rfl ?_
  refine rb_goto hG (tgt := 15) dX2_init_37 (by decide) ?_
  have hk := kk (rb_mix qs2 ph ph2)
  have e : (rb_pw (rb_cy G) h a ph i qs ++ rb_w (rb_cy G) ph2 qs2).set 1 (a, .inl ((rb_cy G).2.2.1, 6, .inr (.inr (.inr (.inr (va_up (rb_pf ph i) i (some (ph2 (61 + 3 * i)))))))) ) = rb_pw (rb_cy G) h a (rb_mix qs2 ph ph2) (i + 1) (qs ++ qs2) := by
    show (h, _) :: (a, _) :: (rb_w (rb_cy G) ph qs ++ rb_w (rb_cy G) ph2 qs2) = _
    rw [rb_w_mix h1 h2 hdis, rb_pf_up hin hroot]
    rfl
  rw [e]
  exact hk
def rb_qP : List Nat := [4, 5, 61, 62, 63, 64, 65, 66, 67, 68, 69, 70, 71, 72, 73, 74, 75, 76, 77, 78]
set_option maxRecDepth 20000 in
theorem mX2_init : rb_CI yX2_init wsX2_init 2 40 19 138 4 2 [.null, .int 0, .int 0] rb_qP := by
  refine rb_met (cc := cX2_init) (maxL := 2) (by decide +kernel) rfl rfl rfl (by decide) (fun G h hG hE => ?_)
  refine rb_aload hG 0 dX2_init_0 rfl rfl ?_
  refine rb_oi hG dX2_init_1 (by decide +kernel) (by decide +kernel) (List.mem_of_getElem? (i := 3) rfl) (by decide) (by decide) ?_
  refine rb_aload hG 0 dX2_init_4 rfl rfl ?_
  refine rb_push hG (rb_p2 (v := nI 6) dX2_init_5 (by decide)) ?_
  refine rb_newS hG (n := 6) (by decide) (by decide +kernel) dX2_init_7 (by decide) (by decide) (fun a => ?_)
  refine rb_put hG (h := h) (fs := [.null, .int 0, .int 0]) 0 2 0 rfl rfl tX2_init_X2 tyX2_ok nmX2 (by decide) (by decide +kernel) rfl rfl rfl rfl (by decide) dX2_init_10 ?_
  refine rb_push hG (rb_p1 (v := nI 0) dX2_init_13 (by decide)) ?_
  refine rb_istore hG (lv2 := [(1, .int (nI 0)), (0, .ref h)]) dX2_init_14 rfl (by decide) rfl ?_
  have e0 : (fun _ => none : Nat → Option Nat) = rb_pf (fun _ => 0) 0 := by
    funext k
    unfold rb_pf
    rw [if_neg (by omega)]
  have key : rb_L G 2 15 [(1, .int (nI 0)), (0, .ref h)] [] (rb_pw (rb_cy G) h a (fun _ => 0) 0 []) 1 6 := by
    refine rb_past hG (qs2 := [61, 62, 63]) (by decide) rfl rfl (by unfold rb_cl; decide +kernel) (by unfold rb_cl; decide +kernel) (by decide +kernel) (by decide) (by decide) (fun p1 => ?_)
    refine rb_past hG (qs2 := [64, 65, 66]) (by decide) rfl rfl (by unfold rb_cl; decide +kernel) (by unfold rb_cl; decide +kernel) (by decide +kernel) (by decide) (by decide) (fun p2 => ?_)
    refine rb_past hG (qs2 := [67, 68, 69]) (by decide) rfl rfl (by unfold rb_cl; decide +kernel) (by unfold rb_cl; decide +kernel) (by decide +kernel) (by decide) (by decide) (fun p3 => ?_)
    refine rb_past hG (qs2 := [70, 71, 72]) (by decide) rfl rfl (by unfold rb_cl; decide +kernel) (by unfold rb_cl; decide +kernel) (by decide +kernel) (by decide) (by decide) (fun p4 => ?_)
    refine rb_past hG (qs2 := [73, 74, 75]) (by decide) rfl rfl (by unfold rb_cl; decide +kernel) (by unfold rb_cl; decide +kernel) (by decide +kernel) (by decide) (by decide) (fun p5 => ?_)
    refine rb_past hG (qs2 := [76, 77, 78]) (by decide) rfl rfl (by unfold rb_cl; decide +kernel) (by unfold rb_cl; decide +kernel) (by decide +kernel) (by decide) (by decide) (fun ph => ?_)
    refine rb_iload hG 0 dX2_init_15 rfl rfl ?_
    refine rb_push hG (rb_p2 (v := nI 6) dX2_init_16 (by decide)) ?_
    refine rb_icmp_ge hG (tgt := 40) dX2_init_18 (by decide) (fun _ => ?_) (fun q => absurd (by decide) q)
    refine rb_ret hG hE (fun x => if x = 4 then h else if x = 5 then a else ph x) rfl ?_ dX2_init_40 rfl rfl
    show _ = rb_x (rb_cy G) (fun x => if x = 4 then h else if x = 5 then a else ph x) 4 :: rb_x (rb_cy G) (fun x => if x = 4 then h else if x = 5 then a else ph x) 5 :: rb_w (rb_cy G) (fun x => if x = 4 then h else if x = 5 then a else ph x) [61, 62, 63, 64, 65, 66, 67, 68, 69, 70, 71, 72, 73, 74, 75, 76, 77, 78]
    have e5 : rb_x (rb_cy G) (fun x => if x = 4 then h else if x = 5 then a else ph x) 5 = (a, .inl ((rb_cy G).2.2.1, 6, .inr (.inr (.inr (.inr (rb_pf ph 6)))))) := by
      unfold rb_x
      rw [rm_e_st (rb_cy G) _ _ _ _ (show (rm_kd 5).1 = 11 from rfl)]
      have hf : (fun k => if k < 6 then some ((fun x => if x = 4 then h else if x = 5 then a else ph x) (5 + 56 + 3 * k)) else none) = rb_pf ph 6 := by
        funext k
        unfold rb_pf
        by_cases c : k < 6
        · rw [if_pos c, if_pos c]
          show some (if 5 + 56 + 3 * k = 4 then h else if 5 + 56 + 3 * k = 5 then a else ph (5 + 56 + 3 * k)) = _
          rw [if_neg (by omega), if_neg (by omega)]
        · rw [if_neg c, if_neg c]
      rw [← hf]
      rfl
    rw [e5, ← rb_w_cong (ph := ph) (by unfold rb_cl; decide +kernel) (fun q hq => by
      have h9 : q ≠ 4 ∧ q ≠ 5 := by
        constructor <;> (intro z; subst z; revert hq; decide)
      show ph q = if q = 4 then h else if q = 5 then a else ph q
      rw [if_neg h9.1, if_neg h9.2])]
    rfl
  have e1 : ((h, .inr (2, [.ref a, .int 0, .int 0])) :: (a, .inl ((rb_cy G).2.2.1, 6, .inr (.inr (.inr (.inr (fun _ => none)))))) :: [] : va_W) = rb_pw (rb_cy G) h a (fun _ => 0) 0 [] := by
    rw [e0]
    rfl
  rw [← e1] at key
  exact key
