/-! ===== the law's own rows ===== -/
def rm_X (G : rm_G) (NC : Nat) (ph : Nat → Nat) (b L : Nat) (xs : Nat → Int32) : Prop :=
  match G with
  | (_, _, _, _, s, _, _, _, _, _, _, _, _, _, _) => va_X b L xs s s.heap ∧ b < s.heap.size ∧ ¬ rm_A NC ph b
def rm_rL (G : rm_G) (NC : Nat) (ph : Nat → Nat) : Prop := ∀ (pc : Nat) (lv : List (Nat × Value)) (M : rm_M), decode cL_law pc = .ok (.ireturn, 1) → rm_L G NC ph 4 pc lv [.int 1] M
section RML
variable {G : rm_G} {NC : Nat} {ph : Nat → Nat} {cc : ByteArray} {own : String} {Ts : List Cond} {nL fr lo pc : Nat} {lv : List (Nat × Value)} {st : List Value} {M : rm_M}
theorem rr_sld (hG : rm_k G NC ph cc own Ts nL fr lo) {α : Type} {X : Option α} {rho : α} {i : Int32} {b L : Nat} {xs : Nat → Int32} (hX : rm_X G NC ph b L xs) (hd : decode cc pc = .ok (.iaload, 1)) (hf : (if rm_ib i L = true then X else none) = some rho) (kk : X = some rho → rm_L G NC ph nL (pc + 1) lv (.int (xs i.toNatClampNeg) :: st) M) : rm_L G NC ph nL pc lv (.int i :: .ref b :: st) M := by
  obtain ⟨hib, hf⟩ := rm_if hf
  have kk := kk hf
  obtain ⟨p, l, e, R, s, m, args, below, meth, c, Q, cy, D, cells, slots⟩ := G
  obtain ⟨hx, hb, hml, hown, hts, hK, hN, hi, hfr, hlo, hc, hs⟩ := hG
  obtain ⟨hX, hbl, hbA⟩ := hX
  intro ls H locs hl hP hS
  exact va_sld hx hb hX hbl hbA hS (rm_ib_in hib) hd (kk ls H locs hl hP hS)
theorem rr_slen (hG : rm_k G NC ph cc own Ts nL fr lo) {b L : Nat} {xs : Nat → Int32} (hX : rm_X G NC ph b L xs) (hd : decode cc pc = .ok (.arraylength, 1)) (kk : rm_L G NC ph nL (pc + 1) lv (.int (nI L) :: st) M) : rm_L G NC ph nL pc lv (.ref b :: st) M := by
  obtain ⟨p, l, e, R, s, m, args, below, meth, c, Q, cy, D, cells, slots⟩ := G
  obtain ⟨hx, hb, hml, hown, hts, hK, hN, hi, hfr, hlo, hc, hs⟩ := hG
  obtain ⟨hX, hbl, hbA⟩ := hX
  intro ls H locs hl hP hS
  exact va_slen hx hb hX hbl hbA hS hd (kk ls H locs hl hP hS)
theorem rr_lret1 {x : Int32} {rho : Int32 × rm_M} (hR : rm_rL G NC ph) (hrho : rho.1 = 1) (hd : decode cL_law pc = .ok (.ireturn, 1)) (hf : some (x, M) = some rho) : rm_L G NC ph 4 pc lv [.int x] M := by
  have h1 := Option.some.inj hf
  subst h1
  have h2 : x = 1 := hrho
  subst h2
  exact hR pc lv M hd
end RML
noncomputable def fL_law_L18 (L : Nat) (xs : Nat → Int32) : Nat → Int32 → rm_M → Option (Int32 × rm_M)
  | 0, _, _ => none
  | n + 1, x3, M => (if ((nI L) - (4 : Int32)) < x3 then some ((1 : Int32), M) else (if rm_ib x3 L = true then (rm_lt1 ((xs (x3).toNatClampNeg) &&& (31 : Int32)) (fun (v3 : Int32) => (if v3 = 0 then (if rm_ib (x3 + (1 : Int32)) L = true then (rm_bd (fX7_write (xs (x3 + (1 : Int32)).toNatClampNeg) M) (fun (r7 : Int32) (M8 : rm_M) => (if rm_ib (x3 + (1 : Int32)) L = true then (rm_bd (fX8_write (xs (x3 + (1 : Int32)).toNatClampNeg) M8) (fun (r11 : Int32) (M12 : rm_M) => (if r7 = r11 then (fL_law_L18 L xs n (x3 + (4 : Int32)) M12) else some ((0 : Int32), M12)))) else none))) else none) else (if v3 = 1 then (rm_bd (fX7_wipe M) (fun (r16 : Int32) (M17 : rm_M) => (rm_bd (fX8_wipe M17) (fun (r19 : Int32) (M20 : rm_M) => (if r16 = r19 then (fL_law_L18 L xs n (x3 + (4 : Int32)) M20) else some ((0 : Int32), M20)))))) else (if v3 = 2 then (rm_bd (fX7_fault M) (fun (r24 : Int32) (M25 : rm_M) => (rm_bd (fX8_fault M25) (fun (r27 : Int32) (M28 : rm_M) => (if r24 = r27 then (fL_law_L18 L xs n (x3 + (4 : Int32)) M28) else some ((0 : Int32), M28)))))) else (if v3 = 3 then (rm_bd (fX7_lay M) (fun (r32 : Int32) (M33 : rm_M) => (rm_bd (fX8_lay M33) (fun (r35 : Int32) (M36 : rm_M) => (if r32 = r35 then (fL_law_L18 L xs n (x3 + (4 : Int32)) M36) else some ((0 : Int32), M36)))))) else (if v3 = 4 then (if rm_ib (x3 + (1 : Int32)) L = true then (if rm_ib (x3 + (2 : Int32)) L = true then (if rm_ib (x3 + (3 : Int32)) L = true then (rm_bd (fX7_set (xs (x3 + (1 : Int32)).toNatClampNeg) (xs (x3 + (2 : Int32)).toNatClampNeg) (xs (x3 + (3 : Int32)).toNatClampNeg) M) (fun (r43 : Int32) (M44 : rm_M) => (if rm_ib (x3 + (1 : Int32)) L = true then (if rm_ib (x3 + (2 : Int32)) L = true then (if rm_ib (x3 + (3 : Int32)) L = true then (rm_bd (fX8_set (xs (x3 + (1 : Int32)).toNatClampNeg) (xs (x3 + (2 : Int32)).toNatClampNeg) (xs (x3 + (3 : Int32)).toNatClampNeg) M44) (fun (r49 : Int32) (M50 : rm_M) => (if r43 = r49 then (fL_law_L18 L xs n (x3 + (4 : Int32)) M50) else some ((0 : Int32), M50)))) else none) else none) else none))) else none) else none) else none) else (if v3 = 5 then (if rm_ib (x3 + (1 : Int32)) L = true then (if rm_ib (x3 + (2 : Int32)) L = true then (rm_bd (fX7_law (xs (x3 + (1 : Int32)).toNatClampNeg) (xs (x3 + (2 : Int32)).toNatClampNeg) M) (fun (r56 : Int32) (M57 : rm_M) => (if rm_ib (x3 + (1 : Int32)) L = true then (if rm_ib (x3 + (2 : Int32)) L = true then (rm_bd (fX8_law (xs (x3 + (1 : Int32)).toNatClampNeg) (xs (x3 + (2 : Int32)).toNatClampNeg) M57) (fun (r61 : Int32) (M62 : rm_M) => (if r56 = r61 then (fL_law_L18 L xs n (x3 + (4 : Int32)) M62) else some ((0 : Int32), M62)))) else none) else none))) else none) else none) else (if v3 = 6 then (rm_bd (fX7_give M) (fun (r66 : Int32) (M67 : rm_M) => (rm_bd (fX8_give M67) (fun (r69 : Int32) (M70 : rm_M) => (if r66 = r69 then (fL_law_L18 L xs n (x3 + (4 : Int32)) M70) else some ((0 : Int32), M70)))))) else (if v3 = 7 then (rm_bd (fX7_undo M) (fun (r74 : Int32) (M75 : rm_M) => (rm_bd (fX8_undo M75) (fun (r77 : Int32) (M78 : rm_M) => (if r74 = r77 then (fL_law_L18 L xs n (x3 + (4 : Int32)) M78) else some ((0 : Int32), M78)))))) else (if v3 = 8 then (if rm_ib (x3 + (1 : Int32)) L = true then (if rm_ib (x3 + (2 : Int32)) L = true then (rm_bd (fX7_cell (xs (x3 + (1 : Int32)).toNatClampNeg) (xs (x3 + (2 : Int32)).toNatClampNeg) M) (fun (r84 : Int32) (M85 : rm_M) => (if rm_ib (x3 + (1 : Int32)) L = true then (if rm_ib (x3 + (2 : Int32)) L = true then (rm_bd (fX8_cell (xs (x3 + (1 : Int32)).toNatClampNeg) (xs (x3 + (2 : Int32)).toNatClampNeg) M85) (fun (r89 : Int32) (M90 : rm_M) => (if r84 = r89 then (fL_law_L18 L xs n (x3 + (4 : Int32)) M90) else some ((0 : Int32), M90)))) else none) else none))) else none) else none) else (if v3 = 9 then (if rm_ib (x3 + (1 : Int32)) L = true then (if rm_ib (x3 + (2 : Int32)) L = true then (rm_bd (fX7_weight (xs (x3 + (1 : Int32)).toNatClampNeg) (xs (x3 + (2 : Int32)).toNatClampNeg) M) (fun (r96 : Int32) (M97 : rm_M) => (if rm_ib (x3 + (1 : Int32)) L = true then (if rm_ib (x3 + (2 : Int32)) L = true then (rm_bd (fX8_weight (xs (x3 + (1 : Int32)).toNatClampNeg) (xs (x3 + (2 : Int32)).toNatClampNeg) M97) (fun (r101 : Int32) (M102 : rm_M) => (if r96 = r101 then (fL_law_L18 L xs n (x3 + (4 : Int32)) M102) else some ((0 : Int32), M102)))) else none) else none))) else none) else none) else (if v3 = 10 then (if rm_ib (x3 + (1 : Int32)) L = true then (if rm_ib (x3 + (2 : Int32)) L = true then (rm_bd (fX7_wide (xs (x3 + (1 : Int32)).toNatClampNeg) (xs (x3 + (2 : Int32)).toNatClampNeg) M) (fun (r108 : Int32) (M109 : rm_M) => (if rm_ib (x3 + (1 : Int32)) L = true then (if rm_ib (x3 + (2 : Int32)) L = true then (rm_bd (fX8_wide (xs (x3 + (1 : Int32)).toNatClampNeg) (xs (x3 + (2 : Int32)).toNatClampNeg) M109) (fun (r113 : Int32) (M114 : rm_M) => (if r108 = r113 then (fL_law_L18 L xs n (x3 + (4 : Int32)) M114) else some ((0 : Int32), M114)))) else none) else none))) else none) else none) else (if v3 = 11 then (if rm_ib (x3 + (1 : Int32)) L = true then (rm_bd (fX7_tick (xs (x3 + (1 : Int32)).toNatClampNeg) M) (fun (r119 : Int32) (M120 : rm_M) => (if rm_ib (x3 + (1 : Int32)) L = true then (rm_bd (fX8_tick (xs (x3 + (1 : Int32)).toNatClampNeg) M120) (fun (r123 : Int32) (M124 : rm_M) => (if r119 = r123 then (fL_law_L18 L xs n (x3 + (4 : Int32)) M124) else some ((0 : Int32), M124)))) else none))) else none) else (if v3 = 12 then (rm_bd (fX7_page M) (fun (r128 : Int32) (M129 : rm_M) => (rm_bd (fX8_page M129) (fun (r131 : Int32) (M132 : rm_M) => (if r128 = r131 then (fL_law_L18 L xs n (x3 + (4 : Int32)) M132) else some ((0 : Int32), M132)))))) else (if v3 = 13 then (if rm_ib (x3 + (1 : Int32)) L = true then (rm_bd (fX7_handset (xs (x3 + (1 : Int32)).toNatClampNeg) M) (fun (r137 : Int32) (M138 : rm_M) => (if rm_ib (x3 + (1 : Int32)) L = true then (rm_bd (fX8_handset (xs (x3 + (1 : Int32)).toNatClampNeg) M138) (fun (r141 : Int32) (M142 : rm_M) => (if r137 = r141 then (fL_law_L18 L xs n (x3 + (4 : Int32)) M142) else some ((0 : Int32), M142)))) else none))) else none) else (if v3 = 14 then (rm_bd (fX7_where M) (fun (r146 : Int32) (M147 : rm_M) => (rm_bd (fX8_where M147) (fun (r149 : Int32) (M150 : rm_M) => (if r146 = r149 then (fL_law_L18 L xs n (x3 + (4 : Int32)) M150) else some ((0 : Int32), M150)))))) else (if v3 = 15 then (if rm_ib (x3 + (1 : Int32)) L = true then (rm_bd (fX7_round (xs (x3 + (1 : Int32)).toNatClampNeg) M) (fun (r155 : Int32) (M156 : rm_M) => (if rm_ib (x3 + (1 : Int32)) L = true then (rm_bd (fX8_round (xs (x3 + (1 : Int32)).toNatClampNeg) M156) (fun (r159 : Int32) (M160 : rm_M) => (if r155 = r159 then (fL_law_L18 L xs n (x3 + (4 : Int32)) M160) else some ((0 : Int32), M160)))) else none))) else none) else (if v3 = 16 then (if rm_ib (x3 + (1 : Int32)) L = true then (if rm_ib (x3 + (2 : Int32)) L = true then (rm_bd (fX7_chance (xs (x3 + (1 : Int32)).toNatClampNeg) (xs (x3 + (2 : Int32)).toNatClampNeg) M) (fun (r166 : Int64) (M167 : rm_M) => (if rm_ib (x3 + (1 : Int32)) L = true then (if rm_ib (x3 + (2 : Int32)) L = true then (rm_bd (fX8_chance (xs (x3 + (1 : Int32)).toNatClampNeg) (xs (x3 + (2 : Int32)).toNatClampNeg) M167) (fun (r171 : Int64) (M172 : rm_M) => (if (lg_cmp r166 r171) = 0 then (fL_law_L18 L xs n (x3 + (4 : Int32)) M172) else some ((0 : Int32), M172)))) else none) else none))) else none) else none) else (if v3 = 17 then (if rm_ib (x3 + (1 : Int32)) L = true then (if rm_ib (x3 + (2 : Int32)) L = true then (rm_bd (fX7_mean (xs (x3 + (1 : Int32)).toNatClampNeg) (xs (x3 + (2 : Int32)).toNatClampNeg) M) (fun (r178 : Int64) (M179 : rm_M) => (if rm_ib (x3 + (1 : Int32)) L = true then (if rm_ib (x3 + (2 : Int32)) L = true then (rm_bd (fX8_mean (xs (x3 + (1 : Int32)).toNatClampNeg) (xs (x3 + (2 : Int32)).toNatClampNeg) M179) (fun (r183 : Int64) (M184 : rm_M) => (if (lg_cmp r178 r183) = 0 then (fL_law_L18 L xs n (x3 + (4 : Int32)) M184) else some ((0 : Int32), M184)))) else none) else none))) else none) else none) else (if v3 = 18 then (if rm_ib (x3 + (1 : Int32)) L = true then (rm_bd (fX7_best (xs (x3 + (1 : Int32)).toNatClampNeg) M) (fun (r189 : Int32) (M190 : rm_M) => (if rm_ib (x3 + (1 : Int32)) L = true then (rm_bd (fX8_best (xs (x3 + (1 : Int32)).toNatClampNeg) M190) (fun (r193 : Int32) (M194 : rm_M) => (if r189 = r193 then (fL_law_L18 L xs n (x3 + (4 : Int32)) M194) else some ((0 : Int32), M194)))) else none))) else none) else (if v3 = 19 then (if rm_ib (x3 + (1 : Int32)) L = true then (rm_bd (fX7_least (xs (x3 + (1 : Int32)).toNatClampNeg) M) (fun (r199 : Int64) (M200 : rm_M) => (if rm_ib (x3 + (1 : Int32)) L = true then (rm_bd (fX8_least (xs (x3 + (1 : Int32)).toNatClampNeg) M200) (fun (r203 : Int64) (M204 : rm_M) => (if (lg_cmp r199 r203) = 0 then (fL_law_L18 L xs n (x3 + (4 : Int32)) M204) else some ((0 : Int32), M204)))) else none))) else none) else (if v3 = 20 then (if rm_ib (x3 + (1 : Int32)) L = true then (if rm_ib (x3 + (2 : Int32)) L = true then (if rm_ib (x3 + (3 : Int32)) L = true then (rm_bd (fX7_walk (xs (x3 + (1 : Int32)).toNatClampNeg) (xs (x3 + (2 : Int32)).toNatClampNeg) (xs (x3 + (3 : Int32)).toNatClampNeg) M) (fun (r211 : Int32) (M212 : rm_M) => (if rm_ib (x3 + (1 : Int32)) L = true then (if rm_ib (x3 + (2 : Int32)) L = true then (if rm_ib (x3 + (3 : Int32)) L = true then (rm_bd (fX8_walk (xs (x3 + (1 : Int32)).toNatClampNeg) (xs (x3 + (2 : Int32)).toNatClampNeg) (xs (x3 + (3 : Int32)).toNatClampNeg) M212) (fun (r217 : Int32) (M218 : rm_M) => (if r211 = r217 then (fL_law_L18 L xs n (x3 + (4 : Int32)) M218) else some ((0 : Int32), M218)))) else none) else none) else none))) else none) else none) else none) else (if v3 = 21 then (if rm_ib (x3 + (1 : Int32)) L = true then (rm_bd (fX7_count (xs (x3 + (1 : Int32)).toNatClampNeg) M) (fun (r223 : Int32) (M224 : rm_M) => (if rm_ib (x3 + (1 : Int32)) L = true then (rm_bd (fX8_count (xs (x3 + (1 : Int32)).toNatClampNeg) M224) (fun (r227 : Int32) (M228 : rm_M) => (if r223 = r227 then (fL_law_L18 L xs n (x3 + (4 : Int32)) M228) else some ((0 : Int32), M228)))) else none))) else none) else (fL_law_L18 L xs n (x3 + (4 : Int32)) M))))))))))))))))))))))))) else none))
set_option maxHeartbeats 40000000 in
set_option maxRecDepth 100000 in
theorem wL_law_L18 {G : rm_G} {ph : Nat → Nat} {rho : Int32 × rm_M} {b L : Nat} {xs : Nat → Int32} (hG : rm_k G 96 ph cL_law RL wsL_law 4 9 346) (hX : rm_X G 96 ph b L xs) (hR : rm_rL G 96 ph) (hrho : rho.1 = 1) : ∀ (n : Nat) (x3 : Int32) (M : rm_M), fL_law_L18 L xs n x3 M = some rho → rm_L G 96 ph 4 18 [(0, .ref b), (1, .ref (ph 0)), (2, .ref (ph 79)), (3, .int x3)] [] M := by
  intro n
  induction n with
  | zero => intro x3 M hf; rw [fL_law_L18] at hf; cases hf
  | succ n ih =>
    intro x3 M hf
    rw [fL_law_L18] at hf
    refine rr_iload_n hG dL_law_18 3 rfl rfl ?_
    refine rr_aload_n hG dL_law_19 0 rfl rfl ?_
    refine rr_slen hG hX dL_law_20 ?_
    refine rr_iconst hG (v := 4) dL_law_21 (by decide) ?_
    refine rr_isub hG dL_law_22 ?_
    refine rr_icmp_gt hG (tgt := 681) dL_law_23 (by decide) hf (fun c1 hf => ?_) (fun c1 hf => ?_)
    · refine rr_iconst hG (v := 1) dL_law_681 (by decide) ?_
      exact rr_lret1 hR hrho dL_law_682 hf
    · refine rr_aload_n hG dL_law_26 0 rfl rfl ?_
      refine rr_iload_n hG dL_law_27 3 rfl rfl ?_
      refine rr_sld hG hX dL_law_28 hf (fun hf => ?_)
      refine rr_bipush hG (v := 31) dL_law_29 (by decide) ?_
      refine rr_iand hG dL_law_31 ?_
      refine rr_bindI hf (fun v3 ev3 hf => ?_)
      by_cases c4 : v3 = 0
      · rw [if_pos c4] at hf
        refine rr_tableIn hG (tgt := 136) (0) dL_law_32 (by rw [c4]; decide) (by decide) (by decide) rfl (by decide) ?_
        refine rr_aload_n hG dL_law_136 1 rfl rfl ?_
        refine rr_aload_n hG dL_law_137 0 rfl rfl ?_
        refine rr_iload_n hG dL_law_138 3 rfl rfl ?_
        refine rr_iconst hG (v := 1) dL_law_139 (by decide) ?_
        refine rr_iadd hG dL_law_140 ?_
        refine rr_sld hG hX dL_law_141 hf (fun hf => ?_)
        refine rr_cVI hG (st := []) (n := 1) (ci := 7) (rf := 1) (rl := 21) [.int (xs (x3 + (1 : Int32)).toNatClampNeg)] dL_law_142 hf ⟨rfl, by decide⟩ (by decide) rfl gL_law_X7_write rfl (by decide +kernel) rfl ⟨by decide, by decide⟩ rfl (Nat.le_of_ble_eq_true rfl) (fun r9 M9 h9 => mX7_write (by decide) ph _ _ _ h9) (fun r7 M8 h6 hf => ?_)
        refine rr_aload_n hG dL_law_145 2 rfl rfl ?_
        refine rr_aload_n hG dL_law_146 0 rfl rfl ?_
        refine rr_iload_n hG dL_law_147 3 rfl rfl ?_
        refine rr_iconst hG (v := 1) dL_law_148 (by decide) ?_
        refine rr_iadd hG dL_law_149 ?_
        refine rr_sld hG hX dL_law_150 hf (fun hf => ?_)
        refine rr_cVI hG (st := [.int r7]) (n := 1) (ci := 8) (rf := 0) (rl := 0) [.int (xs (x3 + (1 : Int32)).toNatClampNeg)] dL_law_151 hf ⟨rfl, by decide⟩ (by decide) rfl gL_law_X8_write rfl (by decide +kernel) rfl ⟨by decide, by decide⟩ rfl (Nat.le_of_ble_eq_true rfl) (fun r9 M9 h9 => mX8_write ph _ _ _ h9) (fun r11 M12 h10 hf => ?_)
        refine rr_icmp_eq hG (tgt := 675) dL_law_154 (by decide) hf (fun c13 hf => ?_) (fun c13 hf => ?_)
        · refine rr_iinc hG (v := x3 + (4 : Int32)) (lv2 := [(3, .int (x3 + (4 : Int32))), (0, .ref b), (1, .ref (ph 0)), (2, .ref (ph 79))]) (k := 3) dL_law_675 rfl rfl (by decide) rfl ?_
          refine rr_goto hG (tgt := 18) dL_law_678 (by decide) ?_
          exact rr_sub (lv2 := [(0, .ref b), (1, .ref (ph 0)), (2, .ref (ph 79)), (3, .int (x3 + (4 : Int32)))]) [1, 2, 3, 0] rfl (ih _ _ hf)
        · refine rr_iconst hG (v := 0) dL_law_157 (by decide) ?_
          exact rr_lret1 hR hrho dL_law_158 hf
      · rw [if_neg c4] at hf
        by_cases c14 : v3 = 1
        · rw [if_pos c14] at hf
          refine rr_tableIn hG (tgt := 159) (1) dL_law_32 (by rw [c14]; decide) (by decide) (by decide) rfl (by decide) ?_
          refine rr_aload_n hG dL_law_159 1 rfl rfl ?_
          refine rr_cVI hG (st := []) (n := 0) (ci := 7) (rf := 0) (rl := 0) [] dL_law_160 hf ⟨rfl, by decide⟩ (by decide) rfl gL_law_X7_wipe rfl (by decide +kernel) rfl ⟨by decide, by decide⟩ rfl (Nat.le_of_ble_eq_true rfl) (fun r9 M9 h9 => mX7_wipe (by decide) ph _ _ h9) (fun r16 M17 h15 hf => ?_)
          refine rr_aload_n hG dL_law_163 2 rfl rfl ?_
          refine rr_cVI hG (st := [.int r16]) (n := 0) (ci := 8) (rf := 0) (rl := 0) [] dL_law_164 hf ⟨rfl, by decide⟩ (by decide) rfl gL_law_X8_wipe rfl (by decide +kernel) rfl ⟨by decide, by decide⟩ rfl (Nat.le_of_ble_eq_true rfl) (fun r9 M9 h9 => mX8_wipe ph _ _ h9) (fun r19 M20 h18 hf => ?_)
          refine rr_icmp_eq hG (tgt := 675) dL_law_167 (by decide) hf (fun c21 hf => ?_) (fun c21 hf => ?_)
          · refine rr_iinc hG (v := x3 + (4 : Int32)) (lv2 := [(3, .int (x3 + (4 : Int32))), (0, .ref b), (1, .ref (ph 0)), (2, .ref (ph 79))]) (k := 3) dL_law_675 rfl rfl (by decide) rfl ?_
            refine rr_goto hG (tgt := 18) dL_law_678 (by decide) ?_
            exact rr_sub (lv2 := [(0, .ref b), (1, .ref (ph 0)), (2, .ref (ph 79)), (3, .int (x3 + (4 : Int32)))]) [1, 2, 3, 0] rfl (ih _ _ hf)
          · refine rr_iconst hG (v := 0) dL_law_170 (by decide) ?_
            exact rr_lret1 hR hrho dL_law_171 hf
        · rw [if_neg c14] at hf
          by_cases c22 : v3 = 2
          · rw [if_pos c22] at hf
            refine rr_tableIn hG (tgt := 172) (2) dL_law_32 (by rw [c22]; decide) (by decide) (by decide) rfl (by decide) ?_
            refine rr_aload_n hG dL_law_172 1 rfl rfl ?_
            refine rr_cVI hG (st := []) (n := 0) (ci := 7) (rf := 5) (rl := 118) [] dL_law_173 hf ⟨rfl, by decide⟩ (by decide) rfl gL_law_X7_fault rfl (by decide +kernel) rfl ⟨by decide, by decide⟩ rfl (Nat.le_of_ble_eq_true rfl) (fun r9 M9 h9 => mX7_fault (by decide) ph _ _ h9) (fun r24 M25 h23 hf => ?_)
            refine rr_aload_n hG dL_law_176 2 rfl rfl ?_
            refine rr_cVI hG (st := [.int r24]) (n := 0) (ci := 8) (rf := 6) (rl := 135) [] dL_law_177 hf ⟨rfl, by decide⟩ (by decide) rfl gL_law_X8_fault rfl (by decide +kernel) rfl ⟨by decide, by decide⟩ rfl (Nat.le_of_ble_eq_true rfl) (fun r9 M9 h9 => mX8_fault ph _ _ h9) (fun r27 M28 h26 hf => ?_)
            refine rr_icmp_eq hG (tgt := 675) dL_law_180 (by decide) hf (fun c29 hf => ?_) (fun c29 hf => ?_)
            · refine rr_iinc hG (v := x3 + (4 : Int32)) (lv2 := [(3, .int (x3 + (4 : Int32))), (0, .ref b), (1, .ref (ph 0)), (2, .ref (ph 79))]) (k := 3) dL_law_675 rfl rfl (by decide) rfl ?_
              refine rr_goto hG (tgt := 18) dL_law_678 (by decide) ?_
              exact rr_sub (lv2 := [(0, .ref b), (1, .ref (ph 0)), (2, .ref (ph 79)), (3, .int (x3 + (4 : Int32)))]) [1, 2, 3, 0] rfl (ih _ _ hf)
            · refine rr_iconst hG (v := 0) dL_law_183 (by decide) ?_
              exact rr_lret1 hR hrho dL_law_184 hf
          · rw [if_neg c22] at hf
            by_cases c30 : v3 = 3
            · rw [if_pos c30] at hf
              refine rr_tableIn hG (tgt := 185) (3) dL_law_32 (by rw [c30]; decide) (by decide) (by decide) rfl (by decide) ?_
              refine rr_aload_n hG dL_law_185 1 rfl rfl ?_
              refine rr_cVI hG (st := []) (n := 0) (ci := 7) (rf := 6) (rl := 140) [] dL_law_186 hf ⟨rfl, by decide⟩ (by decide) rfl gL_law_X7_lay rfl (by decide +kernel) rfl ⟨by decide, by decide⟩ rfl (Nat.le_of_ble_eq_true rfl) (fun r9 M9 h9 => mX7_lay (by decide) ph _ _ h9) (fun r32 M33 h31 hf => ?_)
              refine rr_aload_n hG dL_law_189 2 rfl rfl ?_
              refine rr_cVI hG (st := [.int r32]) (n := 0) (ci := 8) (rf := 6) (rl := 135) [] dL_law_190 hf ⟨rfl, by decide⟩ (by decide) rfl gL_law_X8_lay rfl (by decide +kernel) rfl ⟨by decide, by decide⟩ rfl (Nat.le_of_ble_eq_true rfl) (fun r9 M9 h9 => mX8_lay ph _ _ h9) (fun r35 M36 h34 hf => ?_)
              refine rr_icmp_eq hG (tgt := 675) dL_law_193 (by decide) hf (fun c37 hf => ?_) (fun c37 hf => ?_)
              · refine rr_iinc hG (v := x3 + (4 : Int32)) (lv2 := [(3, .int (x3 + (4 : Int32))), (0, .ref b), (1, .ref (ph 0)), (2, .ref (ph 79))]) (k := 3) dL_law_675 rfl rfl (by decide) rfl ?_
                refine rr_goto hG (tgt := 18) dL_law_678 (by decide) ?_
                exact rr_sub (lv2 := [(0, .ref b), (1, .ref (ph 0)), (2, .ref (ph 79)), (3, .int (x3 + (4 : Int32)))]) [1, 2, 3, 0] rfl (ih _ _ hf)
              · refine rr_iconst hG (v := 0) dL_law_196 (by decide) ?_
                exact rr_lret1 hR hrho dL_law_197 hf
            · rw [if_neg c30] at hf
              by_cases c38 : v3 = 4
              · rw [if_pos c38] at hf
                refine rr_tableIn hG (tgt := 198) (4) dL_law_32 (by rw [c38]; decide) (by decide) (by decide) rfl (by decide) ?_
                refine rr_aload_n hG dL_law_198 1 rfl rfl ?_
                refine rr_aload_n hG dL_law_199 0 rfl rfl ?_
                refine rr_iload_n hG dL_law_200 3 rfl rfl ?_
                refine rr_iconst hG (v := 1) dL_law_201 (by decide) ?_
                refine rr_iadd hG dL_law_202 ?_
                refine rr_sld hG hX dL_law_203 hf (fun hf => ?_)
                refine rr_aload_n hG dL_law_204 0 rfl rfl ?_
                refine rr_iload_n hG dL_law_205 3 rfl rfl ?_
                refine rr_iconst hG (v := 2) dL_law_206 (by decide) ?_
                refine rr_iadd hG dL_law_207 ?_
                refine rr_sld hG hX dL_law_208 hf (fun hf => ?_)
                refine rr_aload_n hG dL_law_209 0 rfl rfl ?_
                refine rr_iload_n hG dL_law_210 3 rfl rfl ?_
                refine rr_iconst hG (v := 3) dL_law_211 (by decide) ?_
                refine rr_iadd hG dL_law_212 ?_
                refine rr_sld hG hX dL_law_213 hf (fun hf => ?_)
                refine rr_cVI hG (st := []) (n := 3) (ci := 7) (rf := 3) (rl := 82) [.int (xs (x3 + (1 : Int32)).toNatClampNeg), .int (xs (x3 + (2 : Int32)).toNatClampNeg), .int (xs (x3 + (3 : Int32)).toNatClampNeg)] dL_law_214 hf ⟨rfl, by decide⟩ (by decide) rfl gL_law_X7_set rfl (by decide +kernel) rfl ⟨by decide, by decide⟩ rfl (Nat.le_of_ble_eq_true rfl) (fun r9 M9 h9 => mX7_set (by decide) ph _ _ _ _ _ h9) (fun r43 M44 h42 hf => ?_)
                refine rr_aload_n hG dL_law_217 2 rfl rfl ?_
                refine rr_aload_n hG dL_law_218 0 rfl rfl ?_
                refine rr_iload_n hG dL_law_219 3 rfl rfl ?_
                refine rr_iconst hG (v := 1) dL_law_220 (by decide) ?_
                refine rr_iadd hG dL_law_221 ?_
                refine rr_sld hG hX dL_law_222 hf (fun hf => ?_)
                refine rr_aload_n hG dL_law_223 0 rfl rfl ?_
                refine rr_iload_n hG dL_law_224 3 rfl rfl ?_
                refine rr_iconst hG (v := 2) dL_law_225 (by decide) ?_
                refine rr_iadd hG dL_law_226 ?_
                refine rr_sld hG hX dL_law_227 hf (fun hf => ?_)
                refine rr_aload_n hG dL_law_228 0 rfl rfl ?_
                refine rr_iload_n hG dL_law_229 3 rfl rfl ?_
                refine rr_iconst hG (v := 3) dL_law_230 (by decide) ?_
                refine rr_iadd hG dL_law_231 ?_
                refine rr_sld hG hX dL_law_232 hf (fun hf => ?_)
                refine rr_cVI hG (st := [.int r43]) (n := 3) (ci := 8) (rf := 2) (rl := 43) [.int (xs (x3 + (1 : Int32)).toNatClampNeg), .int (xs (x3 + (2 : Int32)).toNatClampNeg), .int (xs (x3 + (3 : Int32)).toNatClampNeg)] dL_law_233 hf ⟨rfl, by decide⟩ (by decide) rfl gL_law_X8_set rfl (by decide +kernel) rfl ⟨by decide, by decide⟩ rfl (Nat.le_of_ble_eq_true rfl) (fun r9 M9 h9 => mX8_set ph _ _ _ _ _ h9) (fun r49 M50 h48 hf => ?_)
                refine rr_icmp_eq hG (tgt := 675) dL_law_236 (by decide) hf (fun c51 hf => ?_) (fun c51 hf => ?_)
                · refine rr_iinc hG (v := x3 + (4 : Int32)) (lv2 := [(3, .int (x3 + (4 : Int32))), (0, .ref b), (1, .ref (ph 0)), (2, .ref (ph 79))]) (k := 3) dL_law_675 rfl rfl (by decide) rfl ?_
                  refine rr_goto hG (tgt := 18) dL_law_678 (by decide) ?_
                  exact rr_sub (lv2 := [(0, .ref b), (1, .ref (ph 0)), (2, .ref (ph 79)), (3, .int (x3 + (4 : Int32)))]) [1, 2, 3, 0] rfl (ih _ _ hf)
                · refine rr_iconst hG (v := 0) dL_law_239 (by decide) ?_
                  exact rr_lret1 hR hrho dL_law_240 hf
              · rw [if_neg c38] at hf
                by_cases c52 : v3 = 5
                · rw [if_pos c52] at hf
                  refine rr_tableIn hG (tgt := 241) (5) dL_law_32 (by rw [c52]; decide) (by decide) (by decide) rfl (by decide) ?_
                  refine rr_aload_n hG dL_law_241 1 rfl rfl ?_
                  refine rr_aload_n hG dL_law_242 0 rfl rfl ?_
                  refine rr_iload_n hG dL_law_243 3 rfl rfl ?_
                  refine rr_iconst hG (v := 1) dL_law_244 (by decide) ?_
                  refine rr_iadd hG dL_law_245 ?_
                  refine rr_sld hG hX dL_law_246 hf (fun hf => ?_)
                  refine rr_aload_n hG dL_law_247 0 rfl rfl ?_
                  refine rr_iload_n hG dL_law_248 3 rfl rfl ?_
                  refine rr_iconst hG (v := 2) dL_law_249 (by decide) ?_
                  refine rr_iadd hG dL_law_250 ?_
                  refine rr_sld hG hX dL_law_251 hf (fun hf => ?_)
                  refine rr_cVI hG (st := []) (n := 2) (ci := 7) (rf := 3) (rl := 82) [.int (xs (x3 + (1 : Int32)).toNatClampNeg), .int (xs (x3 + (2 : Int32)).toNatClampNeg)] dL_law_252 hf ⟨rfl, by decide⟩ (by decide) rfl gL_law_X7_law rfl (by decide +kernel) rfl ⟨by decide, by decide⟩ rfl (Nat.le_of_ble_eq_true rfl) (fun r9 M9 h9 => mX7_law (by decide) ph _ _ _ _ h9) (fun r56 M57 h55 hf => ?_)
                  refine rr_aload_n hG dL_law_255 2 rfl rfl ?_
                  refine rr_aload_n hG dL_law_256 0 rfl rfl ?_
                  refine rr_iload_n hG dL_law_257 3 rfl rfl ?_
                  refine rr_iconst hG (v := 1) dL_law_258 (by decide) ?_
                  refine rr_iadd hG dL_law_259 ?_
                  refine rr_sld hG hX dL_law_260 hf (fun hf => ?_)
                  refine rr_aload_n hG dL_law_261 0 rfl rfl ?_
                  refine rr_iload_n hG dL_law_262 3 rfl rfl ?_
                  refine rr_iconst hG (v := 2) dL_law_263 (by decide) ?_
                  refine rr_iadd hG dL_law_264 ?_
                  refine rr_sld hG hX dL_law_265 hf (fun hf => ?_)
                  refine rr_cVI hG (st := [.int r56]) (n := 2) (ci := 8) (rf := 2) (rl := 43) [.int (xs (x3 + (1 : Int32)).toNatClampNeg), .int (xs (x3 + (2 : Int32)).toNatClampNeg)] dL_law_266 hf ⟨rfl, by decide⟩ (by decide) rfl gL_law_X8_law rfl (by decide +kernel) rfl ⟨by decide, by decide⟩ rfl (Nat.le_of_ble_eq_true rfl) (fun r9 M9 h9 => mX8_law ph _ _ _ _ h9) (fun r61 M62 h60 hf => ?_)
                  refine rr_icmp_eq hG (tgt := 675) dL_law_269 (by decide) hf (fun c63 hf => ?_) (fun c63 hf => ?_)
                  · refine rr_iinc hG (v := x3 + (4 : Int32)) (lv2 := [(3, .int (x3 + (4 : Int32))), (0, .ref b), (1, .ref (ph 0)), (2, .ref (ph 79))]) (k := 3) dL_law_675 rfl rfl (by decide) rfl ?_
                    refine rr_goto hG (tgt := 18) dL_law_678 (by decide) ?_
                    exact rr_sub (lv2 := [(0, .ref b), (1, .ref (ph 0)), (2, .ref (ph 79)), (3, .int (x3 + (4 : Int32)))]) [1, 2, 3, 0] rfl (ih _ _ hf)
                  · refine rr_iconst hG (v := 0) dL_law_272 (by decide) ?_
                    exact rr_lret1 hR hrho dL_law_273 hf
                · rw [if_neg c52] at hf
                  by_cases c64 : v3 = 6
                  · rw [if_pos c64] at hf
                    refine rr_tableIn hG (tgt := 274) (6) dL_law_32 (by rw [c64]; decide) (by decide) (by decide) rfl (by decide) ?_
                    refine rr_aload_n hG dL_law_274 1 rfl rfl ?_
                    refine rr_cVI hG (st := []) (n := 0) (ci := 7) (rf := 4) (rl := 90) [] dL_law_275 hf ⟨rfl, by decide⟩ (by decide) rfl gL_law_X7_give rfl (by decide +kernel) rfl ⟨by decide, by decide⟩ rfl (Nat.le_of_ble_eq_true rfl) (fun r9 M9 h9 => mX7_give (by decide) ph _ _ h9) (fun r66 M67 h65 hf => ?_)
                    refine rr_aload_n hG dL_law_278 2 rfl rfl ?_
                    refine rr_cVI hG (st := [.int r66]) (n := 0) (ci := 8) (rf := 4) (rl := 95) [] dL_law_279 hf ⟨rfl, by decide⟩ (by decide) rfl gL_law_X8_give rfl (by decide +kernel) rfl ⟨by decide, by decide⟩ rfl (Nat.le_of_ble_eq_true rfl) (fun r9 M9 h9 => mX8_give ph _ _ h9) (fun r69 M70 h68 hf => ?_)
                    refine rr_icmp_eq hG (tgt := 675) dL_law_282 (by decide) hf (fun c71 hf => ?_) (fun c71 hf => ?_)
                    · refine rr_iinc hG (v := x3 + (4 : Int32)) (lv2 := [(3, .int (x3 + (4 : Int32))), (0, .ref b), (1, .ref (ph 0)), (2, .ref (ph 79))]) (k := 3) dL_law_675 rfl rfl (by decide) rfl ?_
                      refine rr_goto hG (tgt := 18) dL_law_678 (by decide) ?_
                      exact rr_sub (lv2 := [(0, .ref b), (1, .ref (ph 0)), (2, .ref (ph 79)), (3, .int (x3 + (4 : Int32)))]) [1, 2, 3, 0] rfl (ih _ _ hf)
                    · refine rr_iconst hG (v := 0) dL_law_285 (by decide) ?_
                      exact rr_lret1 hR hrho dL_law_286 hf
                  · rw [if_neg c64] at hf
                    by_cases c72 : v3 = 7
                    · rw [if_pos c72] at hf
                      refine rr_tableIn hG (tgt := 287) (7) dL_law_32 (by rw [c72]; decide) (by decide) (by decide) rfl (by decide) ?_
                      refine rr_aload_n hG dL_law_287 1 rfl rfl ?_
                      refine rr_cVI hG (st := []) (n := 0) (ci := 7) (rf := 3) (rl := 82) [] dL_law_288 hf ⟨rfl, by decide⟩ (by decide) rfl gL_law_X7_undo rfl (by decide +kernel) rfl ⟨by decide, by decide⟩ rfl (Nat.le_of_ble_eq_true rfl) (fun r9 M9 h9 => mX7_undo (by decide) ph _ _ h9) (fun r74 M75 h73 hf => ?_)
                      refine rr_aload_n hG dL_law_291 2 rfl rfl ?_
                      refine rr_cVI hG (st := [.int r74]) (n := 0) (ci := 8) (rf := 0) (rl := 0) [] dL_law_292 hf ⟨rfl, by decide⟩ (by decide) rfl gL_law_X8_undo rfl (by decide +kernel) rfl ⟨by decide, by decide⟩ rfl (Nat.le_of_ble_eq_true rfl) (fun r9 M9 h9 => mX8_undo ph _ _ h9) (fun r77 M78 h76 hf => ?_)
                      refine rr_icmp_eq hG (tgt := 675) dL_law_295 (by decide) hf (fun c79 hf => ?_) (fun c79 hf => ?_)
                      · refine rr_iinc hG (v := x3 + (4 : Int32)) (lv2 := [(3, .int (x3 + (4 : Int32))), (0, .ref b), (1, .ref (ph 0)), (2, .ref (ph 79))]) (k := 3) dL_law_675 rfl rfl (by decide) rfl ?_
                        refine rr_goto hG (tgt := 18) dL_law_678 (by decide) ?_
                        exact rr_sub (lv2 := [(0, .ref b), (1, .ref (ph 0)), (2, .ref (ph 79)), (3, .int (x3 + (4 : Int32)))]) [1, 2, 3, 0] rfl (ih _ _ hf)
                      · refine rr_iconst hG (v := 0) dL_law_298 (by decide) ?_
                        exact rr_lret1 hR hrho dL_law_299 hf
                    · rw [if_neg c72] at hf
                      by_cases c80 : v3 = 8
                      · rw [if_pos c80] at hf
                        refine rr_tableIn hG (tgt := 300) (8) dL_law_32 (by rw [c80]; decide) (by decide) (by decide) rfl (by decide) ?_
                        refine rr_aload_n hG dL_law_300 1 rfl rfl ?_
                        refine rr_aload_n hG dL_law_301 0 rfl rfl ?_
                        refine rr_iload_n hG dL_law_302 3 rfl rfl ?_
                        refine rr_iconst hG (v := 1) dL_law_303 (by decide) ?_
                        refine rr_iadd hG dL_law_304 ?_
                        refine rr_sld hG hX dL_law_305 hf (fun hf => ?_)
                        refine rr_aload_n hG dL_law_306 0 rfl rfl ?_
                        refine rr_iload_n hG dL_law_307 3 rfl rfl ?_
                        refine rr_iconst hG (v := 2) dL_law_308 (by decide) ?_
                        refine rr_iadd hG dL_law_309 ?_
                        refine rr_sld hG hX dL_law_310 hf (fun hf => ?_)
                        refine rr_cVI hG (st := []) (n := 2) (ci := 7) (rf := 1) (rl := 24) [.int (xs (x3 + (1 : Int32)).toNatClampNeg), .int (xs (x3 + (2 : Int32)).toNatClampNeg)] dL_law_311 hf ⟨rfl, by decide⟩ (by decide) rfl gL_law_X7_cell rfl (by decide +kernel) rfl ⟨by decide, by decide⟩ rfl (Nat.le_of_ble_eq_true rfl) (fun r9 M9 h9 => mX7_cell (by decide) ph _ _ _ _ h9) (fun r84 M85 h83 hf => ?_)
                        refine rr_aload_n hG dL_law_314 2 rfl rfl ?_
                        refine rr_aload_n hG dL_law_315 0 rfl rfl ?_
                        refine rr_iload_n hG dL_law_316 3 rfl rfl ?_
                        refine rr_iconst hG (v := 1) dL_law_317 (by decide) ?_
                        refine rr_iadd hG dL_law_318 ?_
                        refine rr_sld hG hX dL_law_319 hf (fun hf => ?_)
                        refine rr_aload_n hG dL_law_320 0 rfl rfl ?_
                        refine rr_iload_n hG dL_law_321 3 rfl rfl ?_
                        refine rr_iconst hG (v := 2) dL_law_322 (by decide) ?_
                        refine rr_iadd hG dL_law_323 ?_
                        refine rr_sld hG hX dL_law_324 hf (fun hf => ?_)
                        refine rr_cVI hG (st := [.int r84]) (n := 2) (ci := 8) (rf := 2) (rl := 44) [.int (xs (x3 + (1 : Int32)).toNatClampNeg), .int (xs (x3 + (2 : Int32)).toNatClampNeg)] dL_law_325 hf ⟨rfl, by decide⟩ (by decide) rfl gL_law_X8_cell rfl (by decide +kernel) rfl ⟨by decide, by decide⟩ rfl (Nat.le_of_ble_eq_true rfl) (fun r9 M9 h9 => mX8_cell ph _ _ _ _ h9) (fun r89 M90 h88 hf => ?_)
                        refine rr_icmp_eq hG (tgt := 675) dL_law_328 (by decide) hf (fun c91 hf => ?_) (fun c91 hf => ?_)
                        · refine rr_iinc hG (v := x3 + (4 : Int32)) (lv2 := [(3, .int (x3 + (4 : Int32))), (0, .ref b), (1, .ref (ph 0)), (2, .ref (ph 79))]) (k := 3) dL_law_675 rfl rfl (by decide) rfl ?_
                          refine rr_goto hG (tgt := 18) dL_law_678 (by decide) ?_
                          exact rr_sub (lv2 := [(0, .ref b), (1, .ref (ph 0)), (2, .ref (ph 79)), (3, .int (x3 + (4 : Int32)))]) [1, 2, 3, 0] rfl (ih _ _ hf)
                        · refine rr_iconst hG (v := 0) dL_law_331 (by decide) ?_
                          exact rr_lret1 hR hrho dL_law_332 hf
                      · rw [if_neg c80] at hf
                        by_cases c92 : v3 = 9
                        · rw [if_pos c92] at hf
                          refine rr_tableIn hG (tgt := 333) (9) dL_law_32 (by rw [c92]; decide) (by decide) (by decide) rfl (by decide) ?_
                          refine rr_aload_n hG dL_law_333 1 rfl rfl ?_
                          refine rr_aload_n hG dL_law_334 0 rfl rfl ?_
                          refine rr_iload_n hG dL_law_335 3 rfl rfl ?_
                          refine rr_iconst hG (v := 1) dL_law_336 (by decide) ?_
                          refine rr_iadd hG dL_law_337 ?_
                          refine rr_sld hG hX dL_law_338 hf (fun hf => ?_)
                          refine rr_aload_n hG dL_law_339 0 rfl rfl ?_
                          refine rr_iload_n hG dL_law_340 3 rfl rfl ?_
                          refine rr_iconst hG (v := 2) dL_law_341 (by decide) ?_
                          refine rr_iadd hG dL_law_342 ?_
                          refine rr_sld hG hX dL_law_343 hf (fun hf => ?_)
                          refine rr_cVI hG (st := []) (n := 2) (ci := 7) (rf := 1) (rl := 21) [.int (xs (x3 + (1 : Int32)).toNatClampNeg), .int (xs (x3 + (2 : Int32)).toNatClampNeg)] dL_law_344 hf ⟨rfl, by decide⟩ (by decide) rfl gL_law_X7_weight rfl (by decide +kernel) rfl ⟨by decide, by decide⟩ rfl (Nat.le_of_ble_eq_true rfl) (fun r9 M9 h9 => mX7_weight (by decide) ph _ _ _ _ h9) (fun r96 M97 h95 hf => ?_)
                          refine rr_aload_n hG dL_law_347 2 rfl rfl ?_
                          refine rr_aload_n hG dL_law_348 0 rfl rfl ?_
                          refine rr_iload_n hG dL_law_349 3 rfl rfl ?_
                          refine rr_iconst hG (v := 1) dL_law_350 (by decide) ?_
                          refine rr_iadd hG dL_law_351 ?_
                          refine rr_sld hG hX dL_law_352 hf (fun hf => ?_)
                          refine rr_aload_n hG dL_law_353 0 rfl rfl ?_
                          refine rr_iload_n hG dL_law_354 3 rfl rfl ?_
                          refine rr_iconst hG (v := 2) dL_law_355 (by decide) ?_
                          refine rr_iadd hG dL_law_356 ?_
                          refine rr_sld hG hX dL_law_357 hf (fun hf => ?_)
                          refine rr_cVI hG (st := [.int r96]) (n := 2) (ci := 8) (rf := 2) (rl := 43) [.int (xs (x3 + (1 : Int32)).toNatClampNeg), .int (xs (x3 + (2 : Int32)).toNatClampNeg)] dL_law_358 hf ⟨rfl, by decide⟩ (by decide) rfl gL_law_X8_weight rfl (by decide +kernel) rfl ⟨by decide, by decide⟩ rfl (Nat.le_of_ble_eq_true rfl) (fun r9 M9 h9 => mX8_weight ph _ _ _ _ h9) (fun r101 M102 h100 hf => ?_)
                          refine rr_icmp_eq hG (tgt := 675) dL_law_361 (by decide) hf (fun c103 hf => ?_) (fun c103 hf => ?_)
                          · refine rr_iinc hG (v := x3 + (4 : Int32)) (lv2 := [(3, .int (x3 + (4 : Int32))), (0, .ref b), (1, .ref (ph 0)), (2, .ref (ph 79))]) (k := 3) dL_law_675 rfl rfl (by decide) rfl ?_
                            refine rr_goto hG (tgt := 18) dL_law_678 (by decide) ?_
                            exact rr_sub (lv2 := [(0, .ref b), (1, .ref (ph 0)), (2, .ref (ph 79)), (3, .int (x3 + (4 : Int32)))]) [1, 2, 3, 0] rfl (ih _ _ hf)
                          · refine rr_iconst hG (v := 0) dL_law_364 (by decide) ?_
                            exact rr_lret1 hR hrho dL_law_365 hf
                        · rw [if_neg c92] at hf
                          by_cases c104 : v3 = 10
                          · rw [if_pos c104] at hf
                            refine rr_tableIn hG (tgt := 366) (10) dL_law_32 (by rw [c104]; decide) (by decide) (by decide) rfl (by decide) ?_
                            refine rr_aload_n hG dL_law_366 1 rfl rfl ?_
                            refine rr_aload_n hG dL_law_367 0 rfl rfl ?_
                            refine rr_iload_n hG dL_law_368 3 rfl rfl ?_
                            refine rr_iconst hG (v := 1) dL_law_369 (by decide) ?_
                            refine rr_iadd hG dL_law_370 ?_
                            refine rr_sld hG hX dL_law_371 hf (fun hf => ?_)
                            refine rr_aload_n hG dL_law_372 0 rfl rfl ?_
                            refine rr_iload_n hG dL_law_373 3 rfl rfl ?_
                            refine rr_iconst hG (v := 2) dL_law_374 (by decide) ?_
                            refine rr_iadd hG dL_law_375 ?_
                            refine rr_sld hG hX dL_law_376 hf (fun hf => ?_)
                            refine rr_cVI hG (st := []) (n := 2) (ci := 7) (rf := 1) (rl := 21) [.int (xs (x3 + (1 : Int32)).toNatClampNeg), .int (xs (x3 + (2 : Int32)).toNatClampNeg)] dL_law_377 hf ⟨rfl, by decide⟩ (by decide) rfl gL_law_X7_wide rfl (by decide +kernel) rfl ⟨by decide, by decide⟩ rfl (Nat.le_of_ble_eq_true rfl) (fun r9 M9 h9 => mX7_wide (by decide) ph _ _ _ _ h9) (fun r108 M109 h107 hf => ?_)
                            refine rr_aload_n hG dL_law_380 2 rfl rfl ?_
                            refine rr_aload_n hG dL_law_381 0 rfl rfl ?_
                            refine rr_iload_n hG dL_law_382 3 rfl rfl ?_
                            refine rr_iconst hG (v := 1) dL_law_383 (by decide) ?_
                            refine rr_iadd hG dL_law_384 ?_
                            refine rr_sld hG hX dL_law_385 hf (fun hf => ?_)
                            refine rr_aload_n hG dL_law_386 0 rfl rfl ?_
                            refine rr_iload_n hG dL_law_387 3 rfl rfl ?_
                            refine rr_iconst hG (v := 2) dL_law_388 (by decide) ?_
                            refine rr_iadd hG dL_law_389 ?_
                            refine rr_sld hG hX dL_law_390 hf (fun hf => ?_)
                            refine rr_cVI hG (st := [.int r108]) (n := 2) (ci := 8) (rf := 2) (rl := 49) [.int (xs (x3 + (1 : Int32)).toNatClampNeg), .int (xs (x3 + (2 : Int32)).toNatClampNeg)] dL_law_391 hf ⟨rfl, by decide⟩ (by decide) rfl gL_law_X8_wide rfl (by decide +kernel) rfl ⟨by decide, by decide⟩ rfl (Nat.le_of_ble_eq_true rfl) (fun r9 M9 h9 => mX8_wide ph _ _ _ _ h9) (fun r113 M114 h112 hf => ?_)
                            refine rr_icmp_eq hG (tgt := 675) dL_law_394 (by decide) hf (fun c115 hf => ?_) (fun c115 hf => ?_)
                            · refine rr_iinc hG (v := x3 + (4 : Int32)) (lv2 := [(3, .int (x3 + (4 : Int32))), (0, .ref b), (1, .ref (ph 0)), (2, .ref (ph 79))]) (k := 3) dL_law_675 rfl rfl (by decide) rfl ?_
                              refine rr_goto hG (tgt := 18) dL_law_678 (by decide) ?_
                              exact rr_sub (lv2 := [(0, .ref b), (1, .ref (ph 0)), (2, .ref (ph 79)), (3, .int (x3 + (4 : Int32)))]) [1, 2, 3, 0] rfl (ih _ _ hf)
                            · refine rr_iconst hG (v := 0) dL_law_397 (by decide) ?_
                              exact rr_lret1 hR hrho dL_law_398 hf
                          · rw [if_neg c104] at hf
                            by_cases c116 : v3 = 11
                            · rw [if_pos c116] at hf
                              refine rr_tableIn hG (tgt := 399) (11) dL_law_32 (by rw [c116]; decide) (by decide) (by decide) rfl (by decide) ?_
                              refine rr_aload_n hG dL_law_399 1 rfl rfl ?_
                              refine rr_aload_n hG dL_law_400 0 rfl rfl ?_
                              refine rr_iload_n hG dL_law_401 3 rfl rfl ?_
                              refine rr_iconst hG (v := 1) dL_law_402 (by decide) ?_
                              refine rr_iadd hG dL_law_403 ?_
                              refine rr_sld hG hX dL_law_404 hf (fun hf => ?_)
                              refine rr_cVI hG (st := []) (n := 1) (ci := 7) (rf := 3) (rl := 82) [.int (xs (x3 + (1 : Int32)).toNatClampNeg)] dL_law_405 hf ⟨rfl, by decide⟩ (by decide) rfl gL_law_X7_tick rfl (by decide +kernel) rfl ⟨by decide, by decide⟩ rfl (Nat.le_of_ble_eq_true rfl) (fun r9 M9 h9 => mX7_tick (by decide) ph _ _ _ h9) (fun r119 M120 h118 hf => ?_)
                              refine rr_aload_n hG dL_law_408 2 rfl rfl ?_
                              refine rr_aload_n hG dL_law_409 0 rfl rfl ?_
                              refine rr_iload_n hG dL_law_410 3 rfl rfl ?_
                              refine rr_iconst hG (v := 1) dL_law_411 (by decide) ?_
                              refine rr_iadd hG dL_law_412 ?_
                              refine rr_sld hG hX dL_law_413 hf (fun hf => ?_)
                              refine rr_cVI hG (st := [.int r119]) (n := 1) (ci := 8) (rf := 4) (rl := 92) [.int (xs (x3 + (1 : Int32)).toNatClampNeg)] dL_law_414 hf ⟨rfl, by decide⟩ (by decide) rfl gL_law_X8_tick rfl (by decide +kernel) rfl ⟨by decide, by decide⟩ rfl (Nat.le_of_ble_eq_true rfl) (fun r9 M9 h9 => mX8_tick ph _ _ _ h9) (fun r123 M124 h122 hf => ?_)
                              refine rr_icmp_eq hG (tgt := 675) dL_law_417 (by decide) hf (fun c125 hf => ?_) (fun c125 hf => ?_)
                              · refine rr_iinc hG (v := x3 + (4 : Int32)) (lv2 := [(3, .int (x3 + (4 : Int32))), (0, .ref b), (1, .ref (ph 0)), (2, .ref (ph 79))]) (k := 3) dL_law_675 rfl rfl (by decide) rfl ?_
                                refine rr_goto hG (tgt := 18) dL_law_678 (by decide) ?_
                                exact rr_sub (lv2 := [(0, .ref b), (1, .ref (ph 0)), (2, .ref (ph 79)), (3, .int (x3 + (4 : Int32)))]) [1, 2, 3, 0] rfl (ih _ _ hf)
                              · refine rr_iconst hG (v := 0) dL_law_420 (by decide) ?_
                                exact rr_lret1 hR hrho dL_law_421 hf
                            · rw [if_neg c116] at hf
                              by_cases c126 : v3 = 12
                              · rw [if_pos c126] at hf
                                refine rr_tableIn hG (tgt := 422) (12) dL_law_32 (by rw [c126]; decide) (by decide) (by decide) rfl (by decide) ?_
                                refine rr_aload_n hG dL_law_422 1 rfl rfl ?_
                                refine rr_cVI hG (st := []) (n := 0) (ci := 7) (rf := 5) (rl := 121) [] dL_law_423 hf ⟨rfl, by decide⟩ (by decide) rfl gL_law_X7_page rfl (by decide +kernel) rfl ⟨by decide, by decide⟩ rfl (Nat.le_of_ble_eq_true rfl) (fun r9 M9 h9 => mX7_page (by decide) ph _ _ h9) (fun r128 M129 h127 hf => ?_)
                                refine rr_aload_n hG dL_law_426 2 rfl rfl ?_
                                refine rr_cVI hG (st := [.int r128]) (n := 0) (ci := 8) (rf := 6) (rl := 149) [] dL_law_427 hf ⟨rfl, by decide⟩ (by decide) rfl gL_law_X8_page rfl (by decide +kernel) rfl ⟨by decide, by decide⟩ rfl (Nat.le_of_ble_eq_true rfl) (fun r9 M9 h9 => mX8_page ph _ _ h9) (fun r131 M132 h130 hf => ?_)
                                refine rr_icmp_eq hG (tgt := 675) dL_law_430 (by decide) hf (fun c133 hf => ?_) (fun c133 hf => ?_)
                                · refine rr_iinc hG (v := x3 + (4 : Int32)) (lv2 := [(3, .int (x3 + (4 : Int32))), (0, .ref b), (1, .ref (ph 0)), (2, .ref (ph 79))]) (k := 3) dL_law_675 rfl rfl (by decide) rfl ?_
                                  refine rr_goto hG (tgt := 18) dL_law_678 (by decide) ?_
                                  exact rr_sub (lv2 := [(0, .ref b), (1, .ref (ph 0)), (2, .ref (ph 79)), (3, .int (x3 + (4 : Int32)))]) [1, 2, 3, 0] rfl (ih _ _ hf)
                                · refine rr_iconst hG (v := 0) dL_law_433 (by decide) ?_
                                  exact rr_lret1 hR hrho dL_law_434 hf
                              · rw [if_neg c126] at hf
                                by_cases c134 : v3 = 13
                                · rw [if_pos c134] at hf
                                  refine rr_tableIn hG (tgt := 435) (13) dL_law_32 (by rw [c134]; decide) (by decide) (by decide) rfl (by decide) ?_
                                  refine rr_aload_n hG dL_law_435 1 rfl rfl ?_
                                  refine rr_aload_n hG dL_law_436 0 rfl rfl ?_
                                  refine rr_iload_n hG dL_law_437 3 rfl rfl ?_
                                  refine rr_iconst hG (v := 1) dL_law_438 (by decide) ?_
                                  refine rr_iadd hG dL_law_439 ?_
                                  refine rr_sld hG hX dL_law_440 hf (fun hf => ?_)
                                  refine rr_cVI hG (st := []) (n := 1) (ci := 7) (rf := 0) (rl := 0) [.int (xs (x3 + (1 : Int32)).toNatClampNeg)] dL_law_441 hf ⟨rfl, by decide⟩ (by decide) rfl gL_law_X7_handset rfl (by decide +kernel) rfl ⟨by decide, by decide⟩ rfl (Nat.le_of_ble_eq_true rfl) (fun r9 M9 h9 => mX7_handset (by decide) ph _ _ _ h9) (fun r137 M138 h136 hf => ?_)
                                  refine rr_aload_n hG dL_law_444 2 rfl rfl ?_
                                  refine rr_aload_n hG dL_law_445 0 rfl rfl ?_
                                  refine rr_iload_n hG dL_law_446 3 rfl rfl ?_
                                  refine rr_iconst hG (v := 1) dL_law_447 (by decide) ?_
                                  refine rr_iadd hG dL_law_448 ?_
                                  refine rr_sld hG hX dL_law_449 hf (fun hf => ?_)
                                  refine rr_cVI hG (st := [.int r137]) (n := 1) (ci := 8) (rf := 1) (rl := 22) [.int (xs (x3 + (1 : Int32)).toNatClampNeg)] dL_law_450 hf ⟨rfl, by decide⟩ (by decide) rfl gL_law_X8_handset rfl (by decide +kernel) rfl ⟨by decide, by decide⟩ rfl (Nat.le_of_ble_eq_true rfl) (fun r9 M9 h9 => mX8_handset ph _ _ _ h9) (fun r141 M142 h140 hf => ?_)
                                  refine rr_icmp_eq hG (tgt := 675) dL_law_453 (by decide) hf (fun c143 hf => ?_) (fun c143 hf => ?_)
                                  · refine rr_iinc hG (v := x3 + (4 : Int32)) (lv2 := [(3, .int (x3 + (4 : Int32))), (0, .ref b), (1, .ref (ph 0)), (2, .ref (ph 79))]) (k := 3) dL_law_675 rfl rfl (by decide) rfl ?_
                                    refine rr_goto hG (tgt := 18) dL_law_678 (by decide) ?_
                                    exact rr_sub (lv2 := [(0, .ref b), (1, .ref (ph 0)), (2, .ref (ph 79)), (3, .int (x3 + (4 : Int32)))]) [1, 2, 3, 0] rfl (ih _ _ hf)
                                  · refine rr_iconst hG (v := 0) dL_law_456 (by decide) ?_
                                    exact rr_lret1 hR hrho dL_law_457 hf
                                · rw [if_neg c134] at hf
                                  by_cases c144 : v3 = 14
                                  · rw [if_pos c144] at hf
                                    refine rr_tableIn hG (tgt := 458) (14) dL_law_32 (by rw [c144]; decide) (by decide) (by decide) rfl (by decide) ?_
                                    refine rr_aload_n hG dL_law_458 1 rfl rfl ?_
                                    refine rr_cVI hG (st := []) (n := 0) (ci := 7) (rf := 4) (rl := 101) [] dL_law_459 hf ⟨rfl, by decide⟩ (by decide) rfl gL_law_X7_where rfl (by decide +kernel) rfl ⟨by decide, by decide⟩ rfl (Nat.le_of_ble_eq_true rfl) (fun r9 M9 h9 => mX7_where (by decide) ph _ _ h9) (fun r146 M147 h145 hf => ?_)
                                    refine rr_aload_n hG dL_law_462 2 rfl rfl ?_
                                    refine rr_cVI hG (st := [.int r146]) (n := 0) (ci := 8) (rf := 4) (rl := 99) [] dL_law_463 hf ⟨rfl, by decide⟩ (by decide) rfl gL_law_X8_where rfl (by decide +kernel) rfl ⟨by decide, by decide⟩ rfl (Nat.le_of_ble_eq_true rfl) (fun r9 M9 h9 => mX8_where ph _ _ h9) (fun r149 M150 h148 hf => ?_)
                                    refine rr_icmp_eq hG (tgt := 675) dL_law_466 (by decide) hf (fun c151 hf => ?_) (fun c151 hf => ?_)
                                    · refine rr_iinc hG (v := x3 + (4 : Int32)) (lv2 := [(3, .int (x3 + (4 : Int32))), (0, .ref b), (1, .ref (ph 0)), (2, .ref (ph 79))]) (k := 3) dL_law_675 rfl rfl (by decide) rfl ?_
                                      refine rr_goto hG (tgt := 18) dL_law_678 (by decide) ?_
                                      exact rr_sub (lv2 := [(0, .ref b), (1, .ref (ph 0)), (2, .ref (ph 79)), (3, .int (x3 + (4 : Int32)))]) [1, 2, 3, 0] rfl (ih _ _ hf)
                                    · refine rr_iconst hG (v := 0) dL_law_469 (by decide) ?_
                                      exact rr_lret1 hR hrho dL_law_470 hf
                                  · rw [if_neg c144] at hf
                                    by_cases c152 : v3 = 15
                                    · rw [if_pos c152] at hf
                                      refine rr_tableIn hG (tgt := 471) (15) dL_law_32 (by rw [c152]; decide) (by decide) (by decide) rfl (by decide) ?_
                                      refine rr_aload_n hG dL_law_471 1 rfl rfl ?_
                                      refine rr_aload_n hG dL_law_472 0 rfl rfl ?_
                                      refine rr_iload_n hG dL_law_473 3 rfl rfl ?_
                                      refine rr_iconst hG (v := 1) dL_law_474 (by decide) ?_
                                      refine rr_iadd hG dL_law_475 ?_
                                      refine rr_sld hG hX dL_law_476 hf (fun hf => ?_)
                                      refine rr_cVI hG (st := []) (n := 1) (ci := 7) (rf := 5) (rl := 121) [.int (xs (x3 + (1 : Int32)).toNatClampNeg)] dL_law_477 hf ⟨rfl, by decide⟩ (by decide) rfl gL_law_X7_round rfl (by decide +kernel) rfl ⟨by decide, by decide⟩ rfl (Nat.le_of_ble_eq_true rfl) (fun r9 M9 h9 => mX7_round (by decide) ph _ _ _ h9) (fun r155 M156 h154 hf => ?_)
                                      refine rr_aload_n hG dL_law_480 2 rfl rfl ?_
                                      refine rr_aload_n hG dL_law_481 0 rfl rfl ?_
                                      refine rr_iload_n hG dL_law_482 3 rfl rfl ?_
                                      refine rr_iconst hG (v := 1) dL_law_483 (by decide) ?_
                                      refine rr_iadd hG dL_law_484 ?_
                                      refine rr_sld hG hX dL_law_485 hf (fun hf => ?_)
                                      refine rr_cVI hG (st := [.int r155]) (n := 1) (ci := 8) (rf := 6) (rl := 149) [.int (xs (x3 + (1 : Int32)).toNatClampNeg)] dL_law_486 hf ⟨rfl, by decide⟩ (by decide) rfl gL_law_X8_round rfl (by decide +kernel) rfl ⟨by decide, by decide⟩ rfl (Nat.le_of_ble_eq_true rfl) (fun r9 M9 h9 => mX8_round ph _ _ _ h9) (fun r159 M160 h158 hf => ?_)
                                      refine rr_icmp_eq hG (tgt := 675) dL_law_489 (by decide) hf (fun c161 hf => ?_) (fun c161 hf => ?_)
                                      · refine rr_iinc hG (v := x3 + (4 : Int32)) (lv2 := [(3, .int (x3 + (4 : Int32))), (0, .ref b), (1, .ref (ph 0)), (2, .ref (ph 79))]) (k := 3) dL_law_675 rfl rfl (by decide) rfl ?_
                                        refine rr_goto hG (tgt := 18) dL_law_678 (by decide) ?_
                                        exact rr_sub (lv2 := [(0, .ref b), (1, .ref (ph 0)), (2, .ref (ph 79)), (3, .int (x3 + (4 : Int32)))]) [1, 2, 3, 0] rfl (ih _ _ hf)
                                      · refine rr_iconst hG (v := 0) dL_law_492 (by decide) ?_
                                        exact rr_lret1 hR hrho dL_law_493 hf
                                    · rw [if_neg c152] at hf
                                      by_cases c162 : v3 = 16
                                      · rw [if_pos c162] at hf
                                        refine rr_tableIn hG (tgt := 494) (16) dL_law_32 (by rw [c162]; decide) (by decide) (by decide) rfl (by decide) ?_
                                        refine rr_aload_n hG dL_law_494 1 rfl rfl ?_
                                        refine rr_aload_n hG dL_law_495 0 rfl rfl ?_
                                        refine rr_iload_n hG dL_law_496 3 rfl rfl ?_
                                        refine rr_iconst hG (v := 1) dL_law_497 (by decide) ?_
                                        refine rr_iadd hG dL_law_498 ?_
                                        refine rr_sld hG hX dL_law_499 hf (fun hf => ?_)
                                        refine rr_aload_n hG dL_law_500 0 rfl rfl ?_
                                        refine rr_iload_n hG dL_law_501 3 rfl rfl ?_
                                        refine rr_iconst hG (v := 2) dL_law_502 (by decide) ?_
                                        refine rr_iadd hG dL_law_503 ?_
                                        refine rr_sld hG hX dL_law_504 hf (fun hf => ?_)
                                        refine rr_cVJ hG (st := []) (n := 2) (ci := 7) (rf := 2) (rl := 52) [.int (xs (x3 + (1 : Int32)).toNatClampNeg), .int (xs (x3 + (2 : Int32)).toNatClampNeg)] dL_law_505 hf ⟨rfl, by decide⟩ (by decide) rfl gL_law_X7_chance rfl (by decide +kernel) rfl ⟨by decide, by decide⟩ rfl (Nat.le_of_ble_eq_true rfl) (fun r9 M9 h9 => mX7_chance (by decide) ph _ _ _ _ h9) (fun r166 M167 h165 hf => ?_)
                                        refine rr_aload_n hG dL_law_508 2 rfl rfl ?_
                                        refine rr_aload_n hG dL_law_509 0 rfl rfl ?_
                                        refine rr_iload_n hG dL_law_510 3 rfl rfl ?_
                                        refine rr_iconst hG (v := 1) dL_law_511 (by decide) ?_
                                        refine rr_iadd hG dL_law_512 ?_
                                        refine rr_sld hG hX dL_law_513 hf (fun hf => ?_)
                                        refine rr_aload_n hG dL_law_514 0 rfl rfl ?_
                                        refine rr_iload_n hG dL_law_515 3 rfl rfl ?_
                                        refine rr_iconst hG (v := 2) dL_law_516 (by decide) ?_
                                        refine rr_iadd hG dL_law_517 ?_
                                        refine rr_sld hG hX dL_law_518 hf (fun hf => ?_)
                                        refine rr_cVJ hG (st := [.long r166]) (n := 2) (ci := 8) (rf := 3) (rl := 67) [.int (xs (x3 + (1 : Int32)).toNatClampNeg), .int (xs (x3 + (2 : Int32)).toNatClampNeg)] dL_law_519 hf ⟨rfl, by decide⟩ (by decide) rfl gL_law_X8_chance rfl (by decide +kernel) rfl ⟨by decide, by decide⟩ rfl (Nat.le_of_ble_eq_true rfl) (fun r9 M9 h9 => mX8_chance ph _ _ _ _ h9) (fun r171 M172 h170 hf => ?_)
                                        refine rr_lcmp hG dL_law_522 ?_
                                        refine rr_if_eq hG (tgt := 675) dL_law_523 (by decide) hf (fun c173 hf => ?_) (fun c173 hf => ?_)
                                        · refine rr_iinc hG (v := x3 + (4 : Int32)) (lv2 := [(3, .int (x3 + (4 : Int32))), (0, .ref b), (1, .ref (ph 0)), (2, .ref (ph 79))]) (k := 3) dL_law_675 rfl rfl (by decide) rfl ?_
                                          refine rr_goto hG (tgt := 18) dL_law_678 (by decide) ?_
                                          exact rr_sub (lv2 := [(0, .ref b), (1, .ref (ph 0)), (2, .ref (ph 79)), (3, .int (x3 + (4 : Int32)))]) [1, 2, 3, 0] rfl (ih _ _ hf)
                                        · refine rr_iconst hG (v := 0) dL_law_526 (by decide) ?_
                                          exact rr_lret1 hR hrho dL_law_527 hf
                                      · rw [if_neg c162] at hf
                                        by_cases c174 : v3 = 17
                                        · rw [if_pos c174] at hf
                                          refine rr_tableIn hG (tgt := 528) (17) dL_law_32 (by rw [c174]; decide) (by decide) (by decide) rfl (by decide) ?_
                                          refine rr_aload_n hG dL_law_528 1 rfl rfl ?_
                                          refine rr_aload_n hG dL_law_529 0 rfl rfl ?_
                                          refine rr_iload_n hG dL_law_530 3 rfl rfl ?_
                                          refine rr_iconst hG (v := 1) dL_law_531 (by decide) ?_
                                          refine rr_iadd hG dL_law_532 ?_
                                          refine rr_sld hG hX dL_law_533 hf (fun hf => ?_)
                                          refine rr_aload_n hG dL_law_534 0 rfl rfl ?_
                                          refine rr_iload_n hG dL_law_535 3 rfl rfl ?_
                                          refine rr_iconst hG (v := 2) dL_law_536 (by decide) ?_
                                          refine rr_iadd hG dL_law_537 ?_
                                          refine rr_sld hG hX dL_law_538 hf (fun hf => ?_)
                                          refine rr_cVJ hG (st := []) (n := 2) (ci := 7) (rf := 3) (rl := 73) [.int (xs (x3 + (1 : Int32)).toNatClampNeg), .int (xs (x3 + (2 : Int32)).toNatClampNeg)] dL_law_539 hf ⟨rfl, by decide⟩ (by decide) rfl gL_law_X7_mean rfl (by decide +kernel) rfl ⟨by decide, by decide⟩ rfl (Nat.le_of_ble_eq_true rfl) (fun r9 M9 h9 => mX7_mean (by decide) ph _ _ _ _ h9) (fun r178 M179 h177 hf => ?_)
                                          refine rr_aload_n hG dL_law_542 2 rfl rfl ?_
                                          refine rr_aload_n hG dL_law_543 0 rfl rfl ?_
                                          refine rr_iload_n hG dL_law_544 3 rfl rfl ?_
                                          refine rr_iconst hG (v := 1) dL_law_545 (by decide) ?_
                                          refine rr_iadd hG dL_law_546 ?_
                                          refine rr_sld hG hX dL_law_547 hf (fun hf => ?_)
                                          refine rr_aload_n hG dL_law_548 0 rfl rfl ?_
                                          refine rr_iload_n hG dL_law_549 3 rfl rfl ?_
                                          refine rr_iconst hG (v := 2) dL_law_550 (by decide) ?_
                                          refine rr_iadd hG dL_law_551 ?_
                                          refine rr_sld hG hX dL_law_552 hf (fun hf => ?_)
                                          refine rr_cVJ hG (st := [.long r178]) (n := 2) (ci := 8) (rf := 3) (rl := 70) [.int (xs (x3 + (1 : Int32)).toNatClampNeg), .int (xs (x3 + (2 : Int32)).toNatClampNeg)] dL_law_553 hf ⟨rfl, by decide⟩ (by decide) rfl gL_law_X8_mean rfl (by decide +kernel) rfl ⟨by decide, by decide⟩ rfl (Nat.le_of_ble_eq_true rfl) (fun r9 M9 h9 => mX8_mean ph _ _ _ _ h9) (fun r183 M184 h182 hf => ?_)
                                          refine rr_lcmp hG dL_law_556 ?_
                                          refine rr_if_eq hG (tgt := 675) dL_law_557 (by decide) hf (fun c185 hf => ?_) (fun c185 hf => ?_)
                                          · refine rr_iinc hG (v := x3 + (4 : Int32)) (lv2 := [(3, .int (x3 + (4 : Int32))), (0, .ref b), (1, .ref (ph 0)), (2, .ref (ph 79))]) (k := 3) dL_law_675 rfl rfl (by decide) rfl ?_
                                            refine rr_goto hG (tgt := 18) dL_law_678 (by decide) ?_
                                            exact rr_sub (lv2 := [(0, .ref b), (1, .ref (ph 0)), (2, .ref (ph 79)), (3, .int (x3 + (4 : Int32)))]) [1, 2, 3, 0] rfl (ih _ _ hf)
                                          · refine rr_iconst hG (v := 0) dL_law_560 (by decide) ?_
                                            exact rr_lret1 hR hrho dL_law_561 hf
                                        · rw [if_neg c174] at hf
                                          by_cases c186 : v3 = 18
                                          · rw [if_pos c186] at hf
                                            refine rr_tableIn hG (tgt := 562) (18) dL_law_32 (by rw [c186]; decide) (by decide) (by decide) rfl (by decide) ?_
                                            refine rr_aload_n hG dL_law_562 1 rfl rfl ?_
                                            refine rr_aload_n hG dL_law_563 0 rfl rfl ?_
                                            refine rr_iload_n hG dL_law_564 3 rfl rfl ?_
                                            refine rr_iconst hG (v := 1) dL_law_565 (by decide) ?_
                                            refine rr_iadd hG dL_law_566 ?_
                                            refine rr_sld hG hX dL_law_567 hf (fun hf => ?_)
                                            refine rr_cVI hG (st := []) (n := 1) (ci := 7) (rf := 4) (rl := 90) [.int (xs (x3 + (1 : Int32)).toNatClampNeg)] dL_law_568 hf ⟨rfl, by decide⟩ (by decide) rfl gL_law_X7_best rfl (by decide +kernel) rfl ⟨by decide, by decide⟩ rfl (Nat.le_of_ble_eq_true rfl) (fun r9 M9 h9 => mX7_best (by decide) ph _ _ _ h9) (fun r189 M190 h188 hf => ?_)
                                            refine rr_aload_n hG dL_law_571 2 rfl rfl ?_
                                            refine rr_aload_n hG dL_law_572 0 rfl rfl ?_
                                            refine rr_iload_n hG dL_law_573 3 rfl rfl ?_
                                            refine rr_iconst hG (v := 1) dL_law_574 (by decide) ?_
                                            refine rr_iadd hG dL_law_575 ?_
                                            refine rr_sld hG hX dL_law_576 hf (fun hf => ?_)
                                            refine rr_cVI hG (st := [.int r189]) (n := 1) (ci := 8) (rf := 4) (rl := 95) [.int (xs (x3 + (1 : Int32)).toNatClampNeg)] dL_law_577 hf ⟨rfl, by decide⟩ (by decide) rfl gL_law_X8_best rfl (by decide +kernel) rfl ⟨by decide, by decide⟩ rfl (Nat.le_of_ble_eq_true rfl) (fun r9 M9 h9 => mX8_best ph _ _ _ h9) (fun r193 M194 h192 hf => ?_)
                                            refine rr_icmp_eq hG (tgt := 675) dL_law_580 (by decide) hf (fun c195 hf => ?_) (fun c195 hf => ?_)
                                            · refine rr_iinc hG (v := x3 + (4 : Int32)) (lv2 := [(3, .int (x3 + (4 : Int32))), (0, .ref b), (1, .ref (ph 0)), (2, .ref (ph 79))]) (k := 3) dL_law_675 rfl rfl (by decide) rfl ?_
                                              refine rr_goto hG (tgt := 18) dL_law_678 (by decide) ?_
                                              exact rr_sub (lv2 := [(0, .ref b), (1, .ref (ph 0)), (2, .ref (ph 79)), (3, .int (x3 + (4 : Int32)))]) [1, 2, 3, 0] rfl (ih _ _ hf)
                                            · refine rr_iconst hG (v := 0) dL_law_583 (by decide) ?_
                                              exact rr_lret1 hR hrho dL_law_584 hf
                                          · rw [if_neg c186] at hf
                                            by_cases c196 : v3 = 19
                                            · rw [if_pos c196] at hf
                                              refine rr_tableIn hG (tgt := 585) (19) dL_law_32 (by rw [c196]; decide) (by decide) (by decide) rfl (by decide) ?_
                                              refine rr_aload_n hG dL_law_585 1 rfl rfl ?_
                                              refine rr_aload_n hG dL_law_586 0 rfl rfl ?_
                                              refine rr_iload_n hG dL_law_587 3 rfl rfl ?_
                                              refine rr_iconst hG (v := 1) dL_law_588 (by decide) ?_
                                              refine rr_iadd hG dL_law_589 ?_
                                              refine rr_sld hG hX dL_law_590 hf (fun hf => ?_)
                                              refine rr_cVJ hG (st := []) (n := 1) (ci := 7) (rf := 4) (rl := 90) [.int (xs (x3 + (1 : Int32)).toNatClampNeg)] dL_law_591 hf ⟨rfl, by decide⟩ (by decide) rfl gL_law_X7_least rfl (by decide +kernel) rfl ⟨by decide, by decide⟩ rfl (Nat.le_of_ble_eq_true rfl) (fun r9 M9 h9 => mX7_least (by decide) ph _ _ _ h9) (fun r199 M200 h198 hf => ?_)
                                              refine rr_aload_n hG dL_law_594 2 rfl rfl ?_
                                              refine rr_aload_n hG dL_law_595 0 rfl rfl ?_
                                              refine rr_iload_n hG dL_law_596 3 rfl rfl ?_
                                              refine rr_iconst hG (v := 1) dL_law_597 (by decide) ?_
                                              refine rr_iadd hG dL_law_598 ?_
                                              refine rr_sld hG hX dL_law_599 hf (fun hf => ?_)
                                              refine rr_cVJ hG (st := [.long r199]) (n := 1) (ci := 8) (rf := 4) (rl := 95) [.int (xs (x3 + (1 : Int32)).toNatClampNeg)] dL_law_600 hf ⟨rfl, by decide⟩ (by decide) rfl gL_law_X8_least rfl (by decide +kernel) rfl ⟨by decide, by decide⟩ rfl (Nat.le_of_ble_eq_true rfl) (fun r9 M9 h9 => mX8_least ph _ _ _ h9) (fun r203 M204 h202 hf => ?_)
                                              refine rr_lcmp hG dL_law_603 ?_
                                              refine rr_if_eq hG (tgt := 675) dL_law_604 (by decide) hf (fun c205 hf => ?_) (fun c205 hf => ?_)
                                              · refine rr_iinc hG (v := x3 + (4 : Int32)) (lv2 := [(3, .int (x3 + (4 : Int32))), (0, .ref b), (1, .ref (ph 0)), (2, .ref (ph 79))]) (k := 3) dL_law_675 rfl rfl (by decide) rfl ?_
                                                refine rr_goto hG (tgt := 18) dL_law_678 (by decide) ?_
                                                exact rr_sub (lv2 := [(0, .ref b), (1, .ref (ph 0)), (2, .ref (ph 79)), (3, .int (x3 + (4 : Int32)))]) [1, 2, 3, 0] rfl (ih _ _ hf)
                                              · refine rr_iconst hG (v := 0) dL_law_607 (by decide) ?_
                                                exact rr_lret1 hR hrho dL_law_608 hf
                                            · rw [if_neg c196] at hf
                                              by_cases c206 : v3 = 20
                                              · rw [if_pos c206] at hf
                                                refine rr_tableIn hG (tgt := 609) (20) dL_law_32 (by rw [c206]; decide) (by decide) (by decide) rfl (by decide) ?_
                                                refine rr_aload_n hG dL_law_609 1 rfl rfl ?_
                                                refine rr_aload_n hG dL_law_610 0 rfl rfl ?_
                                                refine rr_iload_n hG dL_law_611 3 rfl rfl ?_
                                                refine rr_iconst hG (v := 1) dL_law_612 (by decide) ?_
                                                refine rr_iadd hG dL_law_613 ?_
                                                refine rr_sld hG hX dL_law_614 hf (fun hf => ?_)
                                                refine rr_aload_n hG dL_law_615 0 rfl rfl ?_
                                                refine rr_iload_n hG dL_law_616 3 rfl rfl ?_
                                                refine rr_iconst hG (v := 2) dL_law_617 (by decide) ?_
                                                refine rr_iadd hG dL_law_618 ?_
                                                refine rr_sld hG hX dL_law_619 hf (fun hf => ?_)
                                                refine rr_aload_n hG dL_law_620 0 rfl rfl ?_
                                                refine rr_iload_n hG dL_law_621 3 rfl rfl ?_
                                                refine rr_iconst hG (v := 3) dL_law_622 (by decide) ?_
                                                refine rr_iadd hG dL_law_623 ?_
                                                refine rr_sld hG hX dL_law_624 hf (fun hf => ?_)
                                                refine rr_cVI hG (st := []) (n := 3) (ci := 7) (rf := 3) (rl := 65) [.int (xs (x3 + (1 : Int32)).toNatClampNeg), .int (xs (x3 + (2 : Int32)).toNatClampNeg), .int (xs (x3 + (3 : Int32)).toNatClampNeg)] dL_law_625 hf ⟨rfl, by decide⟩ (by decide) rfl gL_law_X7_walk rfl (by decide +kernel) rfl ⟨by decide, by decide⟩ rfl (Nat.le_of_ble_eq_true rfl) (fun r9 M9 h9 => mX7_walk (by decide) ph _ _ _ _ _ h9) (fun r211 M212 h210 hf => ?_)
                                                refine rr_aload_n hG dL_law_628 2 rfl rfl ?_
                                                refine rr_aload_n hG dL_law_629 0 rfl rfl ?_
                                                refine rr_iload_n hG dL_law_630 3 rfl rfl ?_
                                                refine rr_iconst hG (v := 1) dL_law_631 (by decide) ?_
                                                refine rr_iadd hG dL_law_632 ?_
                                                refine rr_sld hG hX dL_law_633 hf (fun hf => ?_)
                                                refine rr_aload_n hG dL_law_634 0 rfl rfl ?_
                                                refine rr_iload_n hG dL_law_635 3 rfl rfl ?_
                                                refine rr_iconst hG (v := 2) dL_law_636 (by decide) ?_
                                                refine rr_iadd hG dL_law_637 ?_
                                                refine rr_sld hG hX dL_law_638 hf (fun hf => ?_)
                                                refine rr_aload_n hG dL_law_639 0 rfl rfl ?_
                                                refine rr_iload_n hG dL_law_640 3 rfl rfl ?_
                                                refine rr_iconst hG (v := 3) dL_law_641 (by decide) ?_
                                                refine rr_iadd hG dL_law_642 ?_
                                                refine rr_sld hG hX dL_law_643 hf (fun hf => ?_)
                                                refine rr_cVI hG (st := [.int r211]) (n := 3) (ci := 8) (rf := 4) (rl := 92) [.int (xs (x3 + (1 : Int32)).toNatClampNeg), .int (xs (x3 + (2 : Int32)).toNatClampNeg), .int (xs (x3 + (3 : Int32)).toNatClampNeg)] dL_law_644 hf ⟨rfl, by decide⟩ (by decide) rfl gL_law_X8_walk rfl (by decide +kernel) rfl ⟨by decide, by decide⟩ rfl (Nat.le_of_ble_eq_true rfl) (fun r9 M9 h9 => mX8_walk ph _ _ _ _ _ h9) (fun r217 M218 h216 hf => ?_)
                                                refine rr_icmp_eq hG (tgt := 675) dL_law_647 (by decide) hf (fun c219 hf => ?_) (fun c219 hf => ?_)
                                                · refine rr_iinc hG (v := x3 + (4 : Int32)) (lv2 := [(3, .int (x3 + (4 : Int32))), (0, .ref b), (1, .ref (ph 0)), (2, .ref (ph 79))]) (k := 3) dL_law_675 rfl rfl (by decide) rfl ?_
                                                  refine rr_goto hG (tgt := 18) dL_law_678 (by decide) ?_
                                                  exact rr_sub (lv2 := [(0, .ref b), (1, .ref (ph 0)), (2, .ref (ph 79)), (3, .int (x3 + (4 : Int32)))]) [1, 2, 3, 0] rfl (ih _ _ hf)
                                                · refine rr_iconst hG (v := 0) dL_law_650 (by decide) ?_
                                                  exact rr_lret1 hR hrho dL_law_651 hf
                                              · rw [if_neg c206] at hf
                                                by_cases c220 : v3 = 21
                                                · rw [if_pos c220] at hf
                                                  refine rr_tableIn hG (tgt := 652) (21) dL_law_32 (by rw [c220]; decide) (by decide) (by decide) rfl (by decide) ?_
                                                  refine rr_aload_n hG dL_law_652 1 rfl rfl ?_
                                                  refine rr_aload_n hG dL_law_653 0 rfl rfl ?_
                                                  refine rr_iload_n hG dL_law_654 3 rfl rfl ?_
                                                  refine rr_iconst hG (v := 1) dL_law_655 (by decide) ?_
                                                  refine rr_iadd hG dL_law_656 ?_
                                                  refine rr_sld hG hX dL_law_657 hf (fun hf => ?_)
                                                  refine rr_cVI hG (st := []) (n := 1) (ci := 7) (rf := 0) (rl := 0) [.int (xs (x3 + (1 : Int32)).toNatClampNeg)] dL_law_658 hf ⟨rfl, by decide⟩ (by decide) rfl gL_law_X7_count rfl (by decide +kernel) rfl ⟨by decide, by decide⟩ rfl (Nat.le_of_ble_eq_true rfl) (fun r9 M9 h9 => mX7_count (by decide) ph _ _ _ h9) (fun r223 M224 h222 hf => ?_)
                                                  refine rr_aload_n hG dL_law_661 2 rfl rfl ?_
                                                  refine rr_aload_n hG dL_law_662 0 rfl rfl ?_
                                                  refine rr_iload_n hG dL_law_663 3 rfl rfl ?_
                                                  refine rr_iconst hG (v := 1) dL_law_664 (by decide) ?_
                                                  refine rr_iadd hG dL_law_665 ?_
                                                  refine rr_sld hG hX dL_law_666 hf (fun hf => ?_)
                                                  refine rr_cVI hG (st := [.int r223]) (n := 1) (ci := 8) (rf := 0) (rl := 0) [.int (xs (x3 + (1 : Int32)).toNatClampNeg)] dL_law_667 hf ⟨rfl, by decide⟩ (by decide) rfl gL_law_X8_count rfl (by decide +kernel) rfl ⟨by decide, by decide⟩ rfl (Nat.le_of_ble_eq_true rfl) (fun r9 M9 h9 => mX8_count ph _ _ _ h9) (fun r227 M228 h226 hf => ?_)
                                                  refine rr_icmp_eq hG (tgt := 675) dL_law_670 (by decide) hf (fun c229 hf => ?_) (fun c229 hf => ?_)
                                                  · refine rr_iinc hG (v := x3 + (4 : Int32)) (lv2 := [(3, .int (x3 + (4 : Int32))), (0, .ref b), (1, .ref (ph 0)), (2, .ref (ph 79))]) (k := 3) dL_law_675 rfl rfl (by decide) rfl ?_
                                                    refine rr_goto hG (tgt := 18) dL_law_678 (by decide) ?_
                                                    exact rr_sub (lv2 := [(0, .ref b), (1, .ref (ph 0)), (2, .ref (ph 79)), (3, .int (x3 + (4 : Int32)))]) [1, 2, 3, 0] rfl (ih _ _ hf)
                                                  · refine rr_iconst hG (v := 0) dL_law_673 (by decide) ?_
                                                    exact rr_lret1 hR hrho dL_law_674 hf
                                                · rw [if_neg c220] at hf
                                                  have kk : rm_L G 96 ph 4 675 [(0, .ref b), (1, .ref (ph 0)), (2, .ref (ph 79)), (3, .int x3)] [] M := by
                                                    refine rr_iinc hG (v := x3 + (4 : Int32)) (lv2 := [(3, .int (x3 + (4 : Int32))), (0, .ref b), (1, .ref (ph 0)), (2, .ref (ph 79))]) (k := 3) dL_law_675 rfl rfl (by decide) rfl ?_
                                                    refine rr_goto hG (tgt := 18) dL_law_678 (by decide) ?_
                                                    exact rr_sub (lv2 := [(0, .ref b), (1, .ref (ph 0)), (2, .ref (ph 79)), (3, .int (x3 + (4 : Int32)))]) [1, 2, 3, 0] rfl (ih _ _ hf)
                                                  have hz : v3.toInt < 0 ∨ 21 < v3.toInt := by have n0 := lv_neT c4 (a := 0) (by decide); have n1 := lv_neT c14 (a := 1) (by decide); have n2 := lv_neT c22 (a := 2) (by decide); have n3 := lv_neT c30 (a := 3) (by decide); have n4 := lv_neT c38 (a := 4) (by decide); have n5 := lv_neT c52 (a := 5) (by decide); have n6 := lv_neT c64 (a := 6) (by decide); have n7 := lv_neT c72 (a := 7) (by decide); have n8 := lv_neT c80 (a := 8) (by decide); have n9 := lv_neT c92 (a := 9) (by decide); have n10 := lv_neT c104 (a := 10) (by decide); have n11 := lv_neT c116 (a := 11) (by decide); have n12 := lv_neT c126 (a := 12) (by decide); have n13 := lv_neT c134 (a := 13) (by decide); have n14 := lv_neT c144 (a := 14) (by decide); have n15 := lv_neT c152 (a := 15) (by decide); have n16 := lv_neT c162 (a := 16) (by decide); have n17 := lv_neT c174 (a := 17) (by decide); have n18 := lv_neT c186 (a := 18) (by decide); have n19 := lv_neT c196 (a := 19) (by decide); have n20 := lv_neT c206 (a := 20) (by decide); have n21 := lv_neT c220 (a := 21) (by decide); omega
                                                  rcases hz with hz | hz
                                                  · exact rr_tableOut hG (tgt := 675) dL_law_32 (Or.inl hz) (by decide) kk
                                                  · exact rr_tableOut hG (tgt := 675) dL_law_32 (Or.inr hz) (by decide) kk
