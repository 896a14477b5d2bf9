/-! ===== what the tables give at the law's entry ===== -/
theorem rm_nw_in : ∀ w ∈ rm_nw, w ∈ lw_tbl := in_r [577, 484, 677, 629, 447, 668] (by decide +kernel)
theorem rb_nw_in : ∀ w ∈ rb_nw, w ∈ lw_tbl := in_r [91, 119, 187, 217, 227, 246, 249] (by decide +kernel)
abbrev ls_t : Term := .string "RingPages" 67
theorem ls_el : ∀ j, j < 96 → Cond.eq (.elem (.field ls_t "java/lang/String" "value" "[B") (.int (Int32.ofNat j))) (.int (sB.getD j 0)) ∈ flatC (Jvm.Cond.and given_1 narrow_1) := by decide +kernel
theorem ls_ex : Cond.exactly ls_t "java/lang/String" ∈ flatC (Jvm.Cond.and given_1 narrow_1) := by decide +kernel
theorem ls_co : Cond.eq (.field ls_t "java/lang/String" "coder" "B") (.int 0) ∈ flatC (Jvm.Cond.and given_1 narrow_1) := by decide +kernel
theorem ls_ar : Cond.arrayOf (.field ls_t "java/lang/String" "value" "[B") .byte ∈ flatC (Jvm.Cond.and given_1 narrow_1) := by decide +kernel
theorem ls_le : Cond.eq (.length (.field ls_t "java/lang/String" "value" "[B")) (.int (Int32.ofNat 96)) ∈ flatC (Jvm.Cond.and given_1 narrow_1) := by decide +kernel
theorem ls_cs : Cond.eq (.static "java/lang/String" "COMPACT_STRINGS" "Z") (.int 1) ∈ flatC (Jvm.Cond.and given_1 narrow_1) := by decide +kernel
theorem ls_sf : Cond.isRef (.static "jdk/internal/util/Preconditions" "SIOOBE_FORMATTER" "Ljava/util/function/BiFunction;") ∈ flatC (Jvm.Cond.and given_1 narrow_1) := by decide +kernel
theorem ls_E {args : Array Value} {s : State} {A : Nat → Prop} (hts : ∀ w ∈ lw_tbl, w.before args s = true) (hgv : (Jvm.Cond.and given_1 narrow_1).before args s = true) (hA : ∀ a : Nat, a < s.heap.size → ¬ A a) : ∃ aK aV, rs_E aK aV A s s.heap ∧ vk_R RX7 67 tF aK s := by
  have hs := flat_of_before _ hgv
  obtain ⟨adK, adV, hS, hev⟩ := vk_Sof (args := args) (s := s) (N := 1) (tm := fun _ => ls_t) (len := [96]) (byt := [sB]) (A := A) (fun i hi => by rw [show i = 0 by omega]; decide) (fun i hi => hs _ ls_ex) (fun i hi => hs _ ls_co) (fun i hi => hs _ ls_ar) (fun i hi => by rw [show i = 0 by omega]; exact hs _ ls_le) (fun i hi j hj => by
    rw [show i = 0 by omega] at hj ⊢
    exact hs _ (ls_el j hj)) (fun i j hi hj hij => absurd (by omega) hij) hA
  obtain ⟨h1, h2, h3, h4⟩ := hS.1 0 (by omega)
  refine ⟨adK 0, adV 0, ⟨?_, ?_, h1, h2, h3, h4⟩, ?_⟩
  · exact va_Zof (hts (.laysStatic "java/lang/String" "COMPACT_STRINGS" "Z") (List.mem_of_getElem? (i := 328) (by decide +kernel))) (hts (.initialized "java/lang/String") (List.mem_of_getElem? (i := 73) (by decide +kernel))) (va_eqi (hs _ ls_cs)) hA
  · exact va_Zqof (hts (.laysStatic "jdk/internal/util/Preconditions" "SIOOBE_FORMATTER" "Ljava/util/function/BiFunction;") (List.mem_of_getElem? (i := 344) (by decide +kernel))) (hts (.initialized "jdk/internal/util/Preconditions") (List.mem_of_getElem? (i := 75) (by decide +kernel))) (hs _ ls_sf) hA
  · exact vk_R.of (A := args) (hts (.stringRef "RingPages" 67 tF) (List.mem_of_getElem? (i := 318) (by decide +kernel))) (hev 0 (by omega))
theorem ls_N {args : Array Value} {s : State} (hts : ∀ w ∈ lw_tbl, w.before args s = true) : rb_N s := by
  refine ⟨fun w hw => ?_, fun w hw => ?_, ?_, ?_⟩
  · have h1 := hts w (rm_nw_in w hw)
    simp only [rm_nw, List.mem_cons, List.not_mem_nil, or_false] at hw
    rcases hw with rfl | rfl | rfl | rfl | rfl | rfl <;> exact va_Nw.of rfl h1
  · have h1 := hts w (rb_nw_in w hw)
    simp only [rb_nw, List.mem_cons, List.not_mem_nil, or_false] at hw
    rcases hw with rfl | rfl | rfl | rfl | rfl | rfl | rfl <;> exact va_Nw.of rfl h1
  · exact hts (.arrayOver (.array .int)) (List.mem_of_getElem? (i := 254) (by decide +kernel))
  · exact va_AO.of (hts (.arrayOver (.object "RingPages$State")) (List.mem_of_getElem? (i := 117) (by decide +kernel)))
theorem ls_in7 {w : Cond} (h : w ∈ wsX7_init) : w ∈ lw_tbl := wsL_law_in w (gL_law_X7_init w h).1
theorem ls_K {args : Array Value} {s : State} (hts : ∀ w ∈ lw_tbl, w.before args s = true) : ∃ (D : va_G) (cy : rm_Y), va_K D vwCl (rm_ty cy) s := by
  obtain ⟨c0, i0, k0⟩ := u_known (C := RX0) (T := TX0) (N := 6) (n := 6) hts inX0 (hts (.instantiable RX0 6) (ls_in7 (by decide +kernel)))
  obtain ⟨c1, i1, k1⟩ := u_known (C := RX1) (T := TX1) (N := 12) (n := 12) hts inX1 (hts (.instantiable RX1 12) (ls_in7 (by decide +kernel)))
  obtain ⟨c2, i2, k2⟩ := u_known (C := RX2) (T := TX2) (N := 3) (n := 3) hts inX2 (hts (.instantiable RX2 3) (ls_in7 (by decide +kernel)))
  obtain ⟨c3, i3, k3⟩ := u_known (C := RX3) (T := TX3) (N := 4) (n := 4) hts inX3 (hts (.instantiable RX3 4) (ls_in7 (by decide +kernel)))
  obtain ⟨c4, i4, k4⟩ := u_known (C := RX4) (T := TX4) (N := 10) (n := 10) hts inX4 (hts (.instantiable RX4 10) (ls_in7 (by decide +kernel)))
  obtain ⟨c5, i5, k5⟩ := u_known (C := RX5) (T := TX5) (N := 4) (n := 4) hts inX5 (hts (.instantiable RX5 4) (ls_in7 (by decide +kernel)))
  obtain ⟨c6, i6, k6⟩ := u_known (C := RX6) (T := TX6) (N := 1) (n := 1) hts inX6 (hts (.instantiable RX6 1) (ls_in7 (by decide +kernel)))
  obtain ⟨c7, i7, k7⟩ := u_known (C := RX7) (T := TX7) (N := 10) (n := 10) hts inX7 (hts (.instantiable RX7 10) (wsL_law_in _ (by decide +kernel)))
  obtain ⟨c8, i8, k8⟩ := u_known (C := RX8) (T := TX8) (N := 26) (n := 26) hts inX8 (hts (.instantiable RX8 26) (wsL_law_in _ (by decide +kernel)))
  obtain ⟨a1, q1, p1, f1, g1, h1⟩ := Cond.arrayClass_spec (hts (.arrayClass .int) (List.mem_of_getElem? (i := 109) (by decide +kernel)))
  obtain ⟨a2, q2, p2, f2, g2, h2⟩ := Cond.arrayClass_spec (hts (.arrayClass .long) (List.mem_of_getElem? (i := 214) (by decide +kernel)))
  obtain ⟨p3, a3, q3, e3, -, g3, h3, f3⟩ := Cond.arrayOver_spec (hts (.arrayOver (.object "RingPages$State")) (List.mem_of_getElem? (i := 117) (by decide +kernel)))
  obtain ⟨p4, a4, q4, e4, -, g4, h4, f4⟩ := arrayOverA_spec (hts (.arrayOver (.array .int)) (List.mem_of_getElem? (i := 254) (by decide +kernel)))
  refine ⟨(fun k => match k with
    | 0 => c0
    | 1 => c1
    | 2 => c2
    | 3 => c3
    | 4 => c4
    | 5 => c5
    | 6 => c6
    | 7 => c7
    | _ => c8, fun k => match k with
    | 0 => i0
    | 1 => i1
    | 2 => i2
    | 3 => i3
    | 4 => i4
    | 5 => i5
    | 6 => i6
    | 7 => i7
    | _ => i8), (a1, a2, a3, a4), ?_, ?_⟩
  · intro k q hq
    match k, hq with
    | 0, hq => cases hq; exact k0
    | 1, hq => cases hq; exact k1
    | 2, hq => cases hq; exact k2
    | 3, hq => cases hq; exact k3
    | 4, hq => cases hq; exact k4
    | 5, hq => cases hq; exact k5
    | 6, hq => cases hq; exact k6
    | 7, hq => cases hq; exact k7
    | 8, hq => cases hq; exact k8
    | k + 9, hq => simp at hq
  · intro k q hq
    match k, hq with
    | 0, hq => cases hq; exact ⟨fun n z => ⟨fun k h => (by cases h), q1, g1, p1, h1⟩, f1⟩
    | 1, hq => cases hq; exact ⟨fun n z => ⟨fun k h => (by cases h), q2, g2, p2, h2⟩, f2⟩
    | 2, hq => cases hq; exact ⟨fun n z => ⟨fun k h => (by cases h), q3, g3, p3, h3⟩, q3, p3, g3, h3, e3, f3⟩
    | 3, hq => cases hq; exact ⟨fun n z => ⟨fun k h => (by cases h), q4, g4, p4, h4⟩, f4⟩
    | k + 4, hq => simp at hq
theorem dvX7 : ∀ j, j < 10 → defaultValue (tyX7 j) = vp_V rc_nulls j := by decide +kernel
theorem dvX8 : ∀ j, j < 26 → defaultValue (tyX8 j) = vp_V rc_f8 j := by decide +kernel
