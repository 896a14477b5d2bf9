/-! ===== BEGIN words of one list among another's, by their places ===== -/
theorem goodIn_r {big : List Cond} (ws : List Cond) (ps : List Nat) (hp : ws = ps.filterMap (fun i => big[i]?)) (h : ws.all goodWord = true) : GoodIn big ws := by
  intro w hw
  have h1 := List.all_eq_true.mp h w hw
  rw [hp] at hw
  obtain ⟨i, -, hi⟩ := List.mem_filterMap.mp hw
  have hm : w ∈ big := by first | exact List.mem_of_getElem? hi | exact List.getElem?_mem hi
  exact ⟨hm, good_of_word h1⟩
theorem goodIn_app {big a b : List Cond} (ha : GoodIn big a) (hb : GoodIn big b) : GoodIn big (a ++ b) := fun w h => (List.mem_append.mp h).elim (ha w) (hb w)
theorem goodIn_ca {big a b : List Cond} {c : Cond} (ha : GoodIn big (c :: a)) (hb : GoodIn big b) : GoodIn big (c :: (a ++ b)) := fun w h => (List.mem_cons.mp h).elim (fun e => ha w (List.mem_cons.mpr (Or.inl e))) (fun h => (List.mem_append.mp h).elim (fun h => ha w (List.mem_cons.mpr (Or.inr h))) (hb w))
theorem goodIn_sub {big ws : List Cond} (hm : ∀ w ∈ ws, w ∈ big) (h : ws.all goodWord = true) : GoodIn big ws := fun w hw => ⟨hm w hw, good_of_word (List.all_eq_true.mp h w hw)⟩
/-! ===== END ===== -/

/-! ===== BEGIN new T[n][m]: the outer array a place, the inner ones among the pooled ===== -/
/-- f, but v at every address of l -/
def vr_up {α : Type} (f : Nat → α) (l : List Nat) (v : α) : Nat → α := fun a => if a ∈ l then v else f a
theorem vr_up_in {α : Type} {f : Nat → α} {l : List Nat} {v : α} {a : Nat} (h : a ∈ l) : vr_up f l v a = v := if_pos h
theorem vr_up_ne {α : Type} {f : Nat → α} {l : List Nat} {v : α} {a : Nat} (h : a ∉ l) : vr_up f l v a = f a := if_neg h
theorem vr_rows {L l : List Nat} {f : Nat → va_E} {e : va_E} (h : ∀ a, a ∈ l → a ∉ L) : va_pl L f ++ l.map (fun a => (a, e)) = va_pl (L ++ l) (vr_up f l e) := by
  unfold va_pl
  rw [List.map_append]
  congr 1
  · apply List.map_congr_left
    intro a ha
    rw [vr_up_ne (fun q => h a q ha)]
  · apply List.map_congr_left
    intro a ha
    rw [vr_up_in ha]
theorem vr_lay {X rows : va_W} {x : Nat × va_E} {pl : va_W} {D : va_G} {cl : List vw_C} {H : Heap} (hP : va_P D cl (((X ++ pl) ++ [x]) ++ rows) H) : va_P D cl ((X ++ [x]) ++ (pl ++ rows)) H := by
  rw [List.append_assoc (X ++ pl)] at hP
  have h := va_P.swap hP
  rw [← List.append_assoc X] at h
  have h2 := va_P.swap h
  rw [List.append_assoc (X ++ [x])] at h2
  exact h2
theorem vr_layD {X rows : va_W} {x : Nat × va_E} {pl : va_W} {A : Nat → Prop} (hD : va_D A (((X ++ pl) ++ [x]) ++ rows)) : va_D A ((X ++ [x]) ++ (pl ++ rows)) := by
  rw [List.append_assoc (X ++ pl)] at hD
  have h := va_D.swap hD
  rw [← List.append_assoc X] at h
  have h2 := va_D.swap h
  rw [List.append_assoc (X ++ [x])] at h2
  exact h2
theorem vr_outer (c : ClassId) (N h0 : Nat) : ∀ i : Nat, Jvm.Free.Multi.outerC c N h0 i = arrV c N (fun j => va_rf (if j < i then some (h0 + 1 + j) else none))
  | 0 => by
    show ({ cls := c, slots := Array.replicate N .null, vm := .none } : Cell) = _
    rw [arrV_new]
    refine congrArg (arrV c N) (funext fun j => ?_)
    simp [va_rf]
  | i + 1 => by
    show (Jvm.Free.Multi.outerC c N h0 i).setSlot i (.ref (h0 + 1 + i)) = _
    rw [vr_outer c N h0 i, arrV_store]
    refine congrArg (arrV c N) (funext fun j => ?_)
    by_cases e : j = i
    · subst e
      simp [updV, va_rf]
    · by_cases h : j < i
      · simp [updV, e, h, Nat.lt_succ_of_lt h]
      · simp [updV, e, h, show ¬ j < i + 1 by omega]
section VGM
variable {p : Program} {l : Launch} {e : Env} {R : Room} {s : State} {m : MethodId} {args : Array Value} {below : List Frame} {meth : Method} {c : Code} {H : Heap} {locs : List Loc} {cells slots : Nat} {Q : State → Prop}
variable {cc : ByteArray} {pc : Nat} {ls : Array Slot} {rest : List Value} {D : va_G} {cl : List vw_C} {A : Nat → Prop} {a : Nat} {tys : List (ClassId × FieldType)} {ws : va_W} {H0 : Heap}
theorem va_mna {X : va_W} {L : List Nat} {f : Nat → va_E} {cc : ByteArray} (hexec : p.tables.exec = Jvm.exec) (hb : c.code = cc) {own : String} {index : Nat} {ty : FieldType} {cy : ClassId} (hown : s.vm.findClass own = some m.cls) (hclink : (Cond.classLink own index ("[" ++ (FieldType.array ty).toString)).before args s = true) (hover : va_AOA ty s) (harr : (Cond.arrayClass ty).before args s = true) (hcy : s.vm.findClass (FieldType.array ty).toString = some cy)
    (hK : va_K D cl tys s) (hP : va_P D cl (X ++ va_pl L f) H) (hD : va_D A (X ++ va_pl L f)) (hS : va_S A H0 H locs) (hA : ∀ q, H0.size ≤ q → A q) {n k : Int32} {N' K' : Nat} {z : vp_A} (hn : ¬ n < 0) (hk : ¬ k < 0) (hN : n.toNatClampNeg = N') (hM : k.toNatClampNeg = K')
    (hb1 : N' * 4 ≤ 536870912) (hb2 : K' * componentBytes ty ≤ 536870912) (hb3 : K' ≤ 536870912) (hdf : fits ty (defaultValue ty) = true) (hdd : (defaultValue ty).isDefault = true) (hcells : cells + (1 + N') ≤ R.cells) (hslots : slots + (N' + N' * K') ≤ R.slots) (hz : ∀ c : ClassId, Jvm.Free.Multi.innerC c K' (defaultValue ty) = vp_cell c z) (hdg : decode cc pc = .ok (.multianewarray index 2, 4))
    (kk : ∀ (q : Nat) (r : Nat → Nat) (cA : ClassId) (H1 : Heap), (∀ i j : Nat, i < N' → j < N' → r i = r j → i = j) → (∀ i : Nat, i < N' → r i ∉ L) → va_K D cl (tys ++ [(cA, .array ty)]) s →
      va_P D cl ((X ++ [(q, .inl (cA, N', .inr (.inr (.inr (.inr (fun i => if i < N' then some (r i) else none))))))]) ++ va_pl (L ++ (List.range N').map r) (vr_up f ((List.range N').map r) (.inl (cy, z)))) H1 → va_D A ((X ++ [(q, .inl (cA, N', .inr (.inr (.inr (.inr (fun i => if i < N' then some (r i) else none))))))]) ++ va_pl (L ++ (List.range N').map r) (vr_up f ((List.range N').map r) (.inl (cy, z)))) → va_S A H0 H1 locs →
      W p l e R s m args below meth c H1 locs (cells + 1 + N') (slots + N' + N' * K') Q (F0 m (pc + 4) ls (.ref q :: rest))) : W p l e R s m args below meth c H locs cells slots Q (F0 m pc ls (.int k :: .int n :: rest)) := by
  subst hN
  subst hM
  intro T hT Xs
  obtain ⟨vm₁, cA, comp, -, fA, fC, hO, -, X', step⟩ := Xs.multianewarray2F hexec hown hclink (va_AOA.use hover) harr (g := F0 m pc ls (.int k :: .int n :: rest)) rfl (by rw [hb]; exact hdg) rfl hn hk hb1 hb2 hb3 hdf hdd hcells hslots
  have ec : some cy = some comp := hcy.symm.trans fC
  cases ec
  generalize hF : Jvm.Free.Multi.fill (T.setVm vm₁) cA cy n.toNatClampNeg k.toNatClampNeg (defaultValue ty) n.toNatClampNeg = F at X' step
  have hTh : (T.setVm vm₁).heap = H := hT
  obtain ⟨f1, f2, -, -⟩ := Jvm.Free.Multi.fill_facts (T.setVm vm₁) cA cy n.toNatClampNeg k.toNatClampNeg (defaultValue ty) n.toNatClampNeg
  rw [hF, hTh] at f1 f2
  have hold : ∀ x : Nat, x < H.size → F.heap[x]? = H[x]? := fun x hx => by
    have := Jvm.Free.Multi.fill_old (T.setVm vm₁) cA cy n.toNatClampNeg k.toNatClampNeg (defaultValue ty) (a := x) (by rw [hTh]; exact hx) n.toNatClampNeg
    rw [hF, hTh] at this
    exact this
  have hrow : ∀ j : Nat, j < n.toNatClampNeg → F.heap[H.size + 1 + j]? = some (vp_cell cy z) := fun j hj => by
    have := Jvm.Free.Multi.fill_inner (T.setVm vm₁) cA cy n.toNatClampNeg k.toNatClampNeg (defaultValue ty) n.toNatClampNeg j hj
    rw [hF, hTh, hz] at this
    exact this
  have hout : Jvm.Free.Multi.outerC cA n.toNatClampNeg H.size n.toNatClampNeg = vp_cell cA (n.toNatClampNeg, .inr (.inr (.inr (.inr (fun i => if i < n.toNatClampNeg then some (H.size + 1 + i) else none))))) := by
    rw [vp_cell_q]
    exact vr_outer cA n.toNatClampNeg H.size n.toNatClampNeg
  rw [hout] at f2
  have hlt : ∀ a, a ∈ L → a < H.size := fun a ha => by
    obtain ⟨k9, hk9⟩ := va_pl_get (X := X) (f := f) ha
    exact (hP k9 _ hk9).lt
  have hnl : ∀ i : Nat, i < n.toNatClampNeg → H.size + 1 + i ∉ L := fun i _ h => by
    have := hlt _ h
    omega
  have hnm : ∀ a, a ∈ (List.range n.toNatClampNeg).map (fun i => H.size + 1 + i) → a ∉ L := fun a ha h => by
    obtain ⟨i, -, rfl⟩ := List.mem_map.mp ha
    have := hlt _ h
    omega
  have hP0 : va_P D cl (X ++ va_pl L f) F.heap := hP.kept (fun k9 x hx => hold x.1 ((hP k9 x hx).lt))
  have hP1 : va_P D cl ((X ++ va_pl L f) ++ [(H.size, .inl (cA, n.toNatClampNeg, .inr (.inr (.inr (.inr (fun i => if i < n.toNatClampNeg then some (H.size + 1 + i) else none))))))]) F.heap := hP0.app (fun k9 x hx => by
    have h0 : k9 < 1 := (List.getElem?_eq_some_iff.mp hx).1
    rw [show k9 = 0 by omega] at hx
    cases hx
    exact f2)
  have hP2 : va_P D cl (((X ++ va_pl L f) ++ [(H.size, .inl (cA, n.toNatClampNeg, .inr (.inr (.inr (.inr (fun i => if i < n.toNatClampNeg then some (H.size + 1 + i) else none))))))]) ++ ((List.range n.toNatClampNeg).map (fun i => H.size + 1 + i)).map (fun a => (a, .inl (cy, z)))) F.heap := hP1.app (fun k9 x hx => by
    obtain ⟨a, ha, rfl⟩ := List.mem_map.mp (List.mem_of_getElem? hx)
    obtain ⟨i, hi, rfl⟩ := List.mem_map.mp ha
    exact hrow i (List.mem_range.mp hi))
  have hD2 : va_D A (((X ++ va_pl L f) ++ [(H.size, .inl (cA, n.toNatClampNeg, .inr (.inr (.inr (.inr (fun i => if i < n.toNatClampNeg then some (H.size + 1 + i) else none))))))]) ++ ((List.range n.toNatClampNeg).map (fun i => H.size + 1 + i)).map (fun a => (a, .inl (cy, z)))) := by
    have hD1 := hD.push (e := .inl (cA, n.toNatClampNeg, .inr (.inr (.inr (.inr (fun i => if i < n.toNatClampNeg then some (H.size + 1 + i) else none)))))) hP rfl (hA _ hS.1)
    generalize hW1 : (X ++ va_pl L f) ++ [(H.size, .inl (cA, n.toNatClampNeg, .inr (.inr (.inr (.inr (fun i => if i < n.toNatClampNeg then some (H.size + 1 + i) else none))))))] = W1 at hD1 hP1 ⊢
    have hle : ∀ (k9 : Nat) (x : Nat × va_E), W1[k9]? = some x → x.1 ≤ H.size := fun k9 x hx => by
      rw [← hW1] at hx
      by_cases hl : k9 < (X ++ va_pl L f).length
      · rw [List.getElem?_append_left hl] at hx
        exact Nat.le_of_lt ((hP k9 x hx).lt)
      · rw [List.getElem?_append_right (by omega)] at hx
        have h0 : k9 - (X ++ va_pl L f).length < 1 := (List.getElem?_eq_some_iff.mp hx).1
        rw [show k9 - (X ++ va_pl L f).length = 0 by omega] at hx
        cases hx
        exact Nat.le_refl _
    have hr : ∀ (k9 : Nat) (x : Nat × va_E), (((List.range n.toNatClampNeg).map (fun i => H.size + 1 + i)).map (fun a => ((a, .inl (cy, z)) : Nat × va_E)))[k9]? = some x → x.1 = H.size + 1 + k9 := fun k9 x hx => by
      rw [List.getElem?_map, List.getElem?_map] at hx
      by_cases h9 : k9 < n.toNatClampNeg
      · rw [List.getElem?_range h9] at hx
        cases hx
        rfl
      · have hn0 : (List.range n.toNatClampNeg)[k9]? = none := List.getElem?_eq_none (by rw [List.length_range]; omega)
        rw [hn0] at hx
        cases hx
    refine ⟨fun i j x y hi hj hxy => ?_, fun k9 x hx => ?_⟩
    · by_cases h1 : i < W1.length <;> by_cases h2 : j < W1.length
      · rw [List.getElem?_append_left h1] at hi
        rw [List.getElem?_append_left h2] at hj
        exact hD1.1 i j x y hi hj hxy
      · rw [List.getElem?_append_left h1] at hi
        rw [List.getElem?_append_right (by omega)] at hj
        have := hle _ _ hi
        have := hr _ _ hj
        omega
      · rw [List.getElem?_append_right (by omega)] at hi
        rw [List.getElem?_append_left h2] at hj
        have := hle _ _ hj
        have := hr _ _ hi
        omega
      · rw [List.getElem?_append_right (by omega)] at hi hj
        have := hr _ _ hi
        have := hr _ _ hj
        omega
    · by_cases h1 : k9 < W1.length
      · rw [List.getElem?_append_left h1] at hx
        exact hD1.2 k9 x hx
      · rw [List.getElem?_append_right (by omega)] at hx
        have := hr _ _ hx
        exact hA _ (by have := hS.1; omega)
  have hAr : ArrOfT s cA (.array ty) := fun N9 z9 => by
    obtain ⟨-, k9, hk9, cm9, hkk9⟩ := (hO 0 0 0).1
    exact ⟨(fun q hq => by cases hq), k9, hk9, cm9, hkk9⟩
  have hK2 : va_K D cl (tys ++ [(cA, .array ty)]) s := ⟨hK.1, fun k9 x hx => by
    by_cases hl : k9 < tys.length
    · rw [List.getElem?_append_left hl] at hx
      exact hK.2 k9 x hx
    · rw [List.getElem?_append_right (by omega)] at hx
      have h0 : k9 - tys.length < 1 := (List.getElem?_eq_some_iff.mp hx).1
      rw [show k9 - tys.length = 0 by omega] at hx
      cases hx
      exact ⟨hAr, fA⟩⟩
  obtain ⟨t, a1, b1⟩ := kk H.size (fun i => H.size + 1 + i) cA F.heap (fun i j _ _ h => by have h9 : H.size + 1 + i = H.size + 1 + j := h; omega) hnl hK2 (by rw [← vr_rows hnm]; exact vr_lay hP2) (by rw [← vr_rows hnm]; exact vr_layD hD2) ⟨by rw [f1]; have := hS.1; omega, fun x h1 h2 => (hold x (Nat.lt_of_lt_of_le h1 hS.1)).trans (hS.2.1 x h1 h2), hS.2.2⟩ F rfl X'
  refine ⟨t, step t ?_, b1⟩
  have e : T.heap.size = H.size := by rw [hT]
  rw [e]
  exact a1
end VGM
/-! ===== END ===== -/

/-! ===== BEGIN printed: names, fields, word lists, decode rows ===== -/
def RX0 : String := "RingPages$LongRun"
def TX0 : u_T := fun k => match k with
  | 0 => ("RingPages$LongRun", "above", "[J", true)
  | 1 => ("RingPages$LongRun", "below", "J", false)
  | 2 => ("RingPages$LongRun", "best", "[I", true)
  | 3 => ("RingPages$LongRun", "leastExpense", "J", false)
  | 4 => ("RingPages$LongRun", "bestKnown", "Z", false)
  | _ => ("RingPages$LongRun", "tried", "[I", true)
def tyX0 : Nat → FieldType := fun k => match k with
  | 0 => .array .long
  | 1 => .long
  | 2 => .array .int
  | 3 => .long
  | 4 => .boolean
  | _ => .array .int
abbrev wsX00 : List Cond := u_ws RX0 TX0 6
theorem nmX0 : ∀ a, a < 6 → ∀ b, b < 6 → a ≠ b → (TX0 a).2.1 ≠ (TX0 b).2.1 := by decide +kernel
theorem tyX0_ok : ∀ k, k < 6 → parseFieldDescriptor (TX0 k).2.2.1 = some (tyX0 k) := by decide +kernel
abbrev cX0_init : ByteArray := prog_2_method_1_code
def yX0_init : MethodName := ⟨RX0, "<init>", "()V"⟩
abbrev cX0_reckon : ByteArray := prog_2_method_2_code
def yX0_reckon : MethodName := ⟨RX0, "reckon", "(LRingPages$Net;LRingPages$State;)V"⟩
abbrev cX0_crosses : ByteArray := prog_2_method_3_code
def yX0_crosses : MethodName := ⟨RX0, "crosses", "(LRingPages$Net;[I)J"⟩
abbrev cX0_movesOn : ByteArray := prog_2_method_4_code
def yX0_movesOn : MethodName := ⟨RX0, "movesOn", "(LRingPages$Net;)J"⟩
abbrev cX0_expense : ByteArray := prog_2_method_5_code
def yX0_expense : MethodName := ⟨RX0, "expense", "(LRingPages$Net;[I)J"⟩
abbrev cX0_findBest : ByteArray := prog_2_method_6_code
def yX0_findBest : MethodName := ⟨RX0, "findBest", "(LRingPages$Net;)V"⟩
abbrev cX0_takeTried : ByteArray := prog_2_method_7_code
def yX0_takeTried : MethodName := ⟨RX0, "takeTried", "(J)V"⟩
abbrev cX0_nextTried : ByteArray := prog_2_method_8_code
def yX0_nextTried : MethodName := ⟨RX0, "nextTried", "(I)Z"⟩
abbrev cX0_highestAhead : ByteArray := prog_2_method_9_code
def yX0_highestAhead : MethodName := ⟨RX0, "highestAhead", "(I)I"⟩
def RX1 : String := "RingPages$Net"
def TX1 : u_T := fun k => match k with
  | 0 => ("RingPages$Net", "cells", "I", false)
  | 1 => ("RingPages$Net", "joins", "I", false)
  | 2 => ("RingPages$Net", "mostRounds", "I", false)
  | 3 => ("RingPages$Net", "pageCost", "I", false)
  | 4 => ("RingPages$Net", "updateCost", "I", false)
  | 5 => ("RingPages$Net", "callChance", "I", false)
  | 6 => ("RingPages$Net", "weight", "[[I", true)
  | 7 => ("RingPages$Net", "wide", "[[I", true)
  | 8 => ("RingPages$Net", "near", "[I", true)
  | 9 => ("RingPages$Net", "out", "[I", true)
  | 10 => ("RingPages$Net", "trees", "[J", true)
  | _ => ("RingPages$Net", "minors", "[J", true)
def tyX1 : Nat → FieldType := fun k => match k with
  | 0 => .int
  | 1 => .int
  | 2 => .int
  | 3 => .int
  | 4 => .int
  | 5 => .int
  | 6 => .array (.array .int)
  | 7 => .array (.array .int)
  | 8 => .array .int
  | 9 => .array .int
  | 10 => .array .long
  | _ => .array .long
abbrev wsX10 : List Cond := u_ws RX1 TX1 12
theorem nmX1 : ∀ a, a < 12 → ∀ b, b < 12 → a ≠ b → (TX1 a).2.1 ≠ (TX1 b).2.1 := by decide +kernel
theorem tyX1_ok : ∀ k, k < 12 → parseFieldDescriptor (TX1 k).2.2.1 = some (tyX1 k) := by decide +kernel
abbrev cX1_init : ByteArray := prog_3_method_1_code
def yX1_init : MethodName := ⟨RX1, "<init>", "()V"⟩
abbrev cX1_begin : ByteArray := prog_3_method_2_code
def yX1_begin : MethodName := ⟨RX1, "begin", "(I)V"⟩
abbrev cX1_price : ByteArray := prog_3_method_3_code
def yX1_price : MethodName := ⟨RX1, "price", "(IIII)V"⟩
abbrev cX1_join : ByteArray := prog_3_method_4_code
def yX1_join : MethodName := ⟨RX1, "join", "(IIII)V"⟩
abbrev cX1_lead : ByteArray := prog_3_method_5_code
def yX1_lead : MethodName := ⟨RX1, "lead", "(III)V"⟩
abbrev cX1_isWhole : ByteArray := prog_3_method_6_code
def yX1_isWhole : MethodName := ⟨RX1, "isWhole", "()Z"⟩
abbrev cX1_growTrees : ByteArray := prog_3_method_7_code
def yX1_growTrees : MethodName := ⟨RX1, "growTrees", "()V"⟩
abbrev cX1_treesTo : ByteArray := prog_3_method_8_code
def yX1_treesTo : MethodName := ⟨RX1, "treesTo", "(I)J"⟩
abbrev cX1_rowOf : ByteArray := prog_3_method_9_code
def yX1_rowOf : MethodName := ⟨RX1, "rowOf", "(II)I"⟩
abbrev cX1_minorOf : ByteArray := prog_3_method_10_code
def yX1_minorOf : MethodName := ⟨RX1, "minorOf", "(II)J"⟩
def RX2 : String := "RingPages$Past"
def TX2 : u_T := fun k => match k with
  | 0 => ("RingPages$Past", "kept", "[LRingPages$State;", true)
  | 1 => ("RingPages$Past", "next", "I", false)
  | _ => ("RingPages$Past", "held", "I", false)
def tyX2 : Nat → FieldType := fun k => match k with
  | 0 => .array (.object "RingPages$State")
  | 1 => .int
  | _ => .int
abbrev wsX20 : List Cond := u_ws RX2 TX2 3
theorem nmX2 : ∀ a, a < 3 → ∀ b, b < 3 → a ≠ b → (TX2 a).2.1 ≠ (TX2 b).2.1 := by decide +kernel
theorem tyX2_ok : ∀ k, k < 3 → parseFieldDescriptor (TX2 k).2.2.1 = some (tyX2 k) := by decide +kernel
abbrev cX2_init : ByteArray := prog_4_method_1_code
def yX2_init : MethodName := ⟨RX2, "<init>", "()V"⟩
abbrev cX2_keep : ByteArray := prog_4_method_2_code
def yX2_keep : MethodName := ⟨RX2, "keep", "(LRingPages$State;)V"⟩
abbrev cX2_bringBack : ByteArray := prog_4_method_3_code
def yX2_bringBack : MethodName := ⟨RX2, "bringBack", "(LRingPages$State;)Z"⟩
def RX3 : String := "RingPages$Rounds"
def TX3 : u_T := fun k => match k with
  | 0 => ("RingPages$Rounds", "row", "[I", true)
  | 1 => ("RingPages$Rounds", "length", "I", false)
  | 2 => ("RingPages$Rounds", "cuts", "I", false)
  | _ => ("RingPages$Rounds", "many", "I", false)
def tyX3 : Nat → FieldType := fun k => match k with
  | 0 => .array .int
  | 1 => .int
  | 2 => .int
  | _ => .int
abbrev wsX30 : List Cond := u_ws RX3 TX3 4
theorem nmX3 : ∀ a, a < 4 → ∀ b, b < 4 → a ≠ b → (TX3 a).2.1 ≠ (TX3 b).2.1 := by decide +kernel
theorem tyX3_ok : ∀ k, k < 4 → parseFieldDescriptor (TX3 k).2.2.1 = some (tyX3 k) := by decide +kernel
abbrev cX3_init : ByteArray := prog_5_method_1_code
def yX3_init : MethodName := ⟨RX3, "<init>", "()V"⟩
abbrev cX3_lineUp : ByteArray := prog_5_method_2_code
def yX3_lineUp : MethodName := ⟨RX3, "lineUp", "(I[J)V"⟩
abbrev cX3_split : ByteArray := prog_5_method_3_code
def yX3_split : MethodName := ⟨RX3, "split", "(I[J)V"⟩
abbrev cX3_isCutBehind : ByteArray := prog_5_method_4_code
def yX3_isCutBehind : MethodName := ⟨RX3, "isCutBehind", "(II)Z"⟩
abbrev cX3_meanPaged : ByteArray := prog_5_method_5_code
def yX3_meanPaged : MethodName := ⟨RX3, "meanPaged", "(I[J)J"⟩
abbrev cX3_cellsOf : ByteArray := prog_5_method_6_code
def yX3_cellsOf : MethodName := ⟨RX3, "cellsOf", "(I)I"⟩
def RX4 : String := "RingPages$State"
def TX4 : u_T := fun k => match k with
  | 0 => ("RingPages$State", "stay", "[I", true)
  | 1 => ("RingPages$State", "area", "[I", true)
  | 2 => ("RingPages$State", "kind", "I", false)
  | 3 => ("RingPages$State", "value", "I", false)
  | 4 => ("RingPages$State", "cell", "I", false)
  | 5 => ("RingPages$State", "home", "I", false)
  | 6 => ("RingPages$State", "moves", "I", false)
  | 7 => ("RingPages$State", "ticks", "I", false)
  | 8 => ("RingPages$State", "updates", "I", false)
  | _ => ("RingPages$State", "paged", "I", false)
def tyX4 : Nat → FieldType := fun k => match k with
  | 0 => .array .int
  | 1 => .array .int
  | 2 => .int
  | 3 => .int
  | 4 => .int
  | 5 => .int
  | 6 => .int
  | 7 => .int
  | 8 => .int
  | _ => .int
abbrev wsX40 : List Cond := u_ws RX4 TX4 10
theorem nmX4 : ∀ a, a < 10 → ∀ b, b < 10 → a ≠ b → (TX4 a).2.1 ≠ (TX4 b).2.1 := by decide +kernel
theorem tyX4_ok : ∀ k, k < 10 → parseFieldDescriptor (TX4 k).2.2.1 = some (tyX4 k) := by decide +kernel
abbrev cX4_init : ByteArray := prog_6_method_1_code
def yX4_init : MethodName := ⟨RX4, "<init>", "()V"⟩
abbrev cX4_begin : ByteArray := prog_6_method_2_code
def yX4_begin : MethodName := ⟨RX4, "begin", "()V"⟩
abbrev cX4_copyFrom : ByteArray := prog_6_method_3_code
def yX4_copyFrom : MethodName := ⟨RX4, "copyFrom", "(LRingPages$State;)V"⟩
abbrev cX4_register : ByteArray := prog_6_method_4_code
def yX4_register : MethodName := ⟨RX4, "register", "()V"⟩
abbrev cX4_canGo : ByteArray := prog_6_method_5_code
def yX4_canGo : MethodName := ⟨RX4, "canGo", "(LRingPages$Net;I)Z"⟩
abbrev cX4_go : ByteArray := prog_6_method_6_code
def yX4_go : MethodName := ⟨RX4, "go", "(LRingPages$Net;I)Z"⟩
abbrev cX4_isDue : ByteArray := prog_6_method_7_code
def yX4_isDue : MethodName := ⟨RX4, "isDue", "(LRingPages$Net;)Z"⟩
abbrev cX4_isOutside : ByteArray := prog_6_method_8_code
def yX4_isOutside : MethodName := ⟨RX4, "isOutside", "(LRingPages$Net;I)Z"⟩
abbrev cX4_drawnCell : ByteArray := prog_6_method_9_code
def yX4_drawnCell : MethodName := ⟨RX4, "drawnCell", "(LRingPages$Net;I)I"⟩
def RX5 : String := "RingPages$Text"
def TX5 : u_T := fun k => match k with
  | 0 => ("RingPages$Text", "letters", "[I", true)
  | 1 => ("RingPages$Text", "numbers", "[I", true)
  | 2 => ("RingPages$Text", "place", "I", false)
  | _ => ("RingPages$Text", "length", "I", false)
def tyX5 : Nat → FieldType := fun k => match k with
  | 0 => .array .int
  | 1 => .array .int
  | 2 => .int
  | _ => .int
abbrev wsX50 : List Cond := u_ws RX5 TX5 4
theorem nmX5 : ∀ a, a < 4 → ∀ b, b < 4 → a ≠ b → (TX5 a).2.1 ≠ (TX5 b).2.1 := by decide +kernel
theorem tyX5_ok : ∀ k, k < 4 → parseFieldDescriptor (TX5 k).2.2.1 = some (tyX5 k) := by decide +kernel
abbrev cX5_init : ByteArray := prog_7_method_1_code
def yX5_init : MethodName := ⟨RX5, "<init>", "()V"⟩
abbrev cX5_append : ByteArray := prog_7_method_2_code
def yX5_append : MethodName := ⟨RX5, "append", "(I)Z"⟩
abbrev cX5_readInto : ByteArray := prog_7_method_3_code
def yX5_readInto : MethodName := ⟨RX5, "readInto", "(LRingPages$Net;LRingPages$State;)I"⟩
abbrev cX5_readItem : ByteArray := prog_7_method_4_code
def yX5_readItem : MethodName := ⟨RX5, "readItem", "(LRingPages$Net;LRingPages$State;)Z"⟩
abbrev cX5_numbersBehind : ByteArray := prog_7_method_5_code
def yX5_numbersBehind : MethodName := ⟨RX5, "numbersBehind", "(I)I"⟩
abbrev cX5_takeCells : ByteArray := prog_7_method_6_code
def yX5_takeCells : MethodName := ⟨RX5, "takeCells", "(LRingPages$Net;)Z"⟩
abbrev cX5_takeJoin : ByteArray := prog_7_method_7_code
def yX5_takeJoin : MethodName := ⟨RX5, "takeJoin", "(LRingPages$Net;)Z"⟩
abbrev cX5_isWeight : ByteArray := prog_7_method_8_code
def yX5_isWeight : MethodName := ⟨RX5, "isWeight", "(I)Z"⟩
abbrev cX5_takeCellNumber : ByteArray := prog_7_method_9_code
def yX5_takeCellNumber : MethodName := ⟨RX5, "takeCellNumber", "(LRingPages$Net;[II)Z"⟩
abbrev cX5_takeLaw : ByteArray := prog_7_method_10_code
def yX5_takeLaw : MethodName := ⟨RX5, "takeLaw", "(LRingPages$State;)Z"⟩
abbrev cX5_takePrices : ByteArray := prog_7_method_11_code
def yX5_takePrices : MethodName := ⟨RX5, "takePrices", "(LRingPages$Net;)Z"⟩
abbrev cX5_readNumbers : ByteArray := prog_7_method_12_code
def yX5_readNumbers : MethodName := ⟨RX5, "readNumbers", "(I)Z"⟩
abbrev cX5_readNumber : ByteArray := prog_7_method_13_code
def yX5_readNumber : MethodName := ⟨RX5, "readNumber", "()I"⟩
abbrev cX5_figureHere : ByteArray := prog_7_method_14_code
def yX5_figureHere : MethodName := ⟨RX5, "figureHere", "()I"⟩
abbrev cX5_letterHere : ByteArray := prog_7_method_15_code
def yX5_letterHere : MethodName := ⟨RX5, "letterHere", "()I"⟩
def RX6 : String := "RingPages$Whereabouts"
def TX6 : u_T := fun k => match k with
  | _ => ("RingPages$Whereabouts", "reached", "[I", true)
def tyX6 : Nat → FieldType := fun k => match k with
  | _ => .array .int
abbrev wsX60 : List Cond := u_ws RX6 TX6 1
theorem nmX6 : ∀ a, a < 1 → ∀ b, b < 1 → a ≠ b → (TX6 a).2.1 ≠ (TX6 b).2.1 := by decide +kernel
theorem tyX6_ok : ∀ k, k < 1 → parseFieldDescriptor (TX6 k).2.2.1 = some (tyX6 k) := by decide +kernel
abbrev cX6_init : ByteArray := prog_8_method_1_code
def yX6_init : MethodName := ⟨RX6, "<init>", "()V"⟩
abbrev cX6_find : ByteArray := prog_8_method_2_code
def yX6_find : MethodName := ⟨RX6, "find", "(LRingPages$Net;LRingPages$State;)I"⟩
abbrev cX6_insideOf : ByteArray := prog_8_method_3_code
def yX6_insideOf : MethodName := ⟨RX6, "insideOf", "(LRingPages$Net;LRingPages$State;)I"⟩
abbrev cX6_step : ByteArray := prog_8_method_4_code
def yX6_step : MethodName := ⟨RX6, "step", "(LRingPages$Net;LRingPages$State;II)Z"⟩
abbrev cX6_stayers : ByteArray := prog_8_method_5_code
def yX6_stayers : MethodName := ⟨RX6, "stayers", "(LRingPages$Net;LRingPages$State;I)I"⟩
abbrev cX6_movers : ByteArray := prog_8_method_6_code
def yX6_movers : MethodName := ⟨RX6, "movers", "(LRingPages$Net;I)I"⟩
def RX7 : String := "RingPages"
def TX7 : u_T := fun k => match k with
  | 0 => ("RingPages", "text", "LRingPages$Text;", true)
  | 1 => ("RingPages", "past", "LRingPages$Past;", true)
  | 2 => ("RingPages", "longRun", "LRingPages$LongRun;", true)
  | 3 => ("RingPages", "whereabouts", "LRingPages$Whereabouts;", true)
  | 4 => ("RingPages", "rounds", "LRingPages$Rounds;", true)
  | 5 => ("RingPages", "walker", "LRingPages$State;", true)
  | 6 => ("RingPages", "net", "LRingPages$Net;", false)
  | 7 => ("RingPages", "state", "LRingPages$State;", false)
  | 8 => ("RingPages", "draftNet", "LRingPages$Net;", false)
  | _ => ("RingPages", "draftState", "LRingPages$State;", false)
def tyX7 : Nat → FieldType := fun k => match k with
  | 0 => .object "RingPages$Text"
  | 1 => .object "RingPages$Past"
  | 2 => .object "RingPages$LongRun"
  | 3 => .object "RingPages$Whereabouts"
  | 4 => .object "RingPages$Rounds"
  | 5 => .object "RingPages$State"
  | 6 => .object "RingPages$Net"
  | 7 => .object "RingPages$State"
  | 8 => .object "RingPages$Net"
  | _ => .object "RingPages$State"
abbrev wsX70 : List Cond := u_ws RX7 TX7 10
theorem nmX7 : ∀ a, a < 10 → ∀ b, b < 10 → a ≠ b → (TX7 a).2.1 ≠ (TX7 b).2.1 := by decide +kernel
theorem tyX7_ok : ∀ k, k < 10 → parseFieldDescriptor (TX7 k).2.2.1 = some (tyX7 k) := by decide +kernel
abbrev cX7_init : ByteArray := prog_1_method_1_code
def yX7_init : MethodName := ⟨RX7, "<init>", "()V"⟩
abbrev cX7_write : ByteArray := prog_1_method_2_code
def yX7_write : MethodName := ⟨RX7, "write", "(I)I"⟩
abbrev cX7_wipe : ByteArray := prog_1_method_3_code
def yX7_wipe : MethodName := ⟨RX7, "wipe", "()I"⟩
abbrev cX7_fault : ByteArray := prog_1_method_4_code
def yX7_fault : MethodName := ⟨RX7, "fault", "()I"⟩
abbrev cX7_lay : ByteArray := prog_1_method_5_code
def yX7_lay : MethodName := ⟨RX7, "lay", "()I"⟩
abbrev cX7_layText : ByteArray := prog_1_method_6_code
def yX7_layText : MethodName := ⟨RX7, "layText", "()Z"⟩
abbrev cX7_set : ByteArray := prog_1_method_7_code
def yX7_set : MethodName := ⟨RX7, "set", "(III)I"⟩
abbrev cX7_law : ByteArray := prog_1_method_8_code
def yX7_law : MethodName := ⟨RX7, "law", "(II)I"⟩
abbrev cX7_give : ByteArray := prog_1_method_9_code
def yX7_give : MethodName := ⟨RX7, "give", "()I"⟩
abbrev cX7_undo : ByteArray := prog_1_method_10_code
def yX7_undo : MethodName := ⟨RX7, "undo", "()I"⟩
abbrev cX7_cell : ByteArray := prog_1_method_11_code
def yX7_cell : MethodName := ⟨RX7, "cell", "(II)I"⟩
abbrev cX7_weight : ByteArray := prog_1_method_12_code
def yX7_weight : MethodName := ⟨RX7, "weight", "(II)I"⟩
abbrev cX7_wide : ByteArray := prog_1_method_13_code
def yX7_wide : MethodName := ⟨RX7, "wide", "(II)I"⟩
abbrev cX7_tick : ByteArray := prog_1_method_14_code
def yX7_tick : MethodName := ⟨RX7, "tick", "(I)I"⟩
abbrev cX7_page : ByteArray := prog_1_method_15_code
def yX7_page : MethodName := ⟨RX7, "page", "()I"⟩
abbrev cX7_handset : ByteArray := prog_1_method_16_code
def yX7_handset : MethodName := ⟨RX7, "handset", "(I)I"⟩
abbrev cX7_where : ByteArray := prog_1_method_17_code
def yX7_where : MethodName := ⟨RX7, "where", "()I"⟩
abbrev cX7_round : ByteArray := prog_1_method_18_code
def yX7_round : MethodName := ⟨RX7, "round", "(I)I"⟩
abbrev cX7_seek : ByteArray := prog_1_method_19_code
def yX7_seek : MethodName := ⟨RX7, "seek", "()V"⟩
abbrev cX7_chance : ByteArray := prog_1_method_20_code
def yX7_chance : MethodName := ⟨RX7, "chance", "(II)J"⟩
abbrev cX7_mean : ByteArray := prog_1_method_21_code
def yX7_mean : MethodName := ⟨RX7, "mean", "(II)J"⟩
abbrev cX7_rate : ByteArray := prog_1_method_22_code
def yX7_rate : MethodName := ⟨RX7, "rate", "(I)J"⟩
abbrev cX7_best : ByteArray := prog_1_method_23_code
def yX7_best : MethodName := ⟨RX7, "best", "(I)I"⟩
abbrev cX7_least : ByteArray := prog_1_method_24_code
def yX7_least : MethodName := ⟨RX7, "least", "(I)J"⟩
abbrev cX7_walk : ByteArray := prog_1_method_25_code
def yX7_walk : MethodName := ⟨RX7, "walk", "(III)I"⟩
abbrev cX7_count : ByteArray := prog_1_method_26_code
def yX7_count : MethodName := ⟨RX7, "count", "(I)I"⟩
abbrev cX7_isCell : ByteArray := prog_1_method_27_code
def yX7_isCell : MethodName := ⟨RX7, "isCell", "(I)Z"⟩
abbrev cX7_isPart : ByteArray := prog_1_method_28_code
def yX7_isPart : MethodName := ⟨RX7, "isPart", "(I)Z"⟩
abbrev cX7_isLaw : ByteArray := prog_1_method_29_code
def yX7_isLaw : MethodName := ⟨RX7, "isLaw", "(II)Z"⟩
abbrev cX7_holds : ByteArray := prog_1_method_30_code
def yX7_holds : MethodName := ⟨RX7, "holds", "(II)Z"⟩
abbrev cX7_sameArea : ByteArray := prog_1_method_31_code
def yX7_sameArea : MethodName := ⟨RX7, "sameArea", "(I[II)I"⟩
abbrev cX7_draw : ByteArray := prog_1_method_32_code
def yX7_draw : MethodName := ⟨RX7, "draw", "(II)I"⟩
abbrev cX7_lowest : ByteArray := prog_1_method_33_code
def yX7_lowest : MethodName := ⟨RX7, "lowest", "(JJI)J"⟩
abbrev cX7_greatestShared : ByteArray := prog_1_method_34_code
def yX7_greatestShared : MethodName := ⟨RX7, "greatestShared", "(JJ)J"⟩
def RX8 : String := "RingPagesModel"
def TX8 : u_T := fun k => match k with
  | 0 => ("RingPagesModel", "length", "I", false)
  | 1 => ("RingPagesModel", "text", "[I", true)
  | 2 => ("RingPagesModel", "cells", "I", false)
  | 3 => ("RingPagesModel", "joins", "I", false)
  | 4 => ("RingPagesModel", "weight", "[I", true)
  | 5 => ("RingPagesModel", "price", "[I", true)
  | 6 => ("RingPagesModel", "now", "[I", true)
  | 7 => ("RingPagesModel", "was", "[I", true)
  | 8 => ("RingPagesModel", "changes", "I", false)
  | 9 => ("RingPagesModel", "readCells", "I", false)
  | 10 => ("RingPagesModel", "readJoins", "I", false)
  | 11 => ("RingPagesModel", "readWeight", "[I", true)
  | 12 => ("RingPagesModel", "readPrice", "[I", true)
  | 13 => ("RingPagesModel", "read", "[I", true)
  | 14 => ("RingPagesModel", "value", "I", false)
  | 15 => ("RingPagesModel", "ends", "I", false)
  | 16 => ("RingPagesModel", "can", "[I", true)
  | 17 => ("RingPagesModel", "next", "[I", true)
  | 18 => ("RingPagesModel", "trees", "[J", true)
  | 19 => ("RingPagesModel", "table", "[J", true)
  | 20 => ("RingPagesModel", "tried", "[I", true)
  | 21 => ("RingPagesModel", "best", "[I", true)
  | 22 => ("RingPagesModel", "row", "[I", true)
  | 23 => ("RingPagesModel", "rows", "I", false)
  | 24 => ("RingPagesModel", "cuts", "I", false)
  | _ => ("RingPagesModel", "walker", "[I", true)
def tyX8 : Nat → FieldType := fun k => match k with
  | 0 => .int
  | 1 => .array .int
  | 2 => .int
  | 3 => .int
  | 4 => .array .int
  | 5 => .array .int
  | 6 => .array .int
  | 7 => .array .int
  | 8 => .int
  | 9 => .int
  | 10 => .int
  | 11 => .array .int
  | 12 => .array .int
  | 13 => .array .int
  | 14 => .int
  | 15 => .int
  | 16 => .array .int
  | 17 => .array .int
  | 18 => .array .long
  | 19 => .array .long
  | 20 => .array .int
  | 21 => .array .int
  | 22 => .array .int
  | 23 => .int
  | 24 => .int
  | _ => .array .int
abbrev wsX80 : List Cond := u_ws RX8 TX8 26
theorem nmX8 : ∀ a, a < 26 → ∀ b, b < 26 → a ≠ b → (TX8 a).2.1 ≠ (TX8 b).2.1 := by decide +kernel
theorem tyX8_ok : ∀ k, k < 26 → parseFieldDescriptor (TX8 k).2.2.1 = some (tyX8 k) := by decide +kernel
abbrev cX8_init : ByteArray := prog_10_method_1_code
def yX8_init : MethodName := ⟨RX8, "<init>", "()V"⟩
abbrev cX8_joinOf : ByteArray := prog_10_method_2_code
def yX8_joinOf : MethodName := ⟨RX8, "joinOf", "(IIII)V"⟩
abbrev cX8_isIn : ByteArray := prog_10_method_3_code
def yX8_isIn : MethodName := ⟨RX8, "isIn", "(III)Z"⟩
abbrev cX8_clears : ByteArray := prog_10_method_4_code
def yX8_clears : MethodName := ⟨RX8, "clears", "()V"⟩
abbrev cX8_takes : ByteArray := prog_10_method_5_code
def yX8_takes : MethodName := ⟨RX8, "takes", "()V"⟩
abbrev cX8_letterAt : ByteArray := prog_10_method_6_code
def yX8_letterAt : MethodName := ⟨RX8, "letterAt", "(I)I"⟩
abbrev cX8_number : ByteArray := prog_10_method_7_code
def yX8_number : MethodName := ⟨RX8, "number", "(III)Z"⟩
abbrev cX8_more : ByteArray := prog_10_method_8_code
def yX8_more : MethodName := ⟨RX8, "more", "(II)Z"⟩
abbrev cX8_readsJoin : ByteArray := prog_10_method_9_code
def yX8_readsJoin : MethodName := ⟨RX8, "readsJoin", "(I)Z"⟩
abbrev cX8_readsCell : ByteArray := prog_10_method_10_code
def yX8_readsCell : MethodName := ⟨RX8, "readsCell", "(II)Z"⟩
abbrev cX8_isLaw : ByteArray := prog_10_method_11_code
def yX8_isLaw : MethodName := ⟨RX8, "isLaw", "(II)Z"⟩
abbrev cX8_readsLaw : ByteArray := prog_10_method_12_code
def yX8_readsLaw : MethodName := ⟨RX8, "readsLaw", "(I)Z"⟩
abbrev cX8_readsPrice : ByteArray := prog_10_method_13_code
def yX8_readsPrice : MethodName := ⟨RX8, "readsPrice", "(I)Z"⟩
abbrev cX8_readsItem : ByteArray := prog_10_method_14_code
def yX8_readsItem : MethodName := ⟨RX8, "readsItem", "(II)Z"⟩
abbrev cX8_reads : ByteArray := prog_10_method_15_code
def yX8_reads : MethodName := ⟨RX8, "reads", "()I"⟩
abbrev cX8_hang : ByteArray := prog_10_method_16_code
def yX8_hang : MethodName := ⟨RX8, "hang", "()Z"⟩
abbrev cX8_write : ByteArray := prog_10_method_17_code
def yX8_write : MethodName := ⟨RX8, "write", "(I)I"⟩
abbrev cX8_wipe : ByteArray := prog_10_method_18_code
def yX8_wipe : MethodName := ⟨RX8, "wipe", "()I"⟩
abbrev cX8_fault : ByteArray := prog_10_method_19_code
def yX8_fault : MethodName := ⟨RX8, "fault", "()I"⟩
abbrev cX8_lay : ByteArray := prog_10_method_20_code
def yX8_lay : MethodName := ⟨RX8, "lay", "()I"⟩
abbrev cX8_keeps : ByteArray := prog_10_method_21_code
def yX8_keeps : MethodName := ⟨RX8, "keeps", "()V"⟩
abbrev cX8_undo : ByteArray := prog_10_method_22_code
def yX8_undo : MethodName := ⟨RX8, "undo", "()I"⟩
abbrev cX8_isCell : ByteArray := prog_10_method_23_code
def yX8_isCell : MethodName := ⟨RX8, "isCell", "(I)Z"⟩
abbrev cX8_registers : ByteArray := prog_10_method_24_code
def yX8_registers : MethodName := ⟨RX8, "registers", "([I)V"⟩
abbrev cX8_set : ByteArray := prog_10_method_25_code
def yX8_set : MethodName := ⟨RX8, "set", "(III)I"⟩
abbrev cX8_law : ByteArray := prog_10_method_26_code
def yX8_law : MethodName := ⟨RX8, "law", "(II)I"⟩
abbrev cX8_out : ByteArray := prog_10_method_27_code
def yX8_out : MethodName := ⟨RX8, "out", "(I)I"⟩
abbrev cX8_sum : ByteArray := prog_10_method_28_code
def yX8_sum : MethodName := ⟨RX8, "sum", "(I)I"⟩
abbrev cX8_joined : ByteArray := prog_10_method_29_code
def yX8_joined : MethodName := ⟨RX8, "joined", "(I)I"⟩
abbrev cX8_likeArea : ByteArray := prog_10_method_30_code
def yX8_likeArea : MethodName := ⟨RX8, "likeArea", "(I)I"⟩
abbrev cX8_cell : ByteArray := prog_10_method_31_code
def yX8_cell : MethodName := ⟨RX8, "cell", "(II)I"⟩
abbrev cX8_weight : ByteArray := prog_10_method_32_code
def yX8_weight : MethodName := ⟨RX8, "weight", "(II)I"⟩
abbrev cX8_far : ByteArray := prog_10_method_33_code
def yX8_far : MethodName := ⟨RX8, "far", "(II)I"⟩
abbrev cX8_wide : ByteArray := prog_10_method_34_code
def yX8_wide : MethodName := ⟨RX8, "wide", "(II)I"⟩
abbrev cX8_isDue : ByteArray := prog_10_method_35_code
def yX8_isDue : MethodName := ⟨RX8, "isDue", "([I)Z"⟩
abbrev cX8_goes : ByteArray := prog_10_method_36_code
def yX8_goes : MethodName := ⟨RX8, "goes", "([II)I"⟩
abbrev cX8_tick : ByteArray := prog_10_method_37_code
def yX8_tick : MethodName := ⟨RX8, "tick", "(I)I"⟩
abbrev cX8_handset : ByteArray := prog_10_method_38_code
def yX8_handset : MethodName := ⟨RX8, "handset", "(I)I"⟩
abbrev cX8_allowed : ByteArray := prog_10_method_39_code
def yX8_allowed : MethodName := ⟨RX8, "allowed", "()I"⟩
abbrev cX8_whereIs : ByteArray := prog_10_method_40_code
def yX8_whereIs : MethodName := ⟨RX8, "whereIs", "()I"⟩
abbrev cX8_where : ByteArray := prog_10_method_41_code
def yX8_where : MethodName := ⟨RX8, "where", "()I"⟩
abbrev cX8_determinant : ByteArray := prog_10_method_42_code
def yX8_determinant : MethodName := ⟨RX8, "determinant", "(I)J"⟩
abbrev cX8_grows : ByteArray := prog_10_method_43_code
def yX8_grows : MethodName := ⟨RX8, "grows", "()V"⟩
abbrev cX8_below : ByteArray := prog_10_method_44_code
def yX8_below : MethodName := ⟨RX8, "below", "()J"⟩
abbrev cX8_common : ByteArray := prog_10_method_45_code
def yX8_common : MethodName := ⟨RX8, "common", "(JJ)J"⟩
abbrev cX8_term : ByteArray := prog_10_method_46_code
def yX8_term : MethodName := ⟨RX8, "term", "(JJI)J"⟩
abbrev cX8_chance : ByteArray := prog_10_method_47_code
def yX8_chance : MethodName := ⟨RX8, "chance", "(II)J"⟩
abbrev cX8_crossing : ByteArray := prog_10_method_48_code
def yX8_crossing : MethodName := ⟨RX8, "crossing", "([IIZ)J"⟩
abbrev cX8_expense : ByteArray := prog_10_method_49_code
def yX8_expense : MethodName := ⟨RX8, "expense", "([II)J"⟩
abbrev cX8_mean : ByteArray := prog_10_method_50_code
def yX8_mean : MethodName := ⟨RX8, "mean", "(II)J"⟩
abbrev cX8_goesOn : ByteArray := prog_10_method_51_code
def yX8_goesOn : MethodName := ⟨RX8, "goesOn", "()Z"⟩
abbrev cX8_finds : ByteArray := prog_10_method_52_code
def yX8_finds : MethodName := ⟨RX8, "finds", "()J"⟩
abbrev cX8_best : ByteArray := prog_10_method_53_code
def yX8_best : MethodName := ⟨RX8, "best", "(I)I"⟩
abbrev cX8_least : ByteArray := prog_10_method_54_code
def yX8_least : MethodName := ⟨RX8, "least", "(I)J"⟩
abbrev cX8_give : ByteArray := prog_10_method_55_code
def yX8_give : MethodName := ⟨RX8, "give", "()I"⟩
abbrev cX8_ranks : ByteArray := prog_10_method_56_code
def yX8_ranks : MethodName := ⟨RX8, "ranks", "()V"⟩
abbrev cX8_bits : ByteArray := prog_10_method_57_code
def yX8_bits : MethodName := ⟨RX8, "bits", "(I)I"⟩
abbrev cX8_paged : ByteArray := prog_10_method_58_code
def yX8_paged : MethodName := ⟨RX8, "paged", "(I)J"⟩
abbrev cX8_isFirst : ByteArray := prog_10_method_59_code
def yX8_isFirst : MethodName := ⟨RX8, "isFirst", "(II)Z"⟩
abbrev cX8_splits : ByteArray := prog_10_method_60_code
def yX8_splits : MethodName := ⟨RX8, "splits", "()V"⟩
abbrev cX8_round : ByteArray := prog_10_method_61_code
def yX8_round : MethodName := ⟨RX8, "round", "(I)I"⟩
abbrev cX8_page : ByteArray := prog_10_method_62_code
def yX8_page : MethodName := ⟨RX8, "page", "()I"⟩
abbrev cX8_walk : ByteArray := prog_10_method_63_code
def yX8_walk : MethodName := ⟨RX8, "walk", "(III)I"⟩
abbrev cX8_count : ByteArray := prog_10_method_64_code
def yX8_count : MethodName := ⟨RX8, "count", "(I)I"⟩
def RJ6 : String := "java/lang/Integer"
def TJ6 : u_T := fun k => match k with
  | _ => ("", "", "", false)
def tyJ6 : Nat → FieldType := fun k => match k with
  | _ => .int
abbrev wsJ60 : List Cond := u_ws RJ6 TJ6 0
theorem nmJ6 : ∀ a, a < 0 → ∀ b, b < 0 → a ≠ b → (TJ6 a).2.1 ≠ (TJ6 b).2.1 := by decide +kernel
theorem tyJ6_ok : ∀ k, k < 0 → parseFieldDescriptor (TJ6 k).2.2.1 = some (tyJ6 k) := by decide +kernel
abbrev cJ6_bitCount_0f7a4 : ByteArray := prog_11_method_49_code
def yJ6_bitCount_0f7a4 : MethodName := ⟨RJ6, "bitCount", "(I)I"⟩
def RJ9 : String := "java/lang/Math"
def TJ9 : u_T := fun k => match k with
  | _ => ("", "", "", false)
def tyJ9 : Nat → FieldType := fun k => match k with
  | _ => .int
abbrev wsJ90 : List Cond := u_ws RJ9 TJ9 0
theorem nmJ9 : ∀ a, a < 0 → ∀ b, b < 0 → a ≠ b → (TJ9 a).2.1 ≠ (TJ9 b).2.1 := by decide +kernel
theorem tyJ9_ok : ∀ k, k < 0 → parseFieldDescriptor (TJ9 k).2.2.1 = some (tyJ9 k) := by decide +kernel
abbrev cJ9_max_7cf53 : ByteArray := prog_12_method_65_code
def yJ9_max_7cf53 : MethodName := ⟨RJ9, "max", "(II)I"⟩
abbrev cJ9_min_7cf53 : ByteArray := prog_12_method_69_code
def yJ9_min_7cf53 : MethodName := ⟨RJ9, "min", "(II)I"⟩
def RJ0 : String := "java/lang/String"
def TJ0 : u_T := fun k => match k with
  | _ => ("", "", "", false)
def tyJ0 : Nat → FieldType := fun k => match k with
  | _ => .int
abbrev wsJ00 : List Cond := u_ws RJ0 TJ0 0
theorem nmJ0 : ∀ a, a < 0 → ∀ b, b < 0 → a ≠ b → (TJ0 a).2.1 ≠ (TJ0 b).2.1 := by decide +kernel
theorem tyJ0_ok : ∀ k, k < 0 → parseFieldDescriptor (TJ0 k).2.2.1 = some (tyJ0 k) := by decide +kernel
abbrev cJ0_length_8abf5 : ByteArray := prog_13_method_54_code
def yJ0_length_8abf5 : MethodName := ⟨RJ0, "length", "()I"⟩
abbrev cJ0_charAt_5068e : ByteArray := prog_13_method_56_code
def yJ0_charAt_5068e : MethodName := ⟨RJ0, "charAt", "(I)C"⟩
abbrev cJ0_coder_7d493 : ByteArray := prog_13_method_152_code
def yJ0_coder_7d493 : MethodName := ⟨RJ0, "coder", "()B"⟩
abbrev cJ0_isLatin1_aae02 : ByteArray := prog_13_method_154_code
def yJ0_isLatin1_aae02 : MethodName := ⟨RJ0, "isLatin1", "()Z"⟩
abbrev cJ0_checkIndex_df160 : ByteArray := prog_13_method_155_code
def yJ0_checkIndex_df160 : MethodName := ⟨RJ0, "checkIndex", "(II)V"⟩
def RJ1 : String := "java/lang/StringLatin1"
def TJ1 : u_T := fun k => match k with
  | _ => ("", "", "", false)
def tyJ1 : Nat → FieldType := fun k => match k with
  | _ => .int
abbrev wsJ10 : List Cond := u_ws RJ1 TJ1 0
theorem nmJ1 : ∀ a, a < 0 → ∀ b, b < 0 → a ≠ b → (TJ1 a).2.1 ≠ (TJ1 b).2.1 := by decide +kernel
theorem tyJ1_ok : ∀ k, k < 0 → parseFieldDescriptor (TJ1 k).2.2.1 = some (tyJ1 k) := by decide +kernel
abbrev cJ1_charAt_3b067 : ByteArray := prog_14_method_2_code
def yJ1_charAt_3b067 : MethodName := ⟨RJ1, "charAt", "([BI)C"⟩
def RJ2 : String := "java/lang/StringUTF16"
def TJ2 : u_T := fun k => match k with
  | _ => ("", "", "", false)
def tyJ2 : Nat → FieldType := fun k => match k with
  | _ => .int
abbrev wsJ20 : List Cond := u_ws RJ2 TJ2 0
theorem nmJ2 : ∀ a, a < 0 → ∀ b, b < 0 → a ≠ b → (TJ2 a).2.1 ≠ (TJ2 b).2.1 := by decide +kernel
theorem tyJ2_ok : ∀ k, k < 0 → parseFieldDescriptor (TJ2 k).2.2.1 = some (tyJ2 k) := by decide +kernel
abbrev cJ2_getChar_3b067 : ByteArray := prog_15_method_5_code
def yJ2_getChar_3b067 : MethodName := ⟨RJ2, "getChar", "([BI)C"⟩
abbrev cJ2_length_9d52b : ByteArray := prog_15_method_6_code
def yJ2_length_9d52b : MethodName := ⟨RJ2, "length", "([B)I"⟩
abbrev cJ2_charAt_3b067 : ByteArray := prog_15_method_83_code
def yJ2_charAt_3b067 : MethodName := ⟨RJ2, "charAt", "([BI)C"⟩
abbrev cJ2_checkIndex_2214a : ByteArray := prog_15_method_91_code
def yJ2_checkIndex_2214a : MethodName := ⟨RJ2, "checkIndex", "(I[B)V"⟩
def RJ10 : String := "java/lang/System"
def TJ10 : u_T := fun k => match k with
  | _ => ("", "", "", false)
def tyJ10 : Nat → FieldType := fun k => match k with
  | _ => .int
abbrev wsJ100 : List Cond := u_ws RJ10 TJ10 0
theorem nmJ10 : ∀ a, a < 0 → ∀ b, b < 0 → a ≠ b → (TJ10 a).2.1 ≠ (TJ10 b).2.1 := by decide +kernel
theorem tyJ10_ok : ∀ k, k < 0 → parseFieldDescriptor (TJ10 k).2.2.1 = some (tyJ10 k) := by decide +kernel
def RJ3 : String := "jdk/internal/util/Preconditions"
def TJ3 : u_T := fun k => match k with
  | _ => ("", "", "", false)
def tyJ3 : Nat → FieldType := fun k => match k with
  | _ => .int
abbrev wsJ30 : List Cond := u_ws RJ3 TJ3 0
theorem nmJ3 : ∀ a, a < 0 → ∀ b, b < 0 → a ≠ b → (TJ3 a).2.1 ≠ (TJ3 b).2.1 := by decide +kernel
theorem tyJ3_ok : ∀ k, k < 0 → parseFieldDescriptor (TJ3 k).2.2.1 = some (tyJ3 k) := by decide +kernel
abbrev cJ3_checkIndex_8e157 : ByteArray := prog_17_method_11_code
def yJ3_checkIndex_8e157 : MethodName := ⟨RJ3, "checkIndex", "(IILjava/util/function/BiFunction;)I"⟩
def RL : String := "RingPagesLaw"
abbrev cL_law : ByteArray := code
def yL_law : MethodName := ⟨RL, "law", "([I)Z"⟩
def wsX0_init : List Cond := .code yX0_init cX0_init 1 none :: ([.methodLink RX0 3 objectInit, .instanceMethod objectInit, .code objectInit ⟨#[0xb1]⟩ 1 none, .arrayClass .long, .fieldLink RX0 9 "RingPages$LongRun" "above" "[J", .arrayClass .int, .fieldLink RX0 15 "RingPages$LongRun" "best" "[I", .fieldLink RX0 19 "RingPages$LongRun" "tried" "[I"] ++ wsX00)
def wsX0_reckon : List Cond := .code yX0_reckon cX0_reckon 4 none :: ([.fieldLink RX0 22 "RingPages$LongRun" "below" "J", .fieldLink RX0 26 "RingPages$Net" "cells" "I", .fieldLink RX0 9 "RingPages$LongRun" "above" "[J", .fieldLink RX0 32 "RingPages$State" "stay" "[I", .fieldLink RX0 37 "RingPages$Net" "out" "[I", .fieldLink RX0 40 "RingPages$Net" "trees" "[J", .fieldLink RX0 43 "RingPages$LongRun" "bestKnown" "Z"] ++ wsX00 ++ wsX10 ++ wsX40)
def wsX0_crosses : List Cond := .code yX0_crosses cX0_crosses 7 (some .long) :: ([.fieldLink RX0 26 "RingPages$Net" "cells" "I", .fieldLink RX0 40 "RingPages$Net" "trees" "[J", .fieldLink RX0 47 "RingPages$Net" "weight" "[[I"] ++ wsX10)
def wsX0_movesOn : List Cond := .code yX0_movesOn cX0_movesOn 5 (some .long) :: ([.fieldLink RX0 26 "RingPages$Net" "cells" "I", .fieldLink RX0 40 "RingPages$Net" "trees" "[J", .fieldLink RX0 37 "RingPages$Net" "out" "[I"] ++ wsX10)
def wsX7_sameArea : List Cond := .code yX7_sameArea cX7_sameArea 5 (some .int) :: ([])
def wsX0_expense : List Cond := .code yX0_expense cX0_expense 6 (some .long) :: ([.fieldLink RX0 26 "RingPages$Net" "cells" "I", .fieldLink RX0 9 "RingPages$LongRun" "above" "[J", .fieldLink RX0 55 "RingPages$Net" "updateCost" "I", .fieldLink RX0 62 "RingPages$Net" "pageCost" "I", .fieldLink RX0 65 "RingPages$Net" "callChance" "I", .static yX7_sameArea, .initialized RX7, .code yX7_sameArea cX7_sameArea 5 (some .int), .methodLink RX0 58 yX0_crosses, .instanceMethod yX0_crosses, .selects RX0 yX0_crosses yX0_crosses, .initialized RX0, .code yX0_crosses cX0_crosses 7 (some .long), .fieldLink RX0 40 "RingPages$Net" "trees" "[J", .fieldLink RX0 47 "RingPages$Net" "weight" "[[I"] ++ wsX10 ++ wsX00)
def wsX0_takeTried : List Cond := .code yX0_takeTried cX0_takeTried 3 none :: ([.fieldLink RX0 79 "RingPages$LongRun" "leastExpense" "J", .fieldLink RX0 19 "RingPages$LongRun" "tried" "[I", .fieldLink RX0 15 "RingPages$LongRun" "best" "[I", .methodLink RX0 82 arraycopyName, .native arraycopyName, .static arraycopyName, .initialized "java/lang/System"] ++ wsX00)
def wsX0_highestAhead : List Cond := .code yX0_highestAhead cX0_highestAhead 4 (some .int) :: ([.fieldLink RX0 19 "RingPages$LongRun" "tried" "[I", .methodLink RX0 92 Lib.Math.max.name, .static Lib.Math.max.name, .initialized "java/lang/Math", .code Lib.Math.max.name Lib.Math.max.code 2 (some .int)] ++ wsX00)
def wsX0_nextTried : List Cond := .code yX0_nextTried cX0_nextTried 3 (some .boolean) :: ([.fieldLink RX0 19 "RingPages$LongRun" "tried" "[I", .methodLink RX0 88 yX0_highestAhead, .instanceMethod yX0_highestAhead, .selects RX0 yX0_highestAhead yX0_highestAhead, .initialized RX0, .code yX0_highestAhead cX0_highestAhead 4 (some .int), .methodLink RX0 92 Lib.Math.max.name, .static Lib.Math.max.name, .initialized "java/lang/Math", .code Lib.Math.max.name Lib.Math.max.code 2 (some .int)] ++ wsX00)
def wsX0_findBest_r1 : List Cond := [Cond.fieldLink RX0 43 "RingPages$LongRun" "bestKnown" "Z", Cond.fieldLink RX0 19 "RingPages$LongRun" "tried" "[I", Cond.fieldLink RX0 26 "RingPages$Net" "cells" "I", Cond.fieldLink RX0 79 "RingPages$LongRun" "leastExpense" "J", Cond.methodLink RX0 68 yX0_expense, Cond.instanceMethod yX0_expense, Cond.selects RX0 yX0_expense yX0_expense, Cond.initialized RX0, Cond.code yX0_expense cX0_expense 6 (some .long), Cond.fieldLink RX0 9 "RingPages$LongRun" "above" "[J", Cond.fieldLink RX0 55 "RingPages$Net" "updateCost" "I", Cond.fieldLink RX0 62 "RingPages$Net" "pageCost" "I", Cond.fieldLink RX0 65 "RingPages$Net" "callChance" "I", Cond.static yX7_sameArea, Cond.initialized RX7, Cond.code yX7_sameArea cX7_sameArea 5 (some .int), Cond.methodLink RX0 58 yX0_crosses, Cond.instanceMethod yX0_crosses, Cond.selects RX0 yX0_crosses yX0_crosses, Cond.code yX0_crosses cX0_crosses 7 (some .long), Cond.fieldLink RX0 40 "RingPages$Net" "trees" "[J", Cond.fieldLink RX0 47 "RingPages$Net" "weight" "[[I", Cond.methodLink RX0 71 yX0_takeTried, Cond.instanceMethod yX0_takeTried]
def wsX0_findBest_r2 : List Cond := [Cond.selects RX0 yX0_takeTried yX0_takeTried, Cond.code yX0_takeTried cX0_takeTried 3 none, Cond.fieldLink RX0 15 "RingPages$LongRun" "best" "[I", Cond.methodLink RX0 82 arraycopyName, Cond.native arraycopyName, Cond.static arraycopyName, Cond.initialized "java/lang/System", Cond.methodLink RX0 75 yX0_nextTried, Cond.instanceMethod yX0_nextTried, Cond.selects RX0 yX0_nextTried yX0_nextTried, Cond.code yX0_nextTried cX0_nextTried 3 (some .boolean), Cond.methodLink RX0 88 yX0_highestAhead, Cond.instanceMethod yX0_highestAhead, Cond.selects RX0 yX0_highestAhead yX0_highestAhead, Cond.code yX0_highestAhead cX0_highestAhead 4 (some .int), Cond.methodLink RX0 92 Lib.Math.max.name, Cond.static Lib.Math.max.name, Cond.initialized "java/lang/Math", Cond.code Lib.Math.max.name Lib.Math.max.code 2 (some .int)]
def wsX0_findBest : List Cond := .code yX0_findBest cX0_findBest 5 none :: ((wsX0_findBest_r1 ++ wsX0_findBest_r2) ++ wsX00 ++ wsX10)
def wsX1_init : List Cond := .code yX1_init cX1_init 1 none :: ([.methodLink RX1 3 objectInit, .instanceMethod objectInit, .code objectInit ⟨#[0xb1]⟩ 1 none, .classLink RX1 9 "[[I", .arrayClass .int, .fieldLink RX1 11 "RingPages$Net" "weight" "[[I", .fieldLink RX1 16 "RingPages$Net" "wide" "[[I", .fieldLink RX1 19 "RingPages$Net" "near" "[I", .fieldLink RX1 23 "RingPages$Net" "out" "[I", .arrayClass .long, .fieldLink RX1 26 "RingPages$Net" "trees" "[J", .fieldLink RX1 30 "RingPages$Net" "minors" "[J"] ++ wsX10)
def wsX1_price : List Cond := .code yX1_price cX1_price 5 none :: ([.fieldLink RX1 44 "RingPages$Net" "mostRounds" "I", .fieldLink RX1 47 "RingPages$Net" "pageCost" "I", .fieldLink RX1 50 "RingPages$Net" "updateCost" "I", .fieldLink RX1 53 "RingPages$Net" "callChance" "I"] ++ wsX10)
def wsX1_begin : List Cond := .code yX1_begin cX1_begin 4 none :: ([.fieldLink RX1 33 "RingPages$Net" "cells" "I", .fieldLink RX1 37 "RingPages$Net" "joins" "I", .fieldLink RX1 19 "RingPages$Net" "near" "[I", .fieldLink RX1 23 "RingPages$Net" "out" "[I", .fieldLink RX1 11 "RingPages$Net" "weight" "[[I", .fieldLink RX1 16 "RingPages$Net" "wide" "[[I", .methodLink RX1 40 yX1_price, .instanceMethod yX1_price, .selects RX1 yX1_price yX1_price, .initialized RX1, .code yX1_price cX1_price 5 none, .fieldLink RX1 44 "RingPages$Net" "mostRounds" "I", .fieldLink RX1 47 "RingPages$Net" "pageCost" "I", .fieldLink RX1 50 "RingPages$Net" "updateCost" "I", .fieldLink RX1 53 "RingPages$Net" "callChance" "I"] ++ wsX10)
def wsX1_lead : List Cond := .code yX1_lead cX1_lead 4 none :: ([.fieldLink RX1 11 "RingPages$Net" "weight" "[[I", .fieldLink RX1 16 "RingPages$Net" "wide" "[[I", .fieldLink RX1 19 "RingPages$Net" "near" "[I", .fieldLink RX1 23 "RingPages$Net" "out" "[I"] ++ wsX10)
def wsX1_join : List Cond := .code yX1_join cX1_join 5 none :: ([.fieldLink RX1 37 "RingPages$Net" "joins" "I", .methodLink RX1 56 yX1_lead, .instanceMethod yX1_lead, .selects RX1 yX1_lead yX1_lead, .initialized RX1, .code yX1_lead cX1_lead 4 none, .fieldLink RX1 11 "RingPages$Net" "weight" "[[I", .fieldLink RX1 16 "RingPages$Net" "wide" "[[I", .fieldLink RX1 19 "RingPages$Net" "near" "[I", .fieldLink RX1 23 "RingPages$Net" "out" "[I"] ++ wsX10)
def wsX1_isWhole : List Cond := .code yX1_isWhole cX1_isWhole 4 (some .boolean) :: ([.fieldLink RX1 33 "RingPages$Net" "cells" "I", .fieldLink RX1 16 "RingPages$Net" "wide" "[[I", .methodLink RX1 60 Lib.Math.min.name, .static Lib.Math.min.name, .initialized "java/lang/Math", .code Lib.Math.min.name Lib.Math.min.code 2 (some .int)] ++ wsX10)
def wsJ6_bitCount_0f7a4 : List Cond := .code yJ6_bitCount_0f7a4 cJ6_bitCount_0f7a4 1 (some .int) :: ([.constant RJ6 265 (1431655765), .constant RJ6 266 (858993459), .constant RJ6 267 (252645135)])
def wsX1_rowOf : List Cond := .code yX1_rowOf cX1_rowOf 3 (some .int) :: ([])
def wsX7_holds : List Cond := .code yX7_holds cX7_holds 2 (some .boolean) :: ([])
def wsX1_minorOf : List Cond := .code yX1_minorOf cX1_minorOf 9 (some .long) :: ([.fieldLink RX1 33 "RingPages$Net" "cells" "I", .fieldLink RX1 23 "RingPages$Net" "out" "[I", .fieldLink RX1 11 "RingPages$Net" "weight" "[[I", .fieldLink RX1 30 "RingPages$Net" "minors" "[J", .static yX7_holds, .initialized RX7, .code yX7_holds cX7_holds 2 (some .boolean), .methodLink RX1 70 yJ6_bitCount_0f7a4, .static yJ6_bitCount_0f7a4, .initialized RJ6, .code yJ6_bitCount_0f7a4 cJ6_bitCount_0f7a4 1 (some .int), .constant RJ6 265 (1431655765), .constant RJ6 266 (858993459), .constant RJ6 267 (252645135)] ++ wsX10)
def wsX1_treesTo : List Cond := .code yX1_treesTo cX1_treesTo 4 (some .long) :: ([.fieldLink RX1 33 "RingPages$Net" "cells" "I", .fieldLink RX1 30 "RingPages$Net" "minors" "[J", .methodLink RX1 70 yJ6_bitCount_0f7a4, .static yJ6_bitCount_0f7a4, .initialized RJ6, .code yJ6_bitCount_0f7a4 cJ6_bitCount_0f7a4 1 (some .int), .constant RJ6 265 (1431655765), .constant RJ6 266 (858993459), .constant RJ6 267 (252645135), .methodLink RX1 76 yX1_rowOf, .instanceMethod yX1_rowOf, .selects RX1 yX1_rowOf yX1_rowOf, .initialized RX1, .code yX1_rowOf cX1_rowOf 3 (some .int), .methodLink RX1 79 yX1_minorOf, .instanceMethod yX1_minorOf, .selects RX1 yX1_minorOf yX1_minorOf, .code yX1_minorOf cX1_minorOf 9 (some .long), .fieldLink RX1 23 "RingPages$Net" "out" "[I", .fieldLink RX1 11 "RingPages$Net" "weight" "[[I", .static yX7_holds, .initialized RX7, .code yX7_holds cX7_holds 2 (some .boolean)] ++ wsX10)
def wsX1_growTrees_r1 : List Cond := [Cond.fieldLink RX1 33 "RingPages$Net" "cells" "I", Cond.fieldLink RX1 26 "RingPages$Net" "trees" "[J", Cond.methodLink RX1 66 yX1_treesTo, Cond.instanceMethod yX1_treesTo, Cond.selects RX1 yX1_treesTo yX1_treesTo, Cond.initialized RX1, Cond.code yX1_treesTo cX1_treesTo 4 (some .long), Cond.fieldLink RX1 30 "RingPages$Net" "minors" "[J", Cond.methodLink RX1 70 yJ6_bitCount_0f7a4, Cond.static yJ6_bitCount_0f7a4, Cond.initialized RJ6, Cond.code yJ6_bitCount_0f7a4 cJ6_bitCount_0f7a4 1 (some .int), Cond.constant RJ6 265 (1431655765), Cond.constant RJ6 266 (858993459), Cond.constant RJ6 267 (252645135), Cond.methodLink RX1 76 yX1_rowOf, Cond.instanceMethod yX1_rowOf, Cond.selects RX1 yX1_rowOf yX1_rowOf, Cond.code yX1_rowOf cX1_rowOf 3 (some .int), Cond.methodLink RX1 79 yX1_minorOf, Cond.instanceMethod yX1_minorOf, Cond.selects RX1 yX1_minorOf yX1_minorOf, Cond.code yX1_minorOf cX1_minorOf 9 (some .long), Cond.fieldLink RX1 23 "RingPages$Net" "out" "[I"]
def wsX1_growTrees_r2 : List Cond := [Cond.fieldLink RX1 11 "RingPages$Net" "weight" "[[I", Cond.static yX7_holds, Cond.initialized RX7, Cond.code yX7_holds cX7_holds 2 (some .boolean)]
def wsX1_growTrees : List Cond := .code yX1_growTrees cX1_growTrees 2 none :: ((wsX1_growTrees_r1 ++ wsX1_growTrees_r2) ++ wsX10)
def wsX4_init : List Cond := .code yX4_init cX4_init 1 none :: ([.methodLink RX4 3 objectInit, .instanceMethod objectInit, .code objectInit ⟨#[0xb1]⟩ 1 none, .arrayClass .int, .fieldLink RX4 9 "RingPages$State" "stay" "[I", .fieldLink RX4 15 "RingPages$State" "area" "[I"] ++ wsX40)
def wsX2_init : List Cond := .code yX2_init cX2_init 2 none :: ([.methodLink RX2 3 objectInit, .instanceMethod objectInit, .code objectInit ⟨#[0xb1]⟩ 1 none, .classLink RX2 9 RX4, .fieldLink RX2 11 "RingPages$Past" "kept" "[LRingPages$State;", .instantiable RX4 10, .initialized RX4, .instanceMethod yX4_init, .code yX4_init cX4_init 1 none, .methodLink RX4 3 objectInit, .arrayClass .int, .fieldLink RX4 9 "RingPages$State" "stay" "[I", .fieldLink RX4 15 "RingPages$State" "area" "[I"] ++ wsX20 ++ wsX40)
def wsX4_copyFrom : List Cond := .code yX4_copyFrom cX4_copyFrom 2 none :: ([.fieldLink RX4 9 "RingPages$State" "stay" "[I", .methodLink RX4 37 arraycopyName, .native arraycopyName, .static arraycopyName, .initialized "java/lang/System", .fieldLink RX4 15 "RingPages$State" "area" "[I", .fieldLink RX4 18 "RingPages$State" "kind" "I", .fieldLink RX4 22 "RingPages$State" "value" "I", .fieldLink RX4 25 "RingPages$State" "cell" "I", .fieldLink RX4 43 "RingPages$State" "home" "I", .fieldLink RX4 46 "RingPages$State" "moves" "I", .fieldLink RX4 49 "RingPages$State" "ticks" "I", .fieldLink RX4 28 "RingPages$State" "updates" "I", .fieldLink RX4 31 "RingPages$State" "paged" "I"] ++ wsX40)
def wsX2_keep_r1 : List Cond := [Cond.fieldLink RX2 11 "RingPages$Past" "kept" "[LRingPages$State;", Cond.fieldLink RX2 18 "RingPages$Past" "next" "I", Cond.fieldLink RX2 26 "RingPages$Past" "held" "I", Cond.methodLink RX2 29 Lib.Math.min.name, Cond.static Lib.Math.min.name, Cond.initialized "java/lang/Math", Cond.code Lib.Math.min.name Lib.Math.min.code 2 (some .int), Cond.methodLink RX2 22 yX4_copyFrom, Cond.instanceMethod yX4_copyFrom, Cond.selects RX4 yX4_copyFrom yX4_copyFrom, Cond.initialized RX4, Cond.code yX4_copyFrom cX4_copyFrom 2 none, Cond.fieldLink RX4 9 "RingPages$State" "stay" "[I", Cond.methodLink RX4 37 arraycopyName, Cond.native arraycopyName, Cond.static arraycopyName, Cond.initialized "java/lang/System", Cond.fieldLink RX4 15 "RingPages$State" "area" "[I", Cond.fieldLink RX4 18 "RingPages$State" "kind" "I", Cond.fieldLink RX4 22 "RingPages$State" "value" "I", Cond.fieldLink RX4 25 "RingPages$State" "cell" "I", Cond.fieldLink RX4 43 "RingPages$State" "home" "I", Cond.fieldLink RX4 46 "RingPages$State" "moves" "I", Cond.fieldLink RX4 49 "RingPages$State" "ticks" "I"]
def wsX2_keep_r2 : List Cond := [Cond.fieldLink RX4 28 "RingPages$State" "updates" "I", Cond.fieldLink RX4 31 "RingPages$State" "paged" "I"]
def wsX2_keep : List Cond := .code yX2_keep cX2_keep 2 none :: ((wsX2_keep_r1 ++ wsX2_keep_r2) ++ wsX20 ++ wsX40)
def wsX2_bringBack : List Cond := .code yX2_bringBack cX2_bringBack 2 (some .boolean) :: ([.fieldLink RX2 26 "RingPages$Past" "held" "I", .fieldLink RX2 18 "RingPages$Past" "next" "I", .fieldLink RX2 11 "RingPages$Past" "kept" "[LRingPages$State;", .methodLink RX2 22 yX4_copyFrom, .instanceMethod yX4_copyFrom, .selects RX4 yX4_copyFrom yX4_copyFrom, .initialized RX4, .code yX4_copyFrom cX4_copyFrom 2 none, .fieldLink RX4 9 "RingPages$State" "stay" "[I", .methodLink RX4 37 arraycopyName, .native arraycopyName, .static arraycopyName, .initialized "java/lang/System", .fieldLink RX4 15 "RingPages$State" "area" "[I", .fieldLink RX4 18 "RingPages$State" "kind" "I", .fieldLink RX4 22 "RingPages$State" "value" "I", .fieldLink RX4 25 "RingPages$State" "cell" "I", .fieldLink RX4 43 "RingPages$State" "home" "I", .fieldLink RX4 46 "RingPages$State" "moves" "I", .fieldLink RX4 49 "RingPages$State" "ticks" "I", .fieldLink RX4 28 "RingPages$State" "updates" "I", .fieldLink RX4 31 "RingPages$State" "paged" "I"] ++ wsX20 ++ wsX40)
def wsX3_init : List Cond := .code yX3_init cX3_init 1 none :: ([.methodLink RX3 3 objectInit, .instanceMethod objectInit, .code objectInit ⟨#[0xb1]⟩ 1 none, .arrayClass .int, .fieldLink RX3 9 "RingPages$Rounds" "row" "[I"] ++ wsX30)
def wsX3_lineUp : List Cond := .code yX3_lineUp cX3_lineUp 5 none :: ([.fieldLink RX3 15 "RingPages$Rounds" "length" "I", .fieldLink RX3 9 "RingPages$Rounds" "row" "[I", .static yX7_holds, .initialized RX7, .code yX7_holds cX7_holds 2 (some .boolean)] ++ wsX30)
def wsX3_isCutBehind : List Cond := .code yX3_isCutBehind cX3_isCutBehind 3 (some .boolean) :: ([.fieldLink RX3 15 "RingPages$Rounds" "length" "I", .static yX7_holds, .initialized RX7, .code yX7_holds cX7_holds 2 (some .boolean)] ++ wsX30)
def wsX3_meanPaged : List Cond := .code yX3_meanPaged cX3_meanPaged 7 (some .long) :: ([.fieldLink RX3 15 "RingPages$Rounds" "length" "I", .fieldLink RX3 9 "RingPages$Rounds" "row" "[I", .methodLink RX3 41 yX3_isCutBehind, .instanceMethod yX3_isCutBehind, .selects RX3 yX3_isCutBehind yX3_isCutBehind, .initialized RX3, .code yX3_isCutBehind cX3_isCutBehind 3 (some .boolean), .static yX7_holds, .initialized RX7, .code yX7_holds cX7_holds 2 (some .boolean)] ++ wsX30)
def wsX3_split : List Cond := .code yX3_split cX3_split 10 none :: ([.constantLong RX3 23 (-1), .fieldLink RX3 25 "RingPages$Rounds" "many" "I", .fieldLink RX3 28 "RingPages$Rounds" "cuts" "I", .fieldLink RX3 15 "RingPages$Rounds" "length" "I", .methodLink RX3 31 yJ6_bitCount_0f7a4, .static yJ6_bitCount_0f7a4, .initialized RJ6, .code yJ6_bitCount_0f7a4 cJ6_bitCount_0f7a4 1 (some .int), .constant RJ6 265 (1431655765), .constant RJ6 266 (858993459), .constant RJ6 267 (252645135), .methodLink RX3 37 yX3_meanPaged, .instanceMethod yX3_meanPaged, .selects RX3 yX3_meanPaged yX3_meanPaged, .initialized RX3, .code yX3_meanPaged cX3_meanPaged 7 (some .long), .fieldLink RX3 9 "RingPages$Rounds" "row" "[I", .methodLink RX3 41 yX3_isCutBehind, .instanceMethod yX3_isCutBehind, .selects RX3 yX3_isCutBehind yX3_isCutBehind, .code yX3_isCutBehind cX3_isCutBehind 3 (some .boolean), .static yX7_holds, .initialized RX7, .code yX7_holds cX7_holds 2 (some .boolean)] ++ wsX30)
def wsX3_cellsOf : List Cond := .code yX3_cellsOf cX3_cellsOf 5 (some .int) :: ([.fieldLink RX3 15 "RingPages$Rounds" "length" "I", .fieldLink RX3 9 "RingPages$Rounds" "row" "[I", .fieldLink RX3 28 "RingPages$Rounds" "cuts" "I", .methodLink RX3 41 yX3_isCutBehind, .instanceMethod yX3_isCutBehind, .selects RX3 yX3_isCutBehind yX3_isCutBehind, .initialized RX3, .code yX3_isCutBehind cX3_isCutBehind 3 (some .boolean), .static yX7_holds, .initialized RX7, .code yX7_holds cX7_holds 2 (some .boolean)] ++ wsX30)
def wsX4_register : List Cond := .code yX4_register cX4_register 1 none :: ([.fieldLink RX4 25 "RingPages$State" "cell" "I", .fieldLink RX4 43 "RingPages$State" "home" "I", .fieldLink RX4 46 "RingPages$State" "moves" "I", .fieldLink RX4 49 "RingPages$State" "ticks" "I"] ++ wsX40)
def wsX4_begin : List Cond := .code yX4_begin cX4_begin 2 none :: ([.fieldLink RX4 9 "RingPages$State" "stay" "[I", .fieldLink RX4 15 "RingPages$State" "area" "[I", .fieldLink RX4 18 "RingPages$State" "kind" "I", .fieldLink RX4 22 "RingPages$State" "value" "I", .fieldLink RX4 25 "RingPages$State" "cell" "I", .fieldLink RX4 28 "RingPages$State" "updates" "I", .fieldLink RX4 31 "RingPages$State" "paged" "I", .methodLink RX4 34 yX4_register, .instanceMethod yX4_register, .selects RX4 yX4_register yX4_register, .initialized RX4, .code yX4_register cX4_register 1 none, .fieldLink RX4 43 "RingPages$State" "home" "I", .fieldLink RX4 46 "RingPages$State" "moves" "I", .fieldLink RX4 49 "RingPages$State" "ticks" "I"] ++ wsX40)
def wsX4_canGo : List Cond := .code yX4_canGo cX4_canGo 3 (some .boolean) :: ([.fieldLink RX4 25 "RingPages$State" "cell" "I", .fieldLink RX4 9 "RingPages$State" "stay" "[I", .fieldLink RX4 52 "RingPages$Net" "near" "[I", .static yX7_holds, .initialized RX7, .code yX7_holds cX7_holds 2 (some .boolean)] ++ wsX40 ++ wsX10)
def wsX4_isOutside : List Cond := .code yX4_isOutside cX4_isOutside 3 (some .boolean) :: ([.fieldLink RX4 18 "RingPages$State" "kind" "I", .fieldLink RX4 15 "RingPages$State" "area" "[I", .fieldLink RX4 43 "RingPages$State" "home" "I", .fieldLink RX4 69 "RingPages$Net" "wide" "[[I", .fieldLink RX4 22 "RingPages$State" "value" "I"] ++ wsX40 ++ wsX10)
def wsX4_isDue : List Cond := .code yX4_isDue cX4_isDue 2 (some .boolean) :: ([.fieldLink RX4 18 "RingPages$State" "kind" "I", .fieldLink RX4 46 "RingPages$State" "moves" "I", .fieldLink RX4 22 "RingPages$State" "value" "I", .fieldLink RX4 49 "RingPages$State" "ticks" "I", .fieldLink RX4 25 "RingPages$State" "cell" "I", .methodLink RX4 65 yX4_isOutside, .instanceMethod yX4_isOutside, .selects RX4 yX4_isOutside yX4_isOutside, .initialized RX4, .code yX4_isOutside cX4_isOutside 3 (some .boolean), .fieldLink RX4 15 "RingPages$State" "area" "[I", .fieldLink RX4 43 "RingPages$State" "home" "I", .fieldLink RX4 69 "RingPages$Net" "wide" "[[I"] ++ wsX40 ++ wsX10)
def wsX4_go : List Cond := .code yX4_go cX4_go 3 (some .boolean) :: ([.fieldLink RX4 25 "RingPages$State" "cell" "I", .fieldLink RX4 46 "RingPages$State" "moves" "I", .fieldLink RX4 49 "RingPages$State" "ticks" "I", .fieldLink RX4 28 "RingPages$State" "updates" "I", .methodLink RX4 61 yX4_isDue, .instanceMethod yX4_isDue, .selects RX4 yX4_isDue yX4_isDue, .initialized RX4, .code yX4_isDue cX4_isDue 2 (some .boolean), .fieldLink RX4 18 "RingPages$State" "kind" "I", .fieldLink RX4 22 "RingPages$State" "value" "I", .methodLink RX4 65 yX4_isOutside, .instanceMethod yX4_isOutside, .selects RX4 yX4_isOutside yX4_isOutside, .code yX4_isOutside cX4_isOutside 3 (some .boolean), .fieldLink RX4 15 "RingPages$State" "area" "[I", .fieldLink RX4 43 "RingPages$State" "home" "I", .fieldLink RX4 69 "RingPages$Net" "wide" "[[I", .methodLink RX4 34 yX4_register, .instanceMethod yX4_register, .selects RX4 yX4_register yX4_register, .code yX4_register cX4_register 1 none] ++ wsX40 ++ wsX10)
def wsX4_drawnCell : List Cond := .code yX4_drawnCell cX4_drawnCell 7 (some .int) :: ([.fieldLink RX4 9 "RingPages$State" "stay" "[I", .fieldLink RX4 25 "RingPages$State" "cell" "I", .fieldLink RX4 73 "RingPages$Net" "out" "[I", .fieldLink RX4 76 "RingPages$Net" "cells" "I", .fieldLink RX4 79 "RingPages$Net" "weight" "[[I"] ++ wsX40 ++ wsX10)
def wsX5_init : List Cond := .code yX5_init cX5_init 1 none :: ([.methodLink RX5 3 objectInit, .instanceMethod objectInit, .code objectInit ⟨#[0xb1]⟩ 1 none, .arrayClass .int, .fieldLink RX5 9 "RingPages$Text" "letters" "[I", .fieldLink RX5 15 "RingPages$Text" "numbers" "[I"] ++ wsX50)
def wsX5_append : List Cond := .code yX5_append cX5_append 2 (some .boolean) :: ([.fieldLink RX5 18 "RingPages$Text" "length" "I", .fieldLink RX5 9 "RingPages$Text" "letters" "[I"] ++ wsX50)
def wsX5_letterHere : List Cond := .code yX5_letterHere cX5_letterHere 1 (some .int) :: ([.fieldLink RX5 32 "RingPages$Text" "place" "I", .fieldLink RX5 18 "RingPages$Text" "length" "I", .fieldLink RX5 9 "RingPages$Text" "letters" "[I"] ++ wsX50)
def wsX5_numbersBehind : List Cond := .code yX5_numbersBehind cX5_numbersBehind 2 (some .int) :: ([])
def wsX5_figureHere : List Cond := .code yX5_figureHere cX5_figureHere 2 (some .int) :: ([.fieldLink RX5 32 "RingPages$Text" "place" "I", .fieldLink RX5 18 "RingPages$Text" "length" "I", .fieldLink RX5 9 "RingPages$Text" "letters" "[I"] ++ wsX50)
def wsX5_readNumber : List Cond := .code yX5_readNumber cX5_readNumber 3 (some .int) :: ([.fieldLink RX5 32 "RingPages$Text" "place" "I", .methodLink RX5 105 yX5_figureHere, .instanceMethod yX5_figureHere, .selects RX5 yX5_figureHere yX5_figureHere, .initialized RX5, .code yX5_figureHere cX5_figureHere 2 (some .int), .fieldLink RX5 18 "RingPages$Text" "length" "I", .fieldLink RX5 9 "RingPages$Text" "letters" "[I"] ++ wsX50)
def wsX5_readNumbers : List Cond := .code yX5_readNumbers cX5_readNumbers 3 (some .boolean) :: ([.fieldLink RX5 15 "RingPages$Text" "numbers" "[I", .fieldLink RX5 32 "RingPages$Text" "place" "I", .methodLink RX5 102 yX5_readNumber, .instanceMethod yX5_readNumber, .selects RX5 yX5_readNumber yX5_readNumber, .initialized RX5, .code yX5_readNumber cX5_readNumber 3 (some .int), .methodLink RX5 105 yX5_figureHere, .instanceMethod yX5_figureHere, .selects RX5 yX5_figureHere yX5_figureHere, .code yX5_figureHere cX5_figureHere 2 (some .int), .fieldLink RX5 18 "RingPages$Text" "length" "I", .fieldLink RX5 9 "RingPages$Text" "letters" "[I", .methodLink RX5 39 yX5_letterHere, .instanceMethod yX5_letterHere, .selects RX5 yX5_letterHere yX5_letterHere, .code yX5_letterHere cX5_letterHere 1 (some .int)] ++ wsX50)
def wsX5_takeCells : List Cond := .code yX5_takeCells cX5_takeCells 2 (some .boolean) :: ([.fieldLink RX5 15 "RingPages$Text" "numbers" "[I", .methodLink RX5 22 yX1_begin, .instanceMethod yX1_begin, .selects RX1 yX1_begin yX1_begin, .initialized RX1, .code yX1_begin cX1_begin 4 none, .fieldLink RX1 33 "RingPages$Net" "cells" "I", .fieldLink RX1 37 "RingPages$Net" "joins" "I", .fieldLink RX1 19 "RingPages$Net" "near" "[I", .fieldLink RX1 23 "RingPages$Net" "out" "[I", .fieldLink RX1 11 "RingPages$Net" "weight" "[[I", .fieldLink RX1 16 "RingPages$Net" "wide" "[[I", .methodLink RX1 40 yX1_price, .instanceMethod yX1_price, .selects RX1 yX1_price yX1_price, .code yX1_price cX1_price 5 none, .fieldLink RX1 44 "RingPages$Net" "mostRounds" "I", .fieldLink RX1 47 "RingPages$Net" "pageCost" "I", .fieldLink RX1 50 "RingPages$Net" "updateCost" "I", .fieldLink RX1 53 "RingPages$Net" "callChance" "I"] ++ wsX50 ++ wsX10)
def wsX5_isWeight : List Cond := .code yX5_isWeight cX5_isWeight 2 (some .boolean) :: ([])
def wsX5_takeJoin : List Cond := .code yX5_takeJoin cX5_takeJoin 4 (some .boolean) :: ([.fieldLink RX5 15 "RingPages$Text" "numbers" "[I", .fieldLink RX5 43 "RingPages$Net" "cells" "I", .fieldLink RX5 78 "RingPages$Net" "weight" "[[I", .methodLink RX5 82 yX5_isWeight, .instanceMethod yX5_isWeight, .selects RX5 yX5_isWeight yX5_isWeight, .initialized RX5, .code yX5_isWeight cX5_isWeight 2 (some .boolean), .methodLink RX5 85 yX1_join, .instanceMethod yX1_join, .selects RX1 yX1_join yX1_join, .initialized RX1, .code yX1_join cX1_join 5 none, .fieldLink RX1 37 "RingPages$Net" "joins" "I", .methodLink RX1 56 yX1_lead, .instanceMethod yX1_lead, .selects RX1 yX1_lead yX1_lead, .code yX1_lead cX1_lead 4 none, .fieldLink RX1 11 "RingPages$Net" "weight" "[[I", .fieldLink RX1 16 "RingPages$Net" "wide" "[[I", .fieldLink RX1 19 "RingPages$Net" "near" "[I", .fieldLink RX1 23 "RingPages$Net" "out" "[I"] ++ wsX50 ++ wsX10)
def wsX5_takeCellNumber : List Cond := .code yX5_takeCellNumber cX5_takeCellNumber 4 (some .boolean) :: ([.fieldLink RX5 15 "RingPages$Text" "numbers" "[I", .fieldLink RX5 43 "RingPages$Net" "cells" "I"] ++ wsX50 ++ wsX10)
def wsX7_isLaw : List Cond := .code yX7_isLaw cX7_isLaw 2 (some .boolean) :: ([])
def wsX5_takeLaw : List Cond := .code yX5_takeLaw cX5_takeLaw 2 (some .boolean) :: ([.fieldLink RX5 15 "RingPages$Text" "numbers" "[I", .fieldLink RX5 93 "RingPages$State" "kind" "I", .fieldLink RX5 96 "RingPages$State" "value" "I", .static yX7_isLaw, .initialized RX7, .code yX7_isLaw cX7_isLaw 2 (some .boolean)] ++ wsX50 ++ wsX40)
def wsX5_takePrices : List Cond := .code yX5_takePrices cX5_takePrices 2 (some .boolean) :: ([.fieldLink RX5 15 "RingPages$Text" "numbers" "[I", .methodLink RX5 99 yX1_price, .instanceMethod yX1_price, .selects RX1 yX1_price yX1_price, .initialized RX1, .code yX1_price cX1_price 5 none, .fieldLink RX1 44 "RingPages$Net" "mostRounds" "I", .fieldLink RX1 47 "RingPages$Net" "pageCost" "I", .fieldLink RX1 50 "RingPages$Net" "updateCost" "I", .fieldLink RX1 53 "RingPages$Net" "callChance" "I"] ++ wsX50 ++ wsX10)
def wsX5_readItem_r1 : List Cond := [Cond.fieldLink RX5 32 "RingPages$Text" "place" "I", Cond.fieldLink RX5 43 "RingPages$Net" "cells" "I", Cond.fieldLink RX5 61 "RingPages$State" "stay" "[I", Cond.fieldLink RX5 68 "RingPages$State" "area" "[I", Cond.methodLink RX5 39 yX5_letterHere, Cond.instanceMethod yX5_letterHere, Cond.selects RX5 yX5_letterHere yX5_letterHere, Cond.initialized RX5, Cond.code yX5_letterHere cX5_letterHere 1 (some .int), Cond.fieldLink RX5 18 "RingPages$Text" "length" "I", Cond.fieldLink RX5 9 "RingPages$Text" "letters" "[I", Cond.methodLink RX5 46 yX5_numbersBehind, Cond.instanceMethod yX5_numbersBehind, Cond.selects RX5 yX5_numbersBehind yX5_numbersBehind, Cond.code yX5_numbersBehind cX5_numbersBehind 2 (some .int), Cond.methodLink RX5 50 yX5_readNumbers, Cond.instanceMethod yX5_readNumbers, Cond.selects RX5 yX5_readNumbers yX5_readNumbers, Cond.code yX5_readNumbers cX5_readNumbers 3 (some .boolean), Cond.fieldLink RX5 15 "RingPages$Text" "numbers" "[I", Cond.methodLink RX5 102 yX5_readNumber, Cond.instanceMethod yX5_readNumber, Cond.selects RX5 yX5_readNumber yX5_readNumber, Cond.code yX5_readNumber cX5_readNumber 3 (some .int)]
def wsX5_readItem_r2 : List Cond := [Cond.methodLink RX5 105 yX5_figureHere, Cond.instanceMethod yX5_figureHere, Cond.selects RX5 yX5_figureHere yX5_figureHere, Cond.code yX5_figureHere cX5_figureHere 2 (some .int), Cond.methodLink RX5 54 yX5_takeCells, Cond.instanceMethod yX5_takeCells, Cond.selects RX5 yX5_takeCells yX5_takeCells, Cond.code yX5_takeCells cX5_takeCells 2 (some .boolean), Cond.methodLink RX5 22 yX1_begin, Cond.instanceMethod yX1_begin, Cond.selects RX1 yX1_begin yX1_begin, Cond.initialized RX1, Cond.code yX1_begin cX1_begin 4 none, Cond.fieldLink RX1 33 "RingPages$Net" "cells" "I", Cond.fieldLink RX1 37 "RingPages$Net" "joins" "I", Cond.fieldLink RX1 19 "RingPages$Net" "near" "[I", Cond.fieldLink RX1 23 "RingPages$Net" "out" "[I", Cond.fieldLink RX1 11 "RingPages$Net" "weight" "[[I", Cond.fieldLink RX1 16 "RingPages$Net" "wide" "[[I", Cond.methodLink RX1 40 yX1_price, Cond.instanceMethod yX1_price, Cond.selects RX1 yX1_price yX1_price, Cond.code yX1_price cX1_price 5 none, Cond.fieldLink RX1 44 "RingPages$Net" "mostRounds" "I"]
def wsX5_readItem_r3 : List Cond := [Cond.fieldLink RX1 47 "RingPages$Net" "pageCost" "I", Cond.fieldLink RX1 50 "RingPages$Net" "updateCost" "I", Cond.fieldLink RX1 53 "RingPages$Net" "callChance" "I", Cond.methodLink RX5 58 yX5_takeJoin, Cond.instanceMethod yX5_takeJoin, Cond.selects RX5 yX5_takeJoin yX5_takeJoin, Cond.code yX5_takeJoin cX5_takeJoin 4 (some .boolean), Cond.fieldLink RX5 78 "RingPages$Net" "weight" "[[I", Cond.methodLink RX5 82 yX5_isWeight, Cond.instanceMethod yX5_isWeight, Cond.selects RX5 yX5_isWeight yX5_isWeight, Cond.code yX5_isWeight cX5_isWeight 2 (some .boolean), Cond.methodLink RX5 85 yX1_join, Cond.instanceMethod yX1_join, Cond.selects RX1 yX1_join yX1_join, Cond.code yX1_join cX1_join 5 none, Cond.methodLink RX1 56 yX1_lead, Cond.instanceMethod yX1_lead, Cond.selects RX1 yX1_lead yX1_lead, Cond.code yX1_lead cX1_lead 4 none, Cond.methodLink RX5 64 yX5_takeCellNumber, Cond.instanceMethod yX5_takeCellNumber, Cond.selects RX5 yX5_takeCellNumber yX5_takeCellNumber, Cond.code yX5_takeCellNumber cX5_takeCellNumber 4 (some .boolean)]
def wsX5_readItem_r4 : List Cond := [Cond.methodLink RX5 71 yX5_takeLaw, Cond.instanceMethod yX5_takeLaw, Cond.selects RX5 yX5_takeLaw yX5_takeLaw, Cond.code yX5_takeLaw cX5_takeLaw 2 (some .boolean), Cond.fieldLink RX5 93 "RingPages$State" "kind" "I", Cond.fieldLink RX5 96 "RingPages$State" "value" "I", Cond.static yX7_isLaw, Cond.initialized RX7, Cond.code yX7_isLaw cX7_isLaw 2 (some .boolean), Cond.methodLink RX5 75 yX5_takePrices, Cond.instanceMethod yX5_takePrices, Cond.selects RX5 yX5_takePrices yX5_takePrices, Cond.code yX5_takePrices cX5_takePrices 2 (some .boolean), Cond.methodLink RX5 99 yX1_price]
def wsX5_readItem : List Cond := .code yX5_readItem cX5_readItem 5 (some .boolean) :: ((wsX5_readItem_r1 ++ (wsX5_readItem_r2 ++ (wsX5_readItem_r3 ++ wsX5_readItem_r4))) ++ wsX50 ++ wsX10 ++ wsX40)
def wsX5_readInto_r1 : List Cond := [Cond.fieldLink RX5 32 "RingPages$Text" "place" "I", Cond.fieldLink RX5 18 "RingPages$Text" "length" "I", Cond.methodLink RX5 22 yX1_begin, Cond.instanceMethod yX1_begin, Cond.selects RX1 yX1_begin yX1_begin, Cond.initialized RX1, Cond.code yX1_begin cX1_begin 4 none, Cond.fieldLink RX1 33 "RingPages$Net" "cells" "I", Cond.fieldLink RX1 37 "RingPages$Net" "joins" "I", Cond.fieldLink RX1 19 "RingPages$Net" "near" "[I", Cond.fieldLink RX1 23 "RingPages$Net" "out" "[I", Cond.fieldLink RX1 11 "RingPages$Net" "weight" "[[I", Cond.fieldLink RX1 16 "RingPages$Net" "wide" "[[I", Cond.methodLink RX1 40 yX1_price, Cond.instanceMethod yX1_price, Cond.selects RX1 yX1_price yX1_price, Cond.code yX1_price cX1_price 5 none, Cond.fieldLink RX1 44 "RingPages$Net" "mostRounds" "I", Cond.fieldLink RX1 47 "RingPages$Net" "pageCost" "I", Cond.fieldLink RX1 50 "RingPages$Net" "updateCost" "I", Cond.fieldLink RX1 53 "RingPages$Net" "callChance" "I", Cond.methodLink RX5 28 yX4_begin, Cond.instanceMethod yX4_begin, Cond.selects RX4 yX4_begin yX4_begin]
def wsX5_readInto_r2 : List Cond := [Cond.initialized RX4, Cond.code yX4_begin cX4_begin 2 none, Cond.fieldLink RX4 9 "RingPages$State" "stay" "[I", Cond.fieldLink RX4 15 "RingPages$State" "area" "[I", Cond.fieldLink RX4 18 "RingPages$State" "kind" "I", Cond.fieldLink RX4 22 "RingPages$State" "value" "I", Cond.fieldLink RX4 25 "RingPages$State" "cell" "I", Cond.fieldLink RX4 28 "RingPages$State" "updates" "I", Cond.fieldLink RX4 31 "RingPages$State" "paged" "I", Cond.methodLink RX4 34 yX4_register, Cond.instanceMethod yX4_register, Cond.selects RX4 yX4_register yX4_register, Cond.code yX4_register cX4_register 1 none, Cond.fieldLink RX4 43 "RingPages$State" "home" "I", Cond.fieldLink RX4 46 "RingPages$State" "moves" "I", Cond.fieldLink RX4 49 "RingPages$State" "ticks" "I", Cond.methodLink RX5 35 yX5_readItem, Cond.instanceMethod yX5_readItem, Cond.selects RX5 yX5_readItem yX5_readItem, Cond.initialized RX5, Cond.code yX5_readItem cX5_readItem 5 (some .boolean), Cond.fieldLink RX5 43 "RingPages$Net" "cells" "I", Cond.fieldLink RX5 61 "RingPages$State" "stay" "[I", Cond.fieldLink RX5 68 "RingPages$State" "area" "[I"]
def wsX5_readInto_r3 : List Cond := [Cond.methodLink RX5 39 yX5_letterHere, Cond.instanceMethod yX5_letterHere, Cond.selects RX5 yX5_letterHere yX5_letterHere, Cond.code yX5_letterHere cX5_letterHere 1 (some .int), Cond.fieldLink RX5 9 "RingPages$Text" "letters" "[I", Cond.methodLink RX5 46 yX5_numbersBehind, Cond.instanceMethod yX5_numbersBehind, Cond.selects RX5 yX5_numbersBehind yX5_numbersBehind, Cond.code yX5_numbersBehind cX5_numbersBehind 2 (some .int), Cond.methodLink RX5 50 yX5_readNumbers, Cond.instanceMethod yX5_readNumbers, Cond.selects RX5 yX5_readNumbers yX5_readNumbers, Cond.code yX5_readNumbers cX5_readNumbers 3 (some .boolean), Cond.fieldLink RX5 15 "RingPages$Text" "numbers" "[I", Cond.methodLink RX5 102 yX5_readNumber, Cond.instanceMethod yX5_readNumber, Cond.selects RX5 yX5_readNumber yX5_readNumber, Cond.code yX5_readNumber cX5_readNumber 3 (some .int), Cond.methodLink RX5 105 yX5_figureHere, Cond.instanceMethod yX5_figureHere, Cond.selects RX5 yX5_figureHere yX5_figureHere, Cond.code yX5_figureHere cX5_figureHere 2 (some .int), Cond.methodLink RX5 54 yX5_takeCells, Cond.instanceMethod yX5_takeCells]
def wsX5_readInto_r4 : List Cond := [Cond.selects RX5 yX5_takeCells yX5_takeCells, Cond.code yX5_takeCells cX5_takeCells 2 (some .boolean), Cond.methodLink RX5 58 yX5_takeJoin, Cond.instanceMethod yX5_takeJoin, Cond.selects RX5 yX5_takeJoin yX5_takeJoin, Cond.code yX5_takeJoin cX5_takeJoin 4 (some .boolean), Cond.fieldLink RX5 78 "RingPages$Net" "weight" "[[I", Cond.methodLink RX5 82 yX5_isWeight, Cond.instanceMethod yX5_isWeight, Cond.selects RX5 yX5_isWeight yX5_isWeight, Cond.code yX5_isWeight cX5_isWeight 2 (some .boolean), Cond.methodLink RX5 85 yX1_join, Cond.instanceMethod yX1_join, Cond.selects RX1 yX1_join yX1_join, Cond.code yX1_join cX1_join 5 none, Cond.methodLink RX1 56 yX1_lead, Cond.instanceMethod yX1_lead, Cond.selects RX1 yX1_lead yX1_lead, Cond.code yX1_lead cX1_lead 4 none, Cond.methodLink RX5 64 yX5_takeCellNumber, Cond.instanceMethod yX5_takeCellNumber, Cond.selects RX5 yX5_takeCellNumber yX5_takeCellNumber, Cond.code yX5_takeCellNumber cX5_takeCellNumber 4 (some .boolean), Cond.methodLink RX5 71 yX5_takeLaw]
def wsX5_readInto_r5 : List Cond := [Cond.instanceMethod yX5_takeLaw, Cond.selects RX5 yX5_takeLaw yX5_takeLaw, Cond.code yX5_takeLaw cX5_takeLaw 2 (some .boolean), Cond.fieldLink RX5 93 "RingPages$State" "kind" "I", Cond.fieldLink RX5 96 "RingPages$State" "value" "I", Cond.static yX7_isLaw, Cond.initialized RX7, Cond.code yX7_isLaw cX7_isLaw 2 (some .boolean), Cond.methodLink RX5 75 yX5_takePrices, Cond.instanceMethod yX5_takePrices, Cond.selects RX5 yX5_takePrices yX5_takePrices, Cond.code yX5_takePrices cX5_takePrices 2 (some .boolean), Cond.methodLink RX5 99 yX1_price]
def wsX5_readInto : List Cond := .code yX5_readInto cX5_readInto 5 (some .int) :: ((wsX5_readInto_r1 ++ (wsX5_readInto_r2 ++ (wsX5_readInto_r3 ++ (wsX5_readInto_r4 ++ wsX5_readInto_r5)))) ++ wsX50 ++ wsX10 ++ wsX40)
def wsX6_init : List Cond := .code yX6_init cX6_init 1 none :: ([.methodLink RX6 3 objectInit, .instanceMethod objectInit, .code objectInit ⟨#[0xb1]⟩ 1 none, .arrayClass .int, .fieldLink RX6 9 "RingPages$Whereabouts" "reached" "[I"] ++ wsX60)
def wsX6_insideOf : List Cond := .code yX6_insideOf cX6_insideOf 5 (some .int) :: ([.fieldLink RX6 44 "RingPages$Net" "cells" "I", .methodLink RX6 49 yX4_isOutside, .instanceMethod yX4_isOutside, .selects RX4 yX4_isOutside yX4_isOutside, .initialized RX4, .code yX4_isOutside cX4_isOutside 3 (some .boolean), .fieldLink RX4 18 "RingPages$State" "kind" "I", .fieldLink RX4 15 "RingPages$State" "area" "[I", .fieldLink RX4 43 "RingPages$State" "home" "I", .fieldLink RX4 69 "RingPages$Net" "wide" "[[I", .fieldLink RX4 22 "RingPages$State" "value" "I"] ++ wsX10 ++ wsX40)
def wsX6_movers : List Cond := .code yX6_movers cX6_movers 5 (some .int) :: ([.fieldLink RX6 44 "RingPages$Net" "cells" "I", .fieldLink RX6 68 "RingPages$Net" "near" "[I", .static yX7_holds, .initialized RX7, .code yX7_holds cX7_holds 2 (some .boolean)] ++ wsX10)
def wsX6_stayers : List Cond := .code yX6_stayers cX6_stayers 6 (some .int) :: ([.fieldLink RX6 44 "RingPages$Net" "cells" "I", .fieldLink RX6 65 "RingPages$State" "stay" "[I", .static yX7_holds, .initialized RX7, .code yX7_holds cX7_holds 2 (some .boolean)] ++ wsX10 ++ wsX40)
def wsX6_step : List Cond := .code yX6_step cX6_step 9 (some .boolean) :: ([.fieldLink RX6 15 "RingPages$State" "kind" "I", .fieldLink RX6 9 "RingPages$Whereabouts" "reached" "[I", .methodLink RX6 53 yX6_movers, .instanceMethod yX6_movers, .selects RX6 yX6_movers yX6_movers, .initialized RX6, .code yX6_movers cX6_movers 5 (some .int), .fieldLink RX6 44 "RingPages$Net" "cells" "I", .fieldLink RX6 68 "RingPages$Net" "near" "[I", .static yX7_holds, .initialized RX7, .code yX7_holds cX7_holds 2 (some .boolean), .methodLink RX6 57 yX6_stayers, .instanceMethod yX6_stayers, .selects RX6 yX6_stayers yX6_stayers, .code yX6_stayers cX6_stayers 6 (some .int), .fieldLink RX6 65 "RingPages$State" "stay" "[I"] ++ wsX40 ++ wsX60 ++ wsX10)
def wsX6_find_r1 : List Cond := [Cond.fieldLink RX6 15 "RingPages$State" "kind" "I", Cond.fieldLink RX6 21 "RingPages$State" "value" "I", Cond.methodLink RX6 24 Lib.Math.min.name, Cond.static Lib.Math.min.name, Cond.initialized "java/lang/Math", Cond.code Lib.Math.min.name Lib.Math.min.code 2 (some .int), Cond.fieldLink RX6 9 "RingPages$Whereabouts" "reached" "[I", Cond.fieldLink RX6 34 "RingPages$State" "home" "I", Cond.fieldLink RX6 37 "RingPages$State" "ticks" "I", Cond.methodLink RX6 30 yX6_insideOf, Cond.instanceMethod yX6_insideOf, Cond.selects RX6 yX6_insideOf yX6_insideOf, Cond.initialized RX6, Cond.code yX6_insideOf cX6_insideOf 5 (some .int), Cond.fieldLink RX6 44 "RingPages$Net" "cells" "I", Cond.methodLink RX6 49 yX4_isOutside, Cond.instanceMethod yX4_isOutside, Cond.selects RX4 yX4_isOutside yX4_isOutside, Cond.initialized RX4, Cond.code yX4_isOutside cX4_isOutside 3 (some .boolean), Cond.fieldLink RX4 18 "RingPages$State" "kind" "I", Cond.fieldLink RX4 15 "RingPages$State" "area" "[I", Cond.fieldLink RX4 43 "RingPages$State" "home" "I", Cond.fieldLink RX4 69 "RingPages$Net" "wide" "[[I"]
def wsX6_find_r2 : List Cond := [Cond.fieldLink RX4 22 "RingPages$State" "value" "I", Cond.methodLink RX6 40 yX6_step, Cond.instanceMethod yX6_step, Cond.selects RX6 yX6_step yX6_step, Cond.code yX6_step cX6_step 9 (some .boolean), Cond.methodLink RX6 53 yX6_movers, Cond.instanceMethod yX6_movers, Cond.selects RX6 yX6_movers yX6_movers, Cond.code yX6_movers cX6_movers 5 (some .int), Cond.fieldLink RX6 68 "RingPages$Net" "near" "[I", Cond.static yX7_holds, Cond.initialized RX7, Cond.code yX7_holds cX7_holds 2 (some .boolean), Cond.methodLink RX6 57 yX6_stayers, Cond.instanceMethod yX6_stayers, Cond.selects RX6 yX6_stayers yX6_stayers, Cond.code yX6_stayers cX6_stayers 6 (some .int), Cond.fieldLink RX6 65 "RingPages$State" "stay" "[I"]
def wsX6_find : List Cond := .code yX6_find cX6_find 8 (some .int) :: ((wsX6_find_r1 ++ wsX6_find_r2) ++ wsX40 ++ wsX60 ++ wsX10)
def wsJ0_coder_7d493 : List Cond := .code yJ0_coder_7d493 cJ0_coder_7d493 1 (some .byte) :: ([.fieldLink RJ0 38 "java/lang/String" "COMPACT_STRINGS" "Z", .fieldLink RJ0 15 "java/lang/String" "coder" "B"])
def wsJ0_length_8abf5 : List Cond := .code yJ0_length_8abf5 cJ0_length_8abf5 1 (some .int) :: ([.fieldLink RJ0 9 "java/lang/String" "value" "[B", .methodLink RJ0 335 yJ0_coder_7d493, .instanceMethod yJ0_coder_7d493, .selects RJ0 yJ0_coder_7d493 yJ0_coder_7d493, .initialized RJ0, .code yJ0_coder_7d493 cJ0_coder_7d493 1 (some .byte), .fieldLink RJ0 38 "java/lang/String" "COMPACT_STRINGS" "Z", .fieldLink RJ0 15 "java/lang/String" "coder" "B"])
def wsJ0_isLatin1_aae02 : List Cond := .code yJ0_isLatin1_aae02 cJ0_isLatin1_aae02 1 (some .boolean) :: ([.fieldLink RJ0 38 "java/lang/String" "COMPACT_STRINGS" "Z", .fieldLink RJ0 15 "java/lang/String" "coder" "B"])
def wsJ3_checkIndex_8e157 : List Cond := .code yJ3_checkIndex_8e157 cJ3_checkIndex_8e157 3 (some .int) :: ([])
def wsJ0_checkIndex_df160 : List Cond := .code yJ0_checkIndex_df160 cJ0_checkIndex_df160 2 none :: ([.fieldLink RJ0 1053 "jdk/internal/util/Preconditions" "SIOOBE_FORMATTER" "Ljava/util/function/BiFunction;", .methodLink RJ0 1059 yJ3_checkIndex_8e157, .static yJ3_checkIndex_8e157, .initialized RJ3, .code yJ3_checkIndex_8e157 cJ3_checkIndex_8e157 3 (some .int)])
def wsJ1_charAt_3b067 : List Cond := .code yJ1_charAt_3b067 cJ1_charAt_3b067 2 (some .char) :: ([.methodLink RJ1 9 yJ0_checkIndex_df160, .static yJ0_checkIndex_df160, .initialized RJ0, .code yJ0_checkIndex_df160 cJ0_checkIndex_df160 2 none, .fieldLink RJ0 1053 "jdk/internal/util/Preconditions" "SIOOBE_FORMATTER" "Ljava/util/function/BiFunction;", .methodLink RJ0 1059 yJ3_checkIndex_8e157, .static yJ3_checkIndex_8e157, .initialized RJ3, .code yJ3_checkIndex_8e157 cJ3_checkIndex_8e157 3 (some .int)])
def wsJ2_length_9d52b : List Cond := .code yJ2_length_9d52b cJ2_length_9d52b 1 (some .int) :: ([])
def wsJ2_checkIndex_2214a : List Cond := .code yJ2_checkIndex_2214a cJ2_checkIndex_2214a 2 none :: ([.methodLink RJ2 48 yJ2_length_9d52b, .static yJ2_length_9d52b, .initialized RJ2, .code yJ2_length_9d52b cJ2_length_9d52b 1 (some .int), .methodLink RJ2 414 yJ0_checkIndex_df160, .static yJ0_checkIndex_df160, .initialized RJ0, .code yJ0_checkIndex_df160 cJ0_checkIndex_df160 2 none, .fieldLink RJ0 1053 "jdk/internal/util/Preconditions" "SIOOBE_FORMATTER" "Ljava/util/function/BiFunction;", .methodLink RJ0 1059 yJ3_checkIndex_8e157, .static yJ3_checkIndex_8e157, .initialized RJ3, .code yJ3_checkIndex_8e157 cJ3_checkIndex_8e157 3 (some .int)])
def wsJ2_getChar_3b067 : List Cond := .code yJ2_getChar_3b067 cJ2_getChar_3b067 2 (some .char) :: ([.fieldLink RJ2 44 "java/lang/StringUTF16" "$assertionsDisabled" "Z", .fieldLink RJ2 59 "java/lang/StringUTF16" "HI_BYTE_SHIFT" "I", .fieldLink RJ2 63 "java/lang/StringUTF16" "LO_BYTE_SHIFT" "I", .methodLink RJ2 48 yJ2_length_9d52b, .static yJ2_length_9d52b, .initialized RJ2, .code yJ2_length_9d52b cJ2_length_9d52b 1 (some .int)])
def wsJ2_charAt_3b067 : List Cond := .code yJ2_charAt_3b067 cJ2_charAt_3b067 2 (some .char) :: ([.methodLink RJ2 67 yJ2_checkIndex_2214a, .static yJ2_checkIndex_2214a, .initialized RJ2, .code yJ2_checkIndex_2214a cJ2_checkIndex_2214a 2 none, .methodLink RJ2 48 yJ2_length_9d52b, .static yJ2_length_9d52b, .code yJ2_length_9d52b cJ2_length_9d52b 1 (some .int), .methodLink RJ2 414 yJ0_checkIndex_df160, .static yJ0_checkIndex_df160, .initialized RJ0, .code yJ0_checkIndex_df160 cJ0_checkIndex_df160 2 none, .fieldLink RJ0 1053 "jdk/internal/util/Preconditions" "SIOOBE_FORMATTER" "Ljava/util/function/BiFunction;", .methodLink RJ0 1059 yJ3_checkIndex_8e157, .static yJ3_checkIndex_8e157, .initialized RJ3, .code yJ3_checkIndex_8e157 cJ3_checkIndex_8e157 3 (some .int), .methodLink RJ2 71 yJ2_getChar_3b067, .static yJ2_getChar_3b067, .code yJ2_getChar_3b067 cJ2_getChar_3b067 2 (some .char), .fieldLink RJ2 44 "java/lang/StringUTF16" "$assertionsDisabled" "Z", .fieldLink RJ2 59 "java/lang/StringUTF16" "HI_BYTE_SHIFT" "I", .fieldLink RJ2 63 "java/lang/StringUTF16" "LO_BYTE_SHIFT" "I"])
def wsJ0_charAt_5068e_r1 : List Cond := [Cond.fieldLink RJ0 9 "java/lang/String" "value" "[B", Cond.methodLink RJ0 492 yJ0_isLatin1_aae02, Cond.instanceMethod yJ0_isLatin1_aae02, Cond.selects RJ0 yJ0_isLatin1_aae02 yJ0_isLatin1_aae02, Cond.initialized RJ0, Cond.code yJ0_isLatin1_aae02 cJ0_isLatin1_aae02 1 (some .boolean), Cond.fieldLink RJ0 38 "java/lang/String" "COMPACT_STRINGS" "Z", Cond.fieldLink RJ0 15 "java/lang/String" "coder" "B", Cond.methodLink RJ0 495 yJ1_charAt_3b067, Cond.static yJ1_charAt_3b067, Cond.initialized RJ1, Cond.code yJ1_charAt_3b067 cJ1_charAt_3b067 2 (some .char), Cond.methodLink RJ1 9 yJ0_checkIndex_df160, Cond.static yJ0_checkIndex_df160, Cond.code yJ0_checkIndex_df160 cJ0_checkIndex_df160 2 none, Cond.fieldLink RJ0 1053 "jdk/internal/util/Preconditions" "SIOOBE_FORMATTER" "Ljava/util/function/BiFunction;", Cond.methodLink RJ0 1059 yJ3_checkIndex_8e157, Cond.static yJ3_checkIndex_8e157, Cond.initialized RJ3, Cond.code yJ3_checkIndex_8e157 cJ3_checkIndex_8e157 3 (some .int), Cond.methodLink RJ0 498 yJ2_charAt_3b067, Cond.static yJ2_charAt_3b067, Cond.initialized RJ2, Cond.code yJ2_charAt_3b067 cJ2_charAt_3b067 2 (some .char)]
def wsJ0_charAt_5068e_r2 : List Cond := [Cond.methodLink RJ2 67 yJ2_checkIndex_2214a, Cond.static yJ2_checkIndex_2214a, Cond.code yJ2_checkIndex_2214a cJ2_checkIndex_2214a 2 none, Cond.methodLink RJ2 48 yJ2_length_9d52b, Cond.static yJ2_length_9d52b, Cond.code yJ2_length_9d52b cJ2_length_9d52b 1 (some .int), Cond.methodLink RJ2 414 yJ0_checkIndex_df160, Cond.methodLink RJ2 71 yJ2_getChar_3b067, Cond.static yJ2_getChar_3b067, Cond.code yJ2_getChar_3b067 cJ2_getChar_3b067 2 (some .char), Cond.fieldLink RJ2 44 "java/lang/StringUTF16" "$assertionsDisabled" "Z", Cond.fieldLink RJ2 59 "java/lang/StringUTF16" "HI_BYTE_SHIFT" "I", Cond.fieldLink RJ2 63 "java/lang/StringUTF16" "LO_BYTE_SHIFT" "I"]
def wsJ0_charAt_5068e : List Cond := .code yJ0_charAt_5068e cJ0_charAt_5068e 2 (some .char) :: ((wsJ0_charAt_5068e_r1 ++ wsJ0_charAt_5068e_r2))
def wsX7_layText_r1 : List Cond := [Cond.fieldLink RX7 10 "RingPages" "text" "LRingPages$Text;", Cond.fieldLink RX7 61 "RingPages" "draftNet" "LRingPages$Net;", Cond.fieldLink RX7 64 "RingPages" "draftState" "LRingPages$State;", Cond.fieldLink RX7 54 "RingPages" "net" "LRingPages$Net;", Cond.fieldLink RX7 58 "RingPages" "state" "LRingPages$State;", Cond.fieldLink RX7 19 "RingPages" "past" "LRingPages$Past;", Cond.fieldLink RX7 103 "RingPages$Past" "held" "I", Cond.fieldLink RX7 26 "RingPages" "longRun" "LRingPages$LongRun;", Cond.methodLink RX7 90 yX5_readInto, Cond.instanceMethod yX5_readInto, Cond.selects RX5 yX5_readInto yX5_readInto, Cond.initialized RX5, Cond.code yX5_readInto cX5_readInto 5 (some .int), Cond.fieldLink RX5 32 "RingPages$Text" "place" "I", Cond.fieldLink RX5 18 "RingPages$Text" "length" "I", Cond.methodLink RX5 22 yX1_begin, Cond.instanceMethod yX1_begin, Cond.selects RX1 yX1_begin yX1_begin, Cond.initialized RX1, Cond.code yX1_begin cX1_begin 4 none, Cond.fieldLink RX1 33 "RingPages$Net" "cells" "I", Cond.fieldLink RX1 37 "RingPages$Net" "joins" "I", Cond.fieldLink RX1 19 "RingPages$Net" "near" "[I", Cond.fieldLink RX1 23 "RingPages$Net" "out" "[I"]
def wsX7_layText_r2 : List Cond := [Cond.fieldLink RX1 11 "RingPages$Net" "weight" "[[I", Cond.fieldLink RX1 16 "RingPages$Net" "wide" "[[I", Cond.methodLink RX1 40 yX1_price, Cond.instanceMethod yX1_price, Cond.selects RX1 yX1_price yX1_price, Cond.code yX1_price cX1_price 5 none, Cond.fieldLink RX1 44 "RingPages$Net" "mostRounds" "I", Cond.fieldLink RX1 47 "RingPages$Net" "pageCost" "I", Cond.fieldLink RX1 50 "RingPages$Net" "updateCost" "I", Cond.fieldLink RX1 53 "RingPages$Net" "callChance" "I", Cond.methodLink RX5 28 yX4_begin, Cond.instanceMethod yX4_begin, Cond.selects RX4 yX4_begin yX4_begin, Cond.initialized RX4, Cond.code yX4_begin cX4_begin 2 none, Cond.fieldLink RX4 9 "RingPages$State" "stay" "[I", Cond.fieldLink RX4 15 "RingPages$State" "area" "[I", Cond.fieldLink RX4 18 "RingPages$State" "kind" "I", Cond.fieldLink RX4 22 "RingPages$State" "value" "I", Cond.fieldLink RX4 25 "RingPages$State" "cell" "I", Cond.fieldLink RX4 28 "RingPages$State" "updates" "I", Cond.fieldLink RX4 31 "RingPages$State" "paged" "I", Cond.methodLink RX4 34 yX4_register, Cond.instanceMethod yX4_register]
def wsX7_layText_r3 : List Cond := [Cond.selects RX4 yX4_register yX4_register, Cond.code yX4_register cX4_register 1 none, Cond.fieldLink RX4 43 "RingPages$State" "home" "I", Cond.fieldLink RX4 46 "RingPages$State" "moves" "I", Cond.fieldLink RX4 49 "RingPages$State" "ticks" "I", Cond.methodLink RX5 35 yX5_readItem, Cond.instanceMethod yX5_readItem, Cond.selects RX5 yX5_readItem yX5_readItem, Cond.code yX5_readItem cX5_readItem 5 (some .boolean), Cond.fieldLink RX5 43 "RingPages$Net" "cells" "I", Cond.fieldLink RX5 61 "RingPages$State" "stay" "[I", Cond.fieldLink RX5 68 "RingPages$State" "area" "[I", Cond.methodLink RX5 39 yX5_letterHere, Cond.instanceMethod yX5_letterHere, Cond.selects RX5 yX5_letterHere yX5_letterHere, Cond.code yX5_letterHere cX5_letterHere 1 (some .int), Cond.fieldLink RX5 9 "RingPages$Text" "letters" "[I", Cond.methodLink RX5 46 yX5_numbersBehind, Cond.instanceMethod yX5_numbersBehind, Cond.selects RX5 yX5_numbersBehind yX5_numbersBehind, Cond.code yX5_numbersBehind cX5_numbersBehind 2 (some .int), Cond.methodLink RX5 50 yX5_readNumbers, Cond.instanceMethod yX5_readNumbers, Cond.selects RX5 yX5_readNumbers yX5_readNumbers]
def wsX7_layText_r4 : List Cond := [Cond.code yX5_readNumbers cX5_readNumbers 3 (some .boolean), Cond.fieldLink RX5 15 "RingPages$Text" "numbers" "[I", Cond.methodLink RX5 102 yX5_readNumber, Cond.instanceMethod yX5_readNumber, Cond.selects RX5 yX5_readNumber yX5_readNumber, Cond.code yX5_readNumber cX5_readNumber 3 (some .int), Cond.methodLink RX5 105 yX5_figureHere, Cond.instanceMethod yX5_figureHere, Cond.selects RX5 yX5_figureHere yX5_figureHere, Cond.code yX5_figureHere cX5_figureHere 2 (some .int), Cond.methodLink RX5 54 yX5_takeCells, Cond.instanceMethod yX5_takeCells, Cond.selects RX5 yX5_takeCells yX5_takeCells, Cond.code yX5_takeCells cX5_takeCells 2 (some .boolean), Cond.methodLink RX5 58 yX5_takeJoin, Cond.instanceMethod yX5_takeJoin, Cond.selects RX5 yX5_takeJoin yX5_takeJoin, Cond.code yX5_takeJoin cX5_takeJoin 4 (some .boolean), Cond.fieldLink RX5 78 "RingPages$Net" "weight" "[[I", Cond.methodLink RX5 82 yX5_isWeight, Cond.instanceMethod yX5_isWeight, Cond.selects RX5 yX5_isWeight yX5_isWeight, Cond.code yX5_isWeight cX5_isWeight 2 (some .boolean), Cond.methodLink RX5 85 yX1_join]
def wsX7_layText_r5 : List Cond := [Cond.instanceMethod yX1_join, Cond.selects RX1 yX1_join yX1_join, Cond.code yX1_join cX1_join 5 none, Cond.methodLink RX1 56 yX1_lead, Cond.instanceMethod yX1_lead, Cond.selects RX1 yX1_lead yX1_lead, Cond.code yX1_lead cX1_lead 4 none, Cond.methodLink RX5 64 yX5_takeCellNumber, Cond.instanceMethod yX5_takeCellNumber, Cond.selects RX5 yX5_takeCellNumber yX5_takeCellNumber, Cond.code yX5_takeCellNumber cX5_takeCellNumber 4 (some .boolean), Cond.methodLink RX5 71 yX5_takeLaw, Cond.instanceMethod yX5_takeLaw, Cond.selects RX5 yX5_takeLaw yX5_takeLaw, Cond.code yX5_takeLaw cX5_takeLaw 2 (some .boolean), Cond.fieldLink RX5 93 "RingPages$State" "kind" "I", Cond.fieldLink RX5 96 "RingPages$State" "value" "I", Cond.static yX7_isLaw, Cond.initialized RX7, Cond.code yX7_isLaw cX7_isLaw 2 (some .boolean), Cond.methodLink RX5 75 yX5_takePrices, Cond.instanceMethod yX5_takePrices, Cond.selects RX5 yX5_takePrices yX5_takePrices, Cond.code yX5_takePrices cX5_takePrices 2 (some .boolean)]
def wsX7_layText_r6 : List Cond := [Cond.methodLink RX5 99 yX1_price, Cond.methodLink RX7 97 yX1_isWhole, Cond.instanceMethod yX1_isWhole, Cond.selects RX1 yX1_isWhole yX1_isWhole, Cond.code yX1_isWhole cX1_isWhole 4 (some .boolean), Cond.methodLink RX1 60 Lib.Math.min.name, Cond.static Lib.Math.min.name, Cond.initialized "java/lang/Math", Cond.code Lib.Math.min.name Lib.Math.min.code 2 (some .int), Cond.methodLink RX7 100 yX1_growTrees, Cond.instanceMethod yX1_growTrees, Cond.selects RX1 yX1_growTrees yX1_growTrees, Cond.code yX1_growTrees cX1_growTrees 2 none, Cond.fieldLink RX1 26 "RingPages$Net" "trees" "[J", Cond.methodLink RX1 66 yX1_treesTo, Cond.instanceMethod yX1_treesTo, Cond.selects RX1 yX1_treesTo yX1_treesTo, Cond.code yX1_treesTo cX1_treesTo 4 (some .long), Cond.fieldLink RX1 30 "RingPages$Net" "minors" "[J", Cond.methodLink RX1 70 yJ6_bitCount_0f7a4, Cond.static yJ6_bitCount_0f7a4, Cond.initialized RJ6, Cond.code yJ6_bitCount_0f7a4 cJ6_bitCount_0f7a4 1 (some .int), Cond.constant RJ6 265 (1431655765)]
def wsX7_layText_r7 : List Cond := [Cond.constant RJ6 266 (858993459), Cond.constant RJ6 267 (252645135), Cond.methodLink RX1 76 yX1_rowOf, Cond.instanceMethod yX1_rowOf, Cond.selects RX1 yX1_rowOf yX1_rowOf, Cond.code yX1_rowOf cX1_rowOf 3 (some .int), Cond.methodLink RX1 79 yX1_minorOf, Cond.instanceMethod yX1_minorOf, Cond.selects RX1 yX1_minorOf yX1_minorOf, Cond.code yX1_minorOf cX1_minorOf 9 (some .long), Cond.static yX7_holds, Cond.code yX7_holds cX7_holds 2 (some .boolean), Cond.methodLink RX7 106 yX0_reckon, Cond.instanceMethod yX0_reckon, Cond.selects RX0 yX0_reckon yX0_reckon, Cond.initialized RX0, Cond.code yX0_reckon cX0_reckon 4 none, Cond.fieldLink RX0 22 "RingPages$LongRun" "below" "J", Cond.fieldLink RX0 26 "RingPages$Net" "cells" "I", Cond.fieldLink RX0 9 "RingPages$LongRun" "above" "[J", Cond.fieldLink RX0 32 "RingPages$State" "stay" "[I", Cond.fieldLink RX0 37 "RingPages$Net" "out" "[I", Cond.fieldLink RX0 40 "RingPages$Net" "trees" "[J", Cond.fieldLink RX0 43 "RingPages$LongRun" "bestKnown" "Z"]
def wsX7_layText : List Cond := .code yX7_layText cX7_layText 3 (some .boolean) :: ((wsX7_layText_r1 ++ (wsX7_layText_r2 ++ (wsX7_layText_r3 ++ (wsX7_layText_r4 ++ (wsX7_layText_r5 ++ (wsX7_layText_r6 ++ wsX7_layText_r7)))))) ++ wsX70 ++ wsX20 ++ wsX50 ++ wsX10 ++ wsX40 ++ wsX00)
def wsX7_init_r1 : List Cond := [Cond.methodLink RX7 1 objectInit, Cond.instanceMethod objectInit, Cond.code objectInit ⟨#[0xb1]⟩ 1 none, Cond.classLink RX7 7 RX5, Cond.instantiable RX5 4, Cond.initialized RX5, Cond.fieldLink RX7 10 "RingPages" "text" "LRingPages$Text;", Cond.classLink RX7 16 RX2, Cond.instantiable RX2 3, Cond.initialized RX2, Cond.fieldLink RX7 19 "RingPages" "past" "LRingPages$Past;", Cond.classLink RX7 23 RX0, Cond.instantiable RX0 6, Cond.initialized RX0, Cond.fieldLink RX7 26 "RingPages" "longRun" "LRingPages$LongRun;", Cond.classLink RX7 30 RX6, Cond.instantiable RX6 1, Cond.initialized RX6, Cond.fieldLink RX7 33 "RingPages" "whereabouts" "LRingPages$Whereabouts;", Cond.classLink RX7 37 RX3, Cond.instantiable RX3 4, Cond.initialized RX3, Cond.fieldLink RX7 40 "RingPages" "rounds" "LRingPages$Rounds;", Cond.classLink RX7 44 RX4]
def wsX7_init_r2 : List Cond := [Cond.instantiable RX4 10, Cond.initialized RX4, Cond.fieldLink RX7 47 "RingPages" "walker" "LRingPages$State;", Cond.classLink RX7 51 RX1, Cond.instantiable RX1 12, Cond.initialized RX1, Cond.fieldLink RX7 54 "RingPages" "net" "LRingPages$Net;", Cond.fieldLink RX7 58 "RingPages" "state" "LRingPages$State;", Cond.fieldLink RX7 61 "RingPages" "draftNet" "LRingPages$Net;", Cond.fieldLink RX7 64 "RingPages" "draftState" "LRingPages$State;", Cond.fieldLink RX7 87 "RingPages$Text" "length" "I", Cond.instanceMethod yX5_init, Cond.code yX5_init cX5_init 1 none, Cond.methodLink RX5 3 objectInit, Cond.arrayClass .int, Cond.fieldLink RX5 9 "RingPages$Text" "letters" "[I", Cond.fieldLink RX5 15 "RingPages$Text" "numbers" "[I", Cond.methodLink RX7 18 yX2_init, Cond.instanceMethod yX2_init, Cond.code yX2_init cX2_init 2 none, Cond.methodLink RX2 3 objectInit, Cond.classLink RX2 9 RX4, Cond.fieldLink RX2 11 "RingPages$Past" "kept" "[LRingPages$State;", Cond.instanceMethod yX4_init]
def wsX7_init_r3 : List Cond := [Cond.code yX4_init cX4_init 1 none, Cond.methodLink RX4 3 objectInit, Cond.fieldLink RX4 9 "RingPages$State" "stay" "[I", Cond.fieldLink RX4 15 "RingPages$State" "area" "[I", Cond.instanceMethod yX0_init, Cond.code yX0_init cX0_init 1 none, Cond.methodLink RX0 3 objectInit, Cond.arrayClass .long, Cond.fieldLink RX0 9 "RingPages$LongRun" "above" "[J", Cond.fieldLink RX0 15 "RingPages$LongRun" "best" "[I", Cond.fieldLink RX0 19 "RingPages$LongRun" "tried" "[I", Cond.instanceMethod yX6_init, Cond.code yX6_init cX6_init 1 none, Cond.methodLink RX6 3 objectInit, Cond.fieldLink RX6 9 "RingPages$Whereabouts" "reached" "[I", Cond.instanceMethod yX3_init, Cond.code yX3_init cX3_init 1 none, Cond.methodLink RX3 3 objectInit, Cond.fieldLink RX3 9 "RingPages$Rounds" "row" "[I", Cond.instanceMethod yX1_init, Cond.code yX1_init cX1_init 1 none, Cond.methodLink RX1 3 objectInit, Cond.classLink RX1 9 "[[I", Cond.fieldLink RX1 11 "RingPages$Net" "weight" "[[I"]
def wsX7_init_r4 : List Cond := [Cond.fieldLink RX1 16 "RingPages$Net" "wide" "[[I", Cond.fieldLink RX1 19 "RingPages$Net" "near" "[I", Cond.fieldLink RX1 23 "RingPages$Net" "out" "[I", Cond.fieldLink RX1 26 "RingPages$Net" "trees" "[J", Cond.fieldLink RX1 30 "RingPages$Net" "minors" "[J", Cond.methodLink RX7 69 yJ0_length_8abf5, Cond.instanceMethod yJ0_length_8abf5, Cond.selects RJ0 yJ0_length_8abf5 yJ0_length_8abf5, Cond.initialized RJ0, Cond.code yJ0_length_8abf5 cJ0_length_8abf5 1 (some .int), Cond.fieldLink RJ0 9 "java/lang/String" "value" "[B", Cond.methodLink RJ0 335 yJ0_coder_7d493, Cond.instanceMethod yJ0_coder_7d493, Cond.selects RJ0 yJ0_coder_7d493 yJ0_coder_7d493, Cond.code yJ0_coder_7d493 cJ0_coder_7d493 1 (some .byte), Cond.fieldLink RJ0 38 "java/lang/String" "COMPACT_STRINGS" "Z", Cond.fieldLink RJ0 15 "java/lang/String" "coder" "B", Cond.methodLink RX7 75 yJ0_charAt_5068e, Cond.instanceMethod yJ0_charAt_5068e, Cond.selects RJ0 yJ0_charAt_5068e yJ0_charAt_5068e, Cond.code yJ0_charAt_5068e cJ0_charAt_5068e 2 (some .char), Cond.methodLink RJ0 492 yJ0_isLatin1_aae02, Cond.instanceMethod yJ0_isLatin1_aae02, Cond.selects RJ0 yJ0_isLatin1_aae02 yJ0_isLatin1_aae02]
def wsX7_init_r5 : List Cond := [Cond.code yJ0_isLatin1_aae02 cJ0_isLatin1_aae02 1 (some .boolean), Cond.methodLink RJ0 495 yJ1_charAt_3b067, Cond.static yJ1_charAt_3b067, Cond.initialized RJ1, Cond.code yJ1_charAt_3b067 cJ1_charAt_3b067 2 (some .char), Cond.methodLink RJ1 9 yJ0_checkIndex_df160, Cond.static yJ0_checkIndex_df160, Cond.code yJ0_checkIndex_df160 cJ0_checkIndex_df160 2 none, Cond.fieldLink RJ0 1053 "jdk/internal/util/Preconditions" "SIOOBE_FORMATTER" "Ljava/util/function/BiFunction;", Cond.methodLink RJ0 1059 yJ3_checkIndex_8e157, Cond.static yJ3_checkIndex_8e157, Cond.initialized RJ3, Cond.code yJ3_checkIndex_8e157 cJ3_checkIndex_8e157 3 (some .int), Cond.methodLink RJ0 498 yJ2_charAt_3b067, Cond.static yJ2_charAt_3b067, Cond.initialized RJ2, Cond.code yJ2_charAt_3b067 cJ2_charAt_3b067 2 (some .char), Cond.methodLink RJ2 67 yJ2_checkIndex_2214a, Cond.static yJ2_checkIndex_2214a, Cond.code yJ2_checkIndex_2214a cJ2_checkIndex_2214a 2 none, Cond.methodLink RJ2 48 yJ2_length_9d52b, Cond.static yJ2_length_9d52b, Cond.code yJ2_length_9d52b cJ2_length_9d52b 1 (some .int), Cond.methodLink RJ2 414 yJ0_checkIndex_df160]
def wsX7_init_r6 : List Cond := [Cond.methodLink RJ2 71 yJ2_getChar_3b067, Cond.static yJ2_getChar_3b067, Cond.code yJ2_getChar_3b067 cJ2_getChar_3b067 2 (some .char), Cond.fieldLink RJ2 44 "java/lang/StringUTF16" "$assertionsDisabled" "Z", Cond.fieldLink RJ2 59 "java/lang/StringUTF16" "HI_BYTE_SHIFT" "I", Cond.fieldLink RJ2 63 "java/lang/StringUTF16" "LO_BYTE_SHIFT" "I", Cond.methodLink RX7 79 yX5_append, Cond.instanceMethod yX5_append, Cond.selects RX5 yX5_append yX5_append, Cond.code yX5_append cX5_append 2 (some .boolean), Cond.fieldLink RX5 18 "RingPages$Text" "length" "I", Cond.methodLink RX7 83 yX7_layText, Cond.instanceMethod yX7_layText, Cond.selects RX7 yX7_layText yX7_layText, Cond.initialized RX7, Cond.code yX7_layText cX7_layText 3 (some .boolean), Cond.fieldLink RX7 103 "RingPages$Past" "held" "I", Cond.methodLink RX7 90 yX5_readInto, Cond.instanceMethod yX5_readInto, Cond.selects RX5 yX5_readInto yX5_readInto, Cond.code yX5_readInto cX5_readInto 5 (some .int), Cond.fieldLink RX5 32 "RingPages$Text" "place" "I", Cond.methodLink RX5 22 yX1_begin, Cond.instanceMethod yX1_begin]
def wsX7_init_r7 : List Cond := [Cond.selects RX1 yX1_begin yX1_begin, Cond.code yX1_begin cX1_begin 4 none, Cond.fieldLink RX1 33 "RingPages$Net" "cells" "I", Cond.fieldLink RX1 37 "RingPages$Net" "joins" "I", Cond.methodLink RX1 40 yX1_price, Cond.instanceMethod yX1_price, Cond.selects RX1 yX1_price yX1_price, Cond.code yX1_price cX1_price 5 none, Cond.fieldLink RX1 44 "RingPages$Net" "mostRounds" "I", Cond.fieldLink RX1 47 "RingPages$Net" "pageCost" "I", Cond.fieldLink RX1 50 "RingPages$Net" "updateCost" "I", Cond.fieldLink RX1 53 "RingPages$Net" "callChance" "I", Cond.methodLink RX5 28 yX4_begin, Cond.instanceMethod yX4_begin, Cond.selects RX4 yX4_begin yX4_begin, Cond.code yX4_begin cX4_begin 2 none, Cond.fieldLink RX4 18 "RingPages$State" "kind" "I", Cond.fieldLink RX4 22 "RingPages$State" "value" "I", Cond.fieldLink RX4 25 "RingPages$State" "cell" "I", Cond.fieldLink RX4 28 "RingPages$State" "updates" "I", Cond.fieldLink RX4 31 "RingPages$State" "paged" "I", Cond.methodLink RX4 34 yX4_register, Cond.instanceMethod yX4_register, Cond.selects RX4 yX4_register yX4_register]
def wsX7_init_r8 : List Cond := [Cond.code yX4_register cX4_register 1 none, Cond.fieldLink RX4 43 "RingPages$State" "home" "I", Cond.fieldLink RX4 46 "RingPages$State" "moves" "I", Cond.fieldLink RX4 49 "RingPages$State" "ticks" "I", Cond.methodLink RX5 35 yX5_readItem, Cond.instanceMethod yX5_readItem, Cond.selects RX5 yX5_readItem yX5_readItem, Cond.code yX5_readItem cX5_readItem 5 (some .boolean), Cond.fieldLink RX5 43 "RingPages$Net" "cells" "I", Cond.fieldLink RX5 61 "RingPages$State" "stay" "[I", Cond.fieldLink RX5 68 "RingPages$State" "area" "[I", Cond.methodLink RX5 39 yX5_letterHere, Cond.instanceMethod yX5_letterHere, Cond.selects RX5 yX5_letterHere yX5_letterHere, Cond.code yX5_letterHere cX5_letterHere 1 (some .int), Cond.methodLink RX5 46 yX5_numbersBehind, Cond.instanceMethod yX5_numbersBehind, Cond.selects RX5 yX5_numbersBehind yX5_numbersBehind, Cond.code yX5_numbersBehind cX5_numbersBehind 2 (some .int), Cond.methodLink RX5 50 yX5_readNumbers, Cond.instanceMethod yX5_readNumbers, Cond.selects RX5 yX5_readNumbers yX5_readNumbers, Cond.code yX5_readNumbers cX5_readNumbers 3 (some .boolean), Cond.methodLink RX5 102 yX5_readNumber]
def wsX7_init_r9 : List Cond := [Cond.instanceMethod yX5_readNumber, Cond.selects RX5 yX5_readNumber yX5_readNumber, Cond.code yX5_readNumber cX5_readNumber 3 (some .int), Cond.methodLink RX5 105 yX5_figureHere, Cond.instanceMethod yX5_figureHere, Cond.selects RX5 yX5_figureHere yX5_figureHere, Cond.code yX5_figureHere cX5_figureHere 2 (some .int), Cond.methodLink RX5 54 yX5_takeCells, Cond.instanceMethod yX5_takeCells, Cond.selects RX5 yX5_takeCells yX5_takeCells, Cond.code yX5_takeCells cX5_takeCells 2 (some .boolean), Cond.methodLink RX5 58 yX5_takeJoin, Cond.instanceMethod yX5_takeJoin, Cond.selects RX5 yX5_takeJoin yX5_takeJoin, Cond.code yX5_takeJoin cX5_takeJoin 4 (some .boolean), Cond.fieldLink RX5 78 "RingPages$Net" "weight" "[[I", Cond.methodLink RX5 82 yX5_isWeight, Cond.instanceMethod yX5_isWeight, Cond.selects RX5 yX5_isWeight yX5_isWeight, Cond.code yX5_isWeight cX5_isWeight 2 (some .boolean), Cond.methodLink RX5 85 yX1_join, Cond.instanceMethod yX1_join, Cond.selects RX1 yX1_join yX1_join, Cond.code yX1_join cX1_join 5 none]
def wsX7_init_r10 : List Cond := [Cond.methodLink RX1 56 yX1_lead, Cond.instanceMethod yX1_lead, Cond.selects RX1 yX1_lead yX1_lead, Cond.code yX1_lead cX1_lead 4 none, Cond.methodLink RX5 64 yX5_takeCellNumber, Cond.instanceMethod yX5_takeCellNumber, Cond.selects RX5 yX5_takeCellNumber yX5_takeCellNumber, Cond.code yX5_takeCellNumber cX5_takeCellNumber 4 (some .boolean), Cond.methodLink RX5 71 yX5_takeLaw, Cond.instanceMethod yX5_takeLaw, Cond.selects RX5 yX5_takeLaw yX5_takeLaw, Cond.code yX5_takeLaw cX5_takeLaw 2 (some .boolean), Cond.fieldLink RX5 93 "RingPages$State" "kind" "I", Cond.fieldLink RX5 96 "RingPages$State" "value" "I", Cond.static yX7_isLaw, Cond.code yX7_isLaw cX7_isLaw 2 (some .boolean), Cond.methodLink RX5 75 yX5_takePrices, Cond.instanceMethod yX5_takePrices, Cond.selects RX5 yX5_takePrices yX5_takePrices, Cond.code yX5_takePrices cX5_takePrices 2 (some .boolean), Cond.methodLink RX5 99 yX1_price, Cond.methodLink RX7 97 yX1_isWhole, Cond.instanceMethod yX1_isWhole, Cond.selects RX1 yX1_isWhole yX1_isWhole]
def wsX7_init_r11 : List Cond := [Cond.code yX1_isWhole cX1_isWhole 4 (some .boolean), Cond.methodLink RX1 60 Lib.Math.min.name, Cond.static Lib.Math.min.name, Cond.initialized "java/lang/Math", Cond.code Lib.Math.min.name Lib.Math.min.code 2 (some .int), Cond.methodLink RX7 100 yX1_growTrees, Cond.instanceMethod yX1_growTrees, Cond.selects RX1 yX1_growTrees yX1_growTrees, Cond.code yX1_growTrees cX1_growTrees 2 none, Cond.methodLink RX1 66 yX1_treesTo, Cond.instanceMethod yX1_treesTo, Cond.selects RX1 yX1_treesTo yX1_treesTo, Cond.code yX1_treesTo cX1_treesTo 4 (some .long), Cond.methodLink RX1 70 yJ6_bitCount_0f7a4, Cond.static yJ6_bitCount_0f7a4, Cond.initialized RJ6, Cond.code yJ6_bitCount_0f7a4 cJ6_bitCount_0f7a4 1 (some .int), Cond.constant RJ6 265 (1431655765), Cond.constant RJ6 266 (858993459), Cond.constant RJ6 267 (252645135), Cond.methodLink RX1 76 yX1_rowOf, Cond.instanceMethod yX1_rowOf, Cond.selects RX1 yX1_rowOf yX1_rowOf, Cond.code yX1_rowOf cX1_rowOf 3 (some .int)]
def wsX7_init_r12 : List Cond := [Cond.methodLink RX1 79 yX1_minorOf, Cond.instanceMethod yX1_minorOf, Cond.selects RX1 yX1_minorOf yX1_minorOf, Cond.code yX1_minorOf cX1_minorOf 9 (some .long), Cond.static yX7_holds, Cond.code yX7_holds cX7_holds 2 (some .boolean), Cond.methodLink RX7 106 yX0_reckon, Cond.instanceMethod yX0_reckon, Cond.selects RX0 yX0_reckon yX0_reckon, Cond.code yX0_reckon cX0_reckon 4 none, Cond.fieldLink RX0 22 "RingPages$LongRun" "below" "J", Cond.fieldLink RX0 26 "RingPages$Net" "cells" "I", Cond.fieldLink RX0 32 "RingPages$State" "stay" "[I", Cond.fieldLink RX0 37 "RingPages$Net" "out" "[I", Cond.fieldLink RX0 40 "RingPages$Net" "trees" "[J", Cond.fieldLink RX0 43 "RingPages$LongRun" "bestKnown" "Z"]
def wsX7_init : List Cond := .code yX7_init cX7_init 2 none :: ((wsX7_init_r1 ++ (wsX7_init_r2 ++ (wsX7_init_r3 ++ (wsX7_init_r4 ++ (wsX7_init_r5 ++ (wsX7_init_r6 ++ (wsX7_init_r7 ++ (wsX7_init_r8 ++ (wsX7_init_r9 ++ (wsX7_init_r10 ++ (wsX7_init_r11 ++ wsX7_init_r12))))))))))) ++ wsX50 ++ wsX70 ++ wsX20 ++ wsX00 ++ wsX60 ++ wsX30 ++ wsX40 ++ wsX10)
def wsX7_write : List Cond := .code yX7_write cX7_write 2 (some .int) :: ([.fieldLink RX7 10 "RingPages" "text" "LRingPages$Text;", .fieldLink RX7 87 "RingPages$Text" "length" "I", .methodLink RX7 79 yX5_append, .instanceMethod yX5_append, .selects RX5 yX5_append yX5_append, .initialized RX5, .code yX5_append cX5_append 2 (some .boolean), .fieldLink RX5 18 "RingPages$Text" "length" "I", .fieldLink RX5 9 "RingPages$Text" "letters" "[I"] ++ wsX70 ++ wsX50)
def wsX7_wipe : List Cond := .code yX7_wipe cX7_wipe 2 (some .int) :: ([.fieldLink RX7 10 "RingPages" "text" "LRingPages$Text;", .fieldLink RX7 87 "RingPages$Text" "length" "I"] ++ wsX70 ++ wsX50)
def wsX7_fault_r1 : List Cond := [Cond.fieldLink RX7 10 "RingPages" "text" "LRingPages$Text;", Cond.fieldLink RX7 61 "RingPages" "draftNet" "LRingPages$Net;", Cond.fieldLink RX7 64 "RingPages" "draftState" "LRingPages$State;", Cond.methodLink RX7 90 yX5_readInto, Cond.instanceMethod yX5_readInto, Cond.selects RX5 yX5_readInto yX5_readInto, Cond.initialized RX5, Cond.code yX5_readInto cX5_readInto 5 (some .int), Cond.fieldLink RX5 32 "RingPages$Text" "place" "I", Cond.fieldLink RX5 18 "RingPages$Text" "length" "I", Cond.methodLink RX5 22 yX1_begin, Cond.instanceMethod yX1_begin, Cond.selects RX1 yX1_begin yX1_begin, Cond.initialized RX1, Cond.code yX1_begin cX1_begin 4 none, Cond.fieldLink RX1 33 "RingPages$Net" "cells" "I", Cond.fieldLink RX1 37 "RingPages$Net" "joins" "I", Cond.fieldLink RX1 19 "RingPages$Net" "near" "[I", Cond.fieldLink RX1 23 "RingPages$Net" "out" "[I", Cond.fieldLink RX1 11 "RingPages$Net" "weight" "[[I", Cond.fieldLink RX1 16 "RingPages$Net" "wide" "[[I", Cond.methodLink RX1 40 yX1_price, Cond.instanceMethod yX1_price, Cond.selects RX1 yX1_price yX1_price]
def wsX7_fault_r2 : List Cond := [Cond.code yX1_price cX1_price 5 none, Cond.fieldLink RX1 44 "RingPages$Net" "mostRounds" "I", Cond.fieldLink RX1 47 "RingPages$Net" "pageCost" "I", Cond.fieldLink RX1 50 "RingPages$Net" "updateCost" "I", Cond.fieldLink RX1 53 "RingPages$Net" "callChance" "I", Cond.methodLink RX5 28 yX4_begin, Cond.instanceMethod yX4_begin, Cond.selects RX4 yX4_begin yX4_begin, Cond.initialized RX4, Cond.code yX4_begin cX4_begin 2 none, Cond.fieldLink RX4 9 "RingPages$State" "stay" "[I", Cond.fieldLink RX4 15 "RingPages$State" "area" "[I", Cond.fieldLink RX4 18 "RingPages$State" "kind" "I", Cond.fieldLink RX4 22 "RingPages$State" "value" "I", Cond.fieldLink RX4 25 "RingPages$State" "cell" "I", Cond.fieldLink RX4 28 "RingPages$State" "updates" "I", Cond.fieldLink RX4 31 "RingPages$State" "paged" "I", Cond.methodLink RX4 34 yX4_register, Cond.instanceMethod yX4_register, Cond.selects RX4 yX4_register yX4_register, Cond.code yX4_register cX4_register 1 none, Cond.fieldLink RX4 43 "RingPages$State" "home" "I", Cond.fieldLink RX4 46 "RingPages$State" "moves" "I", Cond.fieldLink RX4 49 "RingPages$State" "ticks" "I"]
def wsX7_fault_r3 : List Cond := [Cond.methodLink RX5 35 yX5_readItem, Cond.instanceMethod yX5_readItem, Cond.selects RX5 yX5_readItem yX5_readItem, Cond.code yX5_readItem cX5_readItem 5 (some .boolean), Cond.fieldLink RX5 43 "RingPages$Net" "cells" "I", Cond.fieldLink RX5 61 "RingPages$State" "stay" "[I", Cond.fieldLink RX5 68 "RingPages$State" "area" "[I", Cond.methodLink RX5 39 yX5_letterHere, Cond.instanceMethod yX5_letterHere, Cond.selects RX5 yX5_letterHere yX5_letterHere, Cond.code yX5_letterHere cX5_letterHere 1 (some .int), Cond.fieldLink RX5 9 "RingPages$Text" "letters" "[I", Cond.methodLink RX5 46 yX5_numbersBehind, Cond.instanceMethod yX5_numbersBehind, Cond.selects RX5 yX5_numbersBehind yX5_numbersBehind, Cond.code yX5_numbersBehind cX5_numbersBehind 2 (some .int), Cond.methodLink RX5 50 yX5_readNumbers, Cond.instanceMethod yX5_readNumbers, Cond.selects RX5 yX5_readNumbers yX5_readNumbers, Cond.code yX5_readNumbers cX5_readNumbers 3 (some .boolean), Cond.fieldLink RX5 15 "RingPages$Text" "numbers" "[I", Cond.methodLink RX5 102 yX5_readNumber, Cond.instanceMethod yX5_readNumber, Cond.selects RX5 yX5_readNumber yX5_readNumber]
def wsX7_fault_r4 : List Cond := [Cond.code yX5_readNumber cX5_readNumber 3 (some .int), Cond.methodLink RX5 105 yX5_figureHere, Cond.instanceMethod yX5_figureHere, Cond.selects RX5 yX5_figureHere yX5_figureHere, Cond.code yX5_figureHere cX5_figureHere 2 (some .int), Cond.methodLink RX5 54 yX5_takeCells, Cond.instanceMethod yX5_takeCells, Cond.selects RX5 yX5_takeCells yX5_takeCells, Cond.code yX5_takeCells cX5_takeCells 2 (some .boolean), Cond.methodLink RX5 58 yX5_takeJoin, Cond.instanceMethod yX5_takeJoin, Cond.selects RX5 yX5_takeJoin yX5_takeJoin, Cond.code yX5_takeJoin cX5_takeJoin 4 (some .boolean), Cond.fieldLink RX5 78 "RingPages$Net" "weight" "[[I", Cond.methodLink RX5 82 yX5_isWeight, Cond.instanceMethod yX5_isWeight, Cond.selects RX5 yX5_isWeight yX5_isWeight, Cond.code yX5_isWeight cX5_isWeight 2 (some .boolean), Cond.methodLink RX5 85 yX1_join, Cond.instanceMethod yX1_join, Cond.selects RX1 yX1_join yX1_join, Cond.code yX1_join cX1_join 5 none, Cond.methodLink RX1 56 yX1_lead, Cond.instanceMethod yX1_lead]
def wsX7_fault_r5 : List Cond := [Cond.selects RX1 yX1_lead yX1_lead, Cond.code yX1_lead cX1_lead 4 none, Cond.methodLink RX5 64 yX5_takeCellNumber, Cond.instanceMethod yX5_takeCellNumber, Cond.selects RX5 yX5_takeCellNumber yX5_takeCellNumber, Cond.code yX5_takeCellNumber cX5_takeCellNumber 4 (some .boolean), Cond.methodLink RX5 71 yX5_takeLaw, Cond.instanceMethod yX5_takeLaw, Cond.selects RX5 yX5_takeLaw yX5_takeLaw, Cond.code yX5_takeLaw cX5_takeLaw 2 (some .boolean), Cond.fieldLink RX5 93 "RingPages$State" "kind" "I", Cond.fieldLink RX5 96 "RingPages$State" "value" "I", Cond.static yX7_isLaw, Cond.initialized RX7, Cond.code yX7_isLaw cX7_isLaw 2 (some .boolean), Cond.methodLink RX5 75 yX5_takePrices, Cond.instanceMethod yX5_takePrices, Cond.selects RX5 yX5_takePrices yX5_takePrices, Cond.code yX5_takePrices cX5_takePrices 2 (some .boolean), Cond.methodLink RX5 99 yX1_price]
def wsX7_fault : List Cond := .code yX7_fault cX7_fault 1 (some .int) :: ((wsX7_fault_r1 ++ (wsX7_fault_r2 ++ (wsX7_fault_r3 ++ (wsX7_fault_r4 ++ wsX7_fault_r5)))) ++ wsX70 ++ wsX50 ++ wsX10 ++ wsX40)
def wsX7_lay_r1 : List Cond := [Cond.fieldLink RX7 54 "RingPages" "net" "LRingPages$Net;", Cond.fieldLink RX7 94 "RingPages$Net" "cells" "I", Cond.methodLink RX7 83 yX7_layText, Cond.instanceMethod yX7_layText, Cond.selects RX7 yX7_layText yX7_layText, Cond.initialized RX7, Cond.code yX7_layText cX7_layText 3 (some .boolean), Cond.fieldLink RX7 10 "RingPages" "text" "LRingPages$Text;", Cond.fieldLink RX7 61 "RingPages" "draftNet" "LRingPages$Net;", Cond.fieldLink RX7 64 "RingPages" "draftState" "LRingPages$State;", Cond.fieldLink RX7 58 "RingPages" "state" "LRingPages$State;", Cond.fieldLink RX7 19 "RingPages" "past" "LRingPages$Past;", Cond.fieldLink RX7 103 "RingPages$Past" "held" "I", Cond.fieldLink RX7 26 "RingPages" "longRun" "LRingPages$LongRun;", Cond.methodLink RX7 90 yX5_readInto, Cond.instanceMethod yX5_readInto, Cond.selects RX5 yX5_readInto yX5_readInto, Cond.initialized RX5, Cond.code yX5_readInto cX5_readInto 5 (some .int), Cond.fieldLink RX5 32 "RingPages$Text" "place" "I", Cond.fieldLink RX5 18 "RingPages$Text" "length" "I", Cond.methodLink RX5 22 yX1_begin, Cond.instanceMethod yX1_begin, Cond.selects RX1 yX1_begin yX1_begin]
def wsX7_lay_r2 : List Cond := [Cond.initialized RX1, Cond.code yX1_begin cX1_begin 4 none, Cond.fieldLink RX1 33 "RingPages$Net" "cells" "I", Cond.fieldLink RX1 37 "RingPages$Net" "joins" "I", Cond.fieldLink RX1 19 "RingPages$Net" "near" "[I", Cond.fieldLink RX1 23 "RingPages$Net" "out" "[I", Cond.fieldLink RX1 11 "RingPages$Net" "weight" "[[I", Cond.fieldLink RX1 16 "RingPages$Net" "wide" "[[I", Cond.methodLink RX1 40 yX1_price, Cond.instanceMethod yX1_price, Cond.selects RX1 yX1_price yX1_price, Cond.code yX1_price cX1_price 5 none, Cond.fieldLink RX1 44 "RingPages$Net" "mostRounds" "I", Cond.fieldLink RX1 47 "RingPages$Net" "pageCost" "I", Cond.fieldLink RX1 50 "RingPages$Net" "updateCost" "I", Cond.fieldLink RX1 53 "RingPages$Net" "callChance" "I", Cond.methodLink RX5 28 yX4_begin, Cond.instanceMethod yX4_begin, Cond.selects RX4 yX4_begin yX4_begin, Cond.initialized RX4, Cond.code yX4_begin cX4_begin 2 none, Cond.fieldLink RX4 9 "RingPages$State" "stay" "[I", Cond.fieldLink RX4 15 "RingPages$State" "area" "[I", Cond.fieldLink RX4 18 "RingPages$State" "kind" "I"]
def wsX7_lay_r3 : List Cond := [Cond.fieldLink RX4 22 "RingPages$State" "value" "I", Cond.fieldLink RX4 25 "RingPages$State" "cell" "I", Cond.fieldLink RX4 28 "RingPages$State" "updates" "I", Cond.fieldLink RX4 31 "RingPages$State" "paged" "I", Cond.methodLink RX4 34 yX4_register, Cond.instanceMethod yX4_register, Cond.selects RX4 yX4_register yX4_register, Cond.code yX4_register cX4_register 1 none, Cond.fieldLink RX4 43 "RingPages$State" "home" "I", Cond.fieldLink RX4 46 "RingPages$State" "moves" "I", Cond.fieldLink RX4 49 "RingPages$State" "ticks" "I", Cond.methodLink RX5 35 yX5_readItem, Cond.instanceMethod yX5_readItem, Cond.selects RX5 yX5_readItem yX5_readItem, Cond.code yX5_readItem cX5_readItem 5 (some .boolean), Cond.fieldLink RX5 43 "RingPages$Net" "cells" "I", Cond.fieldLink RX5 61 "RingPages$State" "stay" "[I", Cond.fieldLink RX5 68 "RingPages$State" "area" "[I", Cond.methodLink RX5 39 yX5_letterHere, Cond.instanceMethod yX5_letterHere, Cond.selects RX5 yX5_letterHere yX5_letterHere, Cond.code yX5_letterHere cX5_letterHere 1 (some .int), Cond.fieldLink RX5 9 "RingPages$Text" "letters" "[I", Cond.methodLink RX5 46 yX5_numbersBehind]
def wsX7_lay_r4 : List Cond := [Cond.instanceMethod yX5_numbersBehind, Cond.selects RX5 yX5_numbersBehind yX5_numbersBehind, Cond.code yX5_numbersBehind cX5_numbersBehind 2 (some .int), Cond.methodLink RX5 50 yX5_readNumbers, Cond.instanceMethod yX5_readNumbers, Cond.selects RX5 yX5_readNumbers yX5_readNumbers, Cond.code yX5_readNumbers cX5_readNumbers 3 (some .boolean), Cond.fieldLink RX5 15 "RingPages$Text" "numbers" "[I", Cond.methodLink RX5 102 yX5_readNumber, Cond.instanceMethod yX5_readNumber, Cond.selects RX5 yX5_readNumber yX5_readNumber, Cond.code yX5_readNumber cX5_readNumber 3 (some .int), Cond.methodLink RX5 105 yX5_figureHere, Cond.instanceMethod yX5_figureHere, Cond.selects RX5 yX5_figureHere yX5_figureHere, Cond.code yX5_figureHere cX5_figureHere 2 (some .int), Cond.methodLink RX5 54 yX5_takeCells, Cond.instanceMethod yX5_takeCells, Cond.selects RX5 yX5_takeCells yX5_takeCells, Cond.code yX5_takeCells cX5_takeCells 2 (some .boolean), Cond.methodLink RX5 58 yX5_takeJoin, Cond.instanceMethod yX5_takeJoin, Cond.selects RX5 yX5_takeJoin yX5_takeJoin, Cond.code yX5_takeJoin cX5_takeJoin 4 (some .boolean)]
def wsX7_lay_r5 : List Cond := [Cond.fieldLink RX5 78 "RingPages$Net" "weight" "[[I", Cond.methodLink RX5 82 yX5_isWeight, Cond.instanceMethod yX5_isWeight, Cond.selects RX5 yX5_isWeight yX5_isWeight, Cond.code yX5_isWeight cX5_isWeight 2 (some .boolean), Cond.methodLink RX5 85 yX1_join, Cond.instanceMethod yX1_join, Cond.selects RX1 yX1_join yX1_join, Cond.code yX1_join cX1_join 5 none, Cond.methodLink RX1 56 yX1_lead, Cond.instanceMethod yX1_lead, Cond.selects RX1 yX1_lead yX1_lead, Cond.code yX1_lead cX1_lead 4 none, Cond.methodLink RX5 64 yX5_takeCellNumber, Cond.instanceMethod yX5_takeCellNumber, Cond.selects RX5 yX5_takeCellNumber yX5_takeCellNumber, Cond.code yX5_takeCellNumber cX5_takeCellNumber 4 (some .boolean), Cond.methodLink RX5 71 yX5_takeLaw, Cond.instanceMethod yX5_takeLaw, Cond.selects RX5 yX5_takeLaw yX5_takeLaw, Cond.code yX5_takeLaw cX5_takeLaw 2 (some .boolean), Cond.fieldLink RX5 93 "RingPages$State" "kind" "I", Cond.fieldLink RX5 96 "RingPages$State" "value" "I", Cond.static yX7_isLaw]
def wsX7_lay_r6 : List Cond := [Cond.code yX7_isLaw cX7_isLaw 2 (some .boolean), Cond.methodLink RX5 75 yX5_takePrices, Cond.instanceMethod yX5_takePrices, Cond.selects RX5 yX5_takePrices yX5_takePrices, Cond.code yX5_takePrices cX5_takePrices 2 (some .boolean), Cond.methodLink RX5 99 yX1_price, Cond.methodLink RX7 97 yX1_isWhole, Cond.instanceMethod yX1_isWhole, Cond.selects RX1 yX1_isWhole yX1_isWhole, Cond.code yX1_isWhole cX1_isWhole 4 (some .boolean), Cond.methodLink RX1 60 Lib.Math.min.name, Cond.static Lib.Math.min.name, Cond.initialized "java/lang/Math", Cond.code Lib.Math.min.name Lib.Math.min.code 2 (some .int), Cond.methodLink RX7 100 yX1_growTrees, Cond.instanceMethod yX1_growTrees, Cond.selects RX1 yX1_growTrees yX1_growTrees, Cond.code yX1_growTrees cX1_growTrees 2 none, Cond.fieldLink RX1 26 "RingPages$Net" "trees" "[J", Cond.methodLink RX1 66 yX1_treesTo, Cond.instanceMethod yX1_treesTo, Cond.selects RX1 yX1_treesTo yX1_treesTo, Cond.code yX1_treesTo cX1_treesTo 4 (some .long), Cond.fieldLink RX1 30 "RingPages$Net" "minors" "[J"]
def wsX7_lay_r7 : List Cond := [Cond.methodLink RX1 70 yJ6_bitCount_0f7a4, Cond.static yJ6_bitCount_0f7a4, Cond.initialized RJ6, Cond.code yJ6_bitCount_0f7a4 cJ6_bitCount_0f7a4 1 (some .int), Cond.constant RJ6 265 (1431655765), Cond.constant RJ6 266 (858993459), Cond.constant RJ6 267 (252645135), Cond.methodLink RX1 76 yX1_rowOf, Cond.instanceMethod yX1_rowOf, Cond.selects RX1 yX1_rowOf yX1_rowOf, Cond.code yX1_rowOf cX1_rowOf 3 (some .int), Cond.methodLink RX1 79 yX1_minorOf, Cond.instanceMethod yX1_minorOf, Cond.selects RX1 yX1_minorOf yX1_minorOf, Cond.code yX1_minorOf cX1_minorOf 9 (some .long), Cond.static yX7_holds, Cond.code yX7_holds cX7_holds 2 (some .boolean), Cond.methodLink RX7 106 yX0_reckon, Cond.instanceMethod yX0_reckon, Cond.selects RX0 yX0_reckon yX0_reckon, Cond.initialized RX0, Cond.code yX0_reckon cX0_reckon 4 none, Cond.fieldLink RX0 22 "RingPages$LongRun" "below" "J", Cond.fieldLink RX0 26 "RingPages$Net" "cells" "I"]
def wsX7_lay_r8 : List Cond := [Cond.fieldLink RX0 9 "RingPages$LongRun" "above" "[J", Cond.fieldLink RX0 32 "RingPages$State" "stay" "[I", Cond.fieldLink RX0 37 "RingPages$Net" "out" "[I", Cond.fieldLink RX0 40 "RingPages$Net" "trees" "[J", Cond.fieldLink RX0 43 "RingPages$LongRun" "bestKnown" "Z"]
def wsX7_lay : List Cond := .code yX7_lay cX7_lay 1 (some .int) :: ((wsX7_lay_r1 ++ (wsX7_lay_r2 ++ (wsX7_lay_r3 ++ (wsX7_lay_r4 ++ (wsX7_lay_r5 ++ (wsX7_lay_r6 ++ (wsX7_lay_r7 ++ wsX7_lay_r8))))))) ++ wsX70 ++ wsX10 ++ wsX20 ++ wsX50 ++ wsX40 ++ wsX00)
def wsX7_isCell : List Cond := .code yX7_isCell cX7_isCell 2 (some .boolean) :: ([.fieldLink RX7 54 "RingPages" "net" "LRingPages$Net;", .fieldLink RX7 94 "RingPages$Net" "cells" "I"] ++ wsX70 ++ wsX10)
def wsX7_set_r1 : List Cond := [Cond.fieldLink RX7 58 "RingPages" "state" "LRingPages$State;", Cond.fieldLink RX7 113 "RingPages$State" "stay" "[I", Cond.fieldLink RX7 117 "RingPages$State" "area" "[I", Cond.fieldLink RX7 19 "RingPages" "past" "LRingPages$Past;", Cond.fieldLink RX7 26 "RingPages" "longRun" "LRingPages$LongRun;", Cond.fieldLink RX7 54 "RingPages" "net" "LRingPages$Net;", Cond.methodLink RX7 110 yX7_isCell, Cond.instanceMethod yX7_isCell, Cond.selects RX7 yX7_isCell yX7_isCell, Cond.initialized RX7, Cond.code yX7_isCell cX7_isCell 2 (some .boolean), Cond.fieldLink RX7 94 "RingPages$Net" "cells" "I", Cond.methodLink RX7 120 yX2_keep, Cond.instanceMethod yX2_keep, Cond.selects RX2 yX2_keep yX2_keep, Cond.initialized RX2, Cond.code yX2_keep cX2_keep 2 none, Cond.fieldLink RX2 11 "RingPages$Past" "kept" "[LRingPages$State;", Cond.fieldLink RX2 18 "RingPages$Past" "next" "I", Cond.fieldLink RX2 26 "RingPages$Past" "held" "I", Cond.methodLink RX2 29 Lib.Math.min.name, Cond.static Lib.Math.min.name, Cond.initialized "java/lang/Math", Cond.code Lib.Math.min.name Lib.Math.min.code 2 (some .int)]
def wsX7_set_r2 : List Cond := [Cond.methodLink RX2 22 yX4_copyFrom, Cond.instanceMethod yX4_copyFrom, Cond.selects RX4 yX4_copyFrom yX4_copyFrom, Cond.initialized RX4, Cond.code yX4_copyFrom cX4_copyFrom 2 none, Cond.fieldLink RX4 9 "RingPages$State" "stay" "[I", Cond.methodLink RX4 37 arraycopyName, Cond.native arraycopyName, Cond.static arraycopyName, Cond.initialized "java/lang/System", Cond.fieldLink RX4 15 "RingPages$State" "area" "[I", Cond.fieldLink RX4 18 "RingPages$State" "kind" "I", Cond.fieldLink RX4 22 "RingPages$State" "value" "I", Cond.fieldLink RX4 25 "RingPages$State" "cell" "I", Cond.fieldLink RX4 43 "RingPages$State" "home" "I", Cond.fieldLink RX4 46 "RingPages$State" "moves" "I", Cond.fieldLink RX4 49 "RingPages$State" "ticks" "I", Cond.fieldLink RX4 28 "RingPages$State" "updates" "I", Cond.fieldLink RX4 31 "RingPages$State" "paged" "I", Cond.methodLink RX7 106 yX0_reckon, Cond.instanceMethod yX0_reckon, Cond.selects RX0 yX0_reckon yX0_reckon, Cond.initialized RX0, Cond.code yX0_reckon cX0_reckon 4 none]
def wsX7_set_r3 : List Cond := [Cond.fieldLink RX0 22 "RingPages$LongRun" "below" "J", Cond.fieldLink RX0 26 "RingPages$Net" "cells" "I", Cond.fieldLink RX0 9 "RingPages$LongRun" "above" "[J", Cond.fieldLink RX0 32 "RingPages$State" "stay" "[I", Cond.fieldLink RX0 37 "RingPages$Net" "out" "[I", Cond.fieldLink RX0 40 "RingPages$Net" "trees" "[J", Cond.fieldLink RX0 43 "RingPages$LongRun" "bestKnown" "Z", Cond.methodLink RX7 124 yX4_register, Cond.instanceMethod yX4_register, Cond.selects RX4 yX4_register yX4_register, Cond.code yX4_register cX4_register 1 none]
def wsX7_set : List Cond := .code yX7_set cX7_set 5 (some .int) :: ((wsX7_set_r1 ++ (wsX7_set_r2 ++ wsX7_set_r3)) ++ wsX70 ++ wsX40 ++ wsX10 ++ wsX20 ++ wsX00)
def wsX7_law_r1 : List Cond := [Cond.fieldLink RX7 58 "RingPages" "state" "LRingPages$State;", Cond.fieldLink RX7 131 "RingPages$State" "kind" "I", Cond.fieldLink RX7 134 "RingPages$State" "value" "I", Cond.fieldLink RX7 19 "RingPages" "past" "LRingPages$Past;", Cond.methodLink RX7 127 yX7_isLaw, Cond.static yX7_isLaw, Cond.initialized RX7, Cond.code yX7_isLaw cX7_isLaw 2 (some .boolean), Cond.methodLink RX7 120 yX2_keep, Cond.instanceMethod yX2_keep, Cond.selects RX2 yX2_keep yX2_keep, Cond.initialized RX2, Cond.code yX2_keep cX2_keep 2 none, Cond.fieldLink RX2 11 "RingPages$Past" "kept" "[LRingPages$State;", Cond.fieldLink RX2 18 "RingPages$Past" "next" "I", Cond.fieldLink RX2 26 "RingPages$Past" "held" "I", Cond.methodLink RX2 29 Lib.Math.min.name, Cond.static Lib.Math.min.name, Cond.initialized "java/lang/Math", Cond.code Lib.Math.min.name Lib.Math.min.code 2 (some .int), Cond.methodLink RX2 22 yX4_copyFrom, Cond.instanceMethod yX4_copyFrom, Cond.selects RX4 yX4_copyFrom yX4_copyFrom, Cond.initialized RX4]
def wsX7_law_r2 : List Cond := [Cond.code yX4_copyFrom cX4_copyFrom 2 none, Cond.fieldLink RX4 9 "RingPages$State" "stay" "[I", Cond.methodLink RX4 37 arraycopyName, Cond.native arraycopyName, Cond.static arraycopyName, Cond.initialized "java/lang/System", Cond.fieldLink RX4 15 "RingPages$State" "area" "[I", Cond.fieldLink RX4 18 "RingPages$State" "kind" "I", Cond.fieldLink RX4 22 "RingPages$State" "value" "I", Cond.fieldLink RX4 25 "RingPages$State" "cell" "I", Cond.fieldLink RX4 43 "RingPages$State" "home" "I", Cond.fieldLink RX4 46 "RingPages$State" "moves" "I", Cond.fieldLink RX4 49 "RingPages$State" "ticks" "I", Cond.fieldLink RX4 28 "RingPages$State" "updates" "I", Cond.fieldLink RX4 31 "RingPages$State" "paged" "I", Cond.methodLink RX7 124 yX4_register, Cond.instanceMethod yX4_register, Cond.selects RX4 yX4_register yX4_register, Cond.code yX4_register cX4_register 1 none]
def wsX7_law : List Cond := .code yX7_law cX7_law 4 (some .int) :: ((wsX7_law_r1 ++ wsX7_law_r2) ++ wsX70 ++ wsX40 ++ wsX20)
def wsX7_give_r1 : List Cond := [Cond.fieldLink RX7 26 "RingPages" "longRun" "LRingPages$LongRun;", Cond.fieldLink RX7 54 "RingPages" "net" "LRingPages$Net;", Cond.fieldLink RX7 19 "RingPages" "past" "LRingPages$Past;", Cond.fieldLink RX7 58 "RingPages" "state" "LRingPages$State;", Cond.fieldLink RX7 94 "RingPages$Net" "cells" "I", Cond.fieldLink RX7 117 "RingPages$State" "area" "[I", Cond.fieldLink RX7 141 "RingPages$LongRun" "best" "[I", Cond.methodLink RX7 137 yX0_findBest, Cond.instanceMethod yX0_findBest, Cond.selects RX0 yX0_findBest yX0_findBest, Cond.initialized RX0, Cond.code yX0_findBest cX0_findBest 5 none, Cond.fieldLink RX0 43 "RingPages$LongRun" "bestKnown" "Z", Cond.fieldLink RX0 19 "RingPages$LongRun" "tried" "[I", Cond.fieldLink RX0 26 "RingPages$Net" "cells" "I", Cond.fieldLink RX0 79 "RingPages$LongRun" "leastExpense" "J", Cond.methodLink RX0 68 yX0_expense, Cond.instanceMethod yX0_expense, Cond.selects RX0 yX0_expense yX0_expense, Cond.code yX0_expense cX0_expense 6 (some .long), Cond.fieldLink RX0 9 "RingPages$LongRun" "above" "[J", Cond.fieldLink RX0 55 "RingPages$Net" "updateCost" "I", Cond.fieldLink RX0 62 "RingPages$Net" "pageCost" "I", Cond.fieldLink RX0 65 "RingPages$Net" "callChance" "I"]
def wsX7_give_r2 : List Cond := [Cond.static yX7_sameArea, Cond.initialized RX7, Cond.code yX7_sameArea cX7_sameArea 5 (some .int), Cond.methodLink RX0 58 yX0_crosses, Cond.instanceMethod yX0_crosses, Cond.selects RX0 yX0_crosses yX0_crosses, Cond.code yX0_crosses cX0_crosses 7 (some .long), Cond.fieldLink RX0 40 "RingPages$Net" "trees" "[J", Cond.fieldLink RX0 47 "RingPages$Net" "weight" "[[I", Cond.methodLink RX0 71 yX0_takeTried, Cond.instanceMethod yX0_takeTried, Cond.selects RX0 yX0_takeTried yX0_takeTried, Cond.code yX0_takeTried cX0_takeTried 3 none, Cond.fieldLink RX0 15 "RingPages$LongRun" "best" "[I", Cond.methodLink RX0 82 arraycopyName, Cond.native arraycopyName, Cond.static arraycopyName, Cond.initialized "java/lang/System", Cond.methodLink RX0 75 yX0_nextTried, Cond.instanceMethod yX0_nextTried, Cond.selects RX0 yX0_nextTried yX0_nextTried, Cond.code yX0_nextTried cX0_nextTried 3 (some .boolean), Cond.methodLink RX0 88 yX0_highestAhead, Cond.instanceMethod yX0_highestAhead]
def wsX7_give_r3 : List Cond := [Cond.selects RX0 yX0_highestAhead yX0_highestAhead, Cond.code yX0_highestAhead cX0_highestAhead 4 (some .int), Cond.methodLink RX0 92 Lib.Math.max.name, Cond.static Lib.Math.max.name, Cond.initialized "java/lang/Math", Cond.code Lib.Math.max.name Lib.Math.max.code 2 (some .int), Cond.methodLink RX7 120 yX2_keep, Cond.instanceMethod yX2_keep, Cond.selects RX2 yX2_keep yX2_keep, Cond.initialized RX2, Cond.code yX2_keep cX2_keep 2 none, Cond.fieldLink RX2 11 "RingPages$Past" "kept" "[LRingPages$State;", Cond.fieldLink RX2 18 "RingPages$Past" "next" "I", Cond.fieldLink RX2 26 "RingPages$Past" "held" "I", Cond.methodLink RX2 29 Lib.Math.min.name, Cond.static Lib.Math.min.name, Cond.code Lib.Math.min.name Lib.Math.min.code 2 (some .int), Cond.methodLink RX2 22 yX4_copyFrom, Cond.instanceMethod yX4_copyFrom, Cond.selects RX4 yX4_copyFrom yX4_copyFrom, Cond.initialized RX4, Cond.code yX4_copyFrom cX4_copyFrom 2 none, Cond.fieldLink RX4 9 "RingPages$State" "stay" "[I", Cond.methodLink RX4 37 arraycopyName]
def wsX7_give_r4 : List Cond := [Cond.fieldLink RX4 15 "RingPages$State" "area" "[I", Cond.fieldLink RX4 18 "RingPages$State" "kind" "I", Cond.fieldLink RX4 22 "RingPages$State" "value" "I", Cond.fieldLink RX4 25 "RingPages$State" "cell" "I", Cond.fieldLink RX4 43 "RingPages$State" "home" "I", Cond.fieldLink RX4 46 "RingPages$State" "moves" "I", Cond.fieldLink RX4 49 "RingPages$State" "ticks" "I", Cond.fieldLink RX4 28 "RingPages$State" "updates" "I", Cond.fieldLink RX4 31 "RingPages$State" "paged" "I", Cond.methodLink RX7 124 yX4_register, Cond.instanceMethod yX4_register, Cond.selects RX4 yX4_register yX4_register, Cond.code yX4_register cX4_register 1 none]
def wsX7_give : List Cond := .code yX7_give cX7_give 3 (some .int) :: ((wsX7_give_r1 ++ (wsX7_give_r2 ++ (wsX7_give_r3 ++ wsX7_give_r4))) ++ wsX70 ++ wsX10 ++ wsX40 ++ wsX00 ++ wsX20)
def wsX7_undo_r1 : List Cond := [Cond.fieldLink RX7 19 "RingPages" "past" "LRingPages$Past;", Cond.fieldLink RX7 58 "RingPages" "state" "LRingPages$State;", Cond.fieldLink RX7 26 "RingPages" "longRun" "LRingPages$LongRun;", Cond.fieldLink RX7 54 "RingPages" "net" "LRingPages$Net;", Cond.fieldLink RX7 103 "RingPages$Past" "held" "I", Cond.methodLink RX7 144 yX2_bringBack, Cond.instanceMethod yX2_bringBack, Cond.selects RX2 yX2_bringBack yX2_bringBack, Cond.initialized RX2, Cond.code yX2_bringBack cX2_bringBack 2 (some .boolean), Cond.fieldLink RX2 26 "RingPages$Past" "held" "I", Cond.fieldLink RX2 18 "RingPages$Past" "next" "I", Cond.fieldLink RX2 11 "RingPages$Past" "kept" "[LRingPages$State;", Cond.methodLink RX2 22 yX4_copyFrom, Cond.instanceMethod yX4_copyFrom, Cond.selects RX4 yX4_copyFrom yX4_copyFrom, Cond.initialized RX4, Cond.code yX4_copyFrom cX4_copyFrom 2 none, Cond.fieldLink RX4 9 "RingPages$State" "stay" "[I", Cond.methodLink RX4 37 arraycopyName, Cond.native arraycopyName, Cond.static arraycopyName, Cond.initialized "java/lang/System", Cond.fieldLink RX4 15 "RingPages$State" "area" "[I"]
def wsX7_undo_r2 : List Cond := [Cond.fieldLink RX4 18 "RingPages$State" "kind" "I", Cond.fieldLink RX4 22 "RingPages$State" "value" "I", Cond.fieldLink RX4 25 "RingPages$State" "cell" "I", Cond.fieldLink RX4 43 "RingPages$State" "home" "I", Cond.fieldLink RX4 46 "RingPages$State" "moves" "I", Cond.fieldLink RX4 49 "RingPages$State" "ticks" "I", Cond.fieldLink RX4 28 "RingPages$State" "updates" "I", Cond.fieldLink RX4 31 "RingPages$State" "paged" "I", Cond.methodLink RX7 106 yX0_reckon, Cond.instanceMethod yX0_reckon, Cond.selects RX0 yX0_reckon yX0_reckon, Cond.initialized RX0, Cond.code yX0_reckon cX0_reckon 4 none, Cond.fieldLink RX0 22 "RingPages$LongRun" "below" "J", Cond.fieldLink RX0 26 "RingPages$Net" "cells" "I", Cond.fieldLink RX0 9 "RingPages$LongRun" "above" "[J", Cond.fieldLink RX0 32 "RingPages$State" "stay" "[I", Cond.fieldLink RX0 37 "RingPages$Net" "out" "[I", Cond.fieldLink RX0 40 "RingPages$Net" "trees" "[J", Cond.fieldLink RX0 43 "RingPages$LongRun" "bestKnown" "Z"]
def wsX7_undo : List Cond := .code yX7_undo cX7_undo 1 (some .int) :: ((wsX7_undo_r1 ++ wsX7_undo_r2) ++ wsX70 ++ wsX20 ++ wsX40 ++ wsX00 ++ wsX10)
def wsX7_cell : List Cond := .code yX7_cell cX7_cell 3 (some .int) :: ([.fieldLink RX7 58 "RingPages" "state" "LRingPages$State;", .fieldLink RX7 113 "RingPages$State" "stay" "[I", .fieldLink RX7 117 "RingPages$State" "area" "[I", .fieldLink RX7 54 "RingPages" "net" "LRingPages$Net;", .fieldLink RX7 148 "RingPages$Net" "out" "[I", .fieldLink RX7 151 "RingPages$Net" "near" "[I", .fieldLink RX7 94 "RingPages$Net" "cells" "I", .methodLink RX7 110 yX7_isCell, .instanceMethod yX7_isCell, .selects RX7 yX7_isCell yX7_isCell, .initialized RX7, .code yX7_isCell cX7_isCell 2 (some .boolean), .methodLink RX7 154 yX7_sameArea, .static yX7_sameArea, .code yX7_sameArea cX7_sameArea 5 (some .int)] ++ wsX70 ++ wsX40 ++ wsX10)
def wsX7_weight : List Cond := .code yX7_weight cX7_weight 3 (some .int) :: ([.fieldLink RX7 54 "RingPages" "net" "LRingPages$Net;", .fieldLink RX7 158 "RingPages$Net" "weight" "[[I", .methodLink RX7 110 yX7_isCell, .instanceMethod yX7_isCell, .selects RX7 yX7_isCell yX7_isCell, .initialized RX7, .code yX7_isCell cX7_isCell 2 (some .boolean), .fieldLink RX7 94 "RingPages$Net" "cells" "I"] ++ wsX70 ++ wsX10)
def wsX7_wide : List Cond := .code yX7_wide cX7_wide 3 (some .int) :: ([.fieldLink RX7 54 "RingPages" "net" "LRingPages$Net;", .fieldLink RX7 162 "RingPages$Net" "wide" "[[I", .methodLink RX7 110 yX7_isCell, .instanceMethod yX7_isCell, .selects RX7 yX7_isCell yX7_isCell, .initialized RX7, .code yX7_isCell cX7_isCell 2 (some .boolean), .fieldLink RX7 94 "RingPages$Net" "cells" "I"] ++ wsX70 ++ wsX10)
def wsX7_tick_r1 : List Cond := [Cond.fieldLink RX7 58 "RingPages" "state" "LRingPages$State;", Cond.fieldLink RX7 54 "RingPages" "net" "LRingPages$Net;", Cond.fieldLink RX7 19 "RingPages" "past" "LRingPages$Past;", Cond.methodLink RX7 110 yX7_isCell, Cond.instanceMethod yX7_isCell, Cond.selects RX7 yX7_isCell yX7_isCell, Cond.initialized RX7, Cond.code yX7_isCell cX7_isCell 2 (some .boolean), Cond.fieldLink RX7 94 "RingPages$Net" "cells" "I", Cond.methodLink RX7 165 yX4_canGo, Cond.instanceMethod yX4_canGo, Cond.selects RX4 yX4_canGo yX4_canGo, Cond.initialized RX4, Cond.code yX4_canGo cX4_canGo 3 (some .boolean), Cond.fieldLink RX4 25 "RingPages$State" "cell" "I", Cond.fieldLink RX4 9 "RingPages$State" "stay" "[I", Cond.fieldLink RX4 52 "RingPages$Net" "near" "[I", Cond.static yX7_holds, Cond.code yX7_holds cX7_holds 2 (some .boolean), Cond.methodLink RX7 120 yX2_keep, Cond.instanceMethod yX2_keep, Cond.selects RX2 yX2_keep yX2_keep, Cond.initialized RX2, Cond.code yX2_keep cX2_keep 2 none]
def wsX7_tick_r2 : List Cond := [Cond.fieldLink RX2 11 "RingPages$Past" "kept" "[LRingPages$State;", Cond.fieldLink RX2 18 "RingPages$Past" "next" "I", Cond.fieldLink RX2 26 "RingPages$Past" "held" "I", Cond.methodLink RX2 29 Lib.Math.min.name, Cond.static Lib.Math.min.name, Cond.initialized "java/lang/Math", Cond.code Lib.Math.min.name Lib.Math.min.code 2 (some .int), Cond.methodLink RX2 22 yX4_copyFrom, Cond.instanceMethod yX4_copyFrom, Cond.selects RX4 yX4_copyFrom yX4_copyFrom, Cond.code yX4_copyFrom cX4_copyFrom 2 none, Cond.methodLink RX4 37 arraycopyName, Cond.native arraycopyName, Cond.static arraycopyName, Cond.initialized "java/lang/System", Cond.fieldLink RX4 15 "RingPages$State" "area" "[I", Cond.fieldLink RX4 18 "RingPages$State" "kind" "I", Cond.fieldLink RX4 22 "RingPages$State" "value" "I", Cond.fieldLink RX4 43 "RingPages$State" "home" "I", Cond.fieldLink RX4 46 "RingPages$State" "moves" "I", Cond.fieldLink RX4 49 "RingPages$State" "ticks" "I", Cond.fieldLink RX4 28 "RingPages$State" "updates" "I", Cond.fieldLink RX4 31 "RingPages$State" "paged" "I", Cond.methodLink RX7 169 yX4_go]
def wsX7_tick_r3 : List Cond := [Cond.instanceMethod yX4_go, Cond.selects RX4 yX4_go yX4_go, Cond.code yX4_go cX4_go 3 (some .boolean), Cond.methodLink RX4 61 yX4_isDue, Cond.instanceMethod yX4_isDue, Cond.selects RX4 yX4_isDue yX4_isDue, Cond.code yX4_isDue cX4_isDue 2 (some .boolean), Cond.methodLink RX4 65 yX4_isOutside, Cond.instanceMethod yX4_isOutside, Cond.selects RX4 yX4_isOutside yX4_isOutside, Cond.code yX4_isOutside cX4_isOutside 3 (some .boolean), Cond.fieldLink RX4 69 "RingPages$Net" "wide" "[[I", Cond.methodLink RX4 34 yX4_register, Cond.instanceMethod yX4_register, Cond.selects RX4 yX4_register yX4_register, Cond.code yX4_register cX4_register 1 none]
def wsX7_tick : List Cond := .code yX7_tick cX7_tick 2 (some .int) :: ((wsX7_tick_r1 ++ (wsX7_tick_r2 ++ wsX7_tick_r3)) ++ wsX70 ++ wsX10 ++ wsX40 ++ wsX20)
def wsX7_seek_r1 : List Cond := [Cond.fieldLink RX7 40 "RingPages" "rounds" "LRingPages$Rounds;", Cond.fieldLink RX7 33 "RingPages" "whereabouts" "LRingPages$Whereabouts;", Cond.fieldLink RX7 54 "RingPages" "net" "LRingPages$Net;", Cond.fieldLink RX7 58 "RingPages" "state" "LRingPages$State;", Cond.fieldLink RX7 26 "RingPages" "longRun" "LRingPages$LongRun;", Cond.fieldLink RX7 217 "RingPages$LongRun" "above" "[J", Cond.fieldLink RX7 225 "RingPages$Net" "mostRounds" "I", Cond.methodLink RX7 214 yX6_find, Cond.instanceMethod yX6_find, Cond.selects RX6 yX6_find yX6_find, Cond.initialized RX6, Cond.code yX6_find cX6_find 8 (some .int), Cond.fieldLink RX6 15 "RingPages$State" "kind" "I", Cond.fieldLink RX6 21 "RingPages$State" "value" "I", Cond.methodLink RX6 24 Lib.Math.min.name, Cond.static Lib.Math.min.name, Cond.initialized "java/lang/Math", Cond.code Lib.Math.min.name Lib.Math.min.code 2 (some .int), Cond.fieldLink RX6 9 "RingPages$Whereabouts" "reached" "[I", Cond.fieldLink RX6 34 "RingPages$State" "home" "I", Cond.fieldLink RX6 37 "RingPages$State" "ticks" "I", Cond.methodLink RX6 30 yX6_insideOf, Cond.instanceMethod yX6_insideOf, Cond.selects RX6 yX6_insideOf yX6_insideOf]
def wsX7_seek_r2 : List Cond := [Cond.code yX6_insideOf cX6_insideOf 5 (some .int), Cond.fieldLink RX6 44 "RingPages$Net" "cells" "I", Cond.methodLink RX6 49 yX4_isOutside, Cond.instanceMethod yX4_isOutside, Cond.selects RX4 yX4_isOutside yX4_isOutside, Cond.initialized RX4, Cond.code yX4_isOutside cX4_isOutside 3 (some .boolean), Cond.fieldLink RX4 18 "RingPages$State" "kind" "I", Cond.fieldLink RX4 15 "RingPages$State" "area" "[I", Cond.fieldLink RX4 43 "RingPages$State" "home" "I", Cond.fieldLink RX4 69 "RingPages$Net" "wide" "[[I", Cond.fieldLink RX4 22 "RingPages$State" "value" "I", Cond.methodLink RX6 40 yX6_step, Cond.instanceMethod yX6_step, Cond.selects RX6 yX6_step yX6_step, Cond.code yX6_step cX6_step 9 (some .boolean), Cond.methodLink RX6 53 yX6_movers, Cond.instanceMethod yX6_movers, Cond.selects RX6 yX6_movers yX6_movers, Cond.code yX6_movers cX6_movers 5 (some .int), Cond.fieldLink RX6 68 "RingPages$Net" "near" "[I", Cond.static yX7_holds, Cond.initialized RX7, Cond.code yX7_holds cX7_holds 2 (some .boolean)]
def wsX7_seek_r3 : List Cond := [Cond.methodLink RX6 57 yX6_stayers, Cond.instanceMethod yX6_stayers, Cond.selects RX6 yX6_stayers yX6_stayers, Cond.code yX6_stayers cX6_stayers 6 (some .int), Cond.fieldLink RX6 65 "RingPages$State" "stay" "[I", Cond.methodLink RX7 221 yX3_lineUp, Cond.instanceMethod yX3_lineUp, Cond.selects RX3 yX3_lineUp yX3_lineUp, Cond.initialized RX3, Cond.code yX3_lineUp cX3_lineUp 5 none, Cond.fieldLink RX3 15 "RingPages$Rounds" "length" "I", Cond.fieldLink RX3 9 "RingPages$Rounds" "row" "[I", Cond.methodLink RX7 228 yX3_split, Cond.instanceMethod yX3_split, Cond.selects RX3 yX3_split yX3_split, Cond.code yX3_split cX3_split 10 none, Cond.constantLong RX3 23 (-1), Cond.fieldLink RX3 25 "RingPages$Rounds" "many" "I", Cond.fieldLink RX3 28 "RingPages$Rounds" "cuts" "I", Cond.methodLink RX3 31 yJ6_bitCount_0f7a4, Cond.static yJ6_bitCount_0f7a4, Cond.initialized RJ6, Cond.code yJ6_bitCount_0f7a4 cJ6_bitCount_0f7a4 1 (some .int), Cond.constant RJ6 265 (1431655765)]
def wsX7_seek_r4 : List Cond := [Cond.constant RJ6 266 (858993459), Cond.constant RJ6 267 (252645135), Cond.methodLink RX3 37 yX3_meanPaged, Cond.instanceMethod yX3_meanPaged, Cond.selects RX3 yX3_meanPaged yX3_meanPaged, Cond.code yX3_meanPaged cX3_meanPaged 7 (some .long), Cond.methodLink RX3 41 yX3_isCutBehind, Cond.instanceMethod yX3_isCutBehind, Cond.selects RX3 yX3_isCutBehind yX3_isCutBehind, Cond.code yX3_isCutBehind cX3_isCutBehind 3 (some .boolean)]
def wsX7_seek : List Cond := .code yX7_seek cX7_seek 1 none :: ((wsX7_seek_r1 ++ (wsX7_seek_r2 ++ (wsX7_seek_r3 ++ wsX7_seek_r4))) ++ wsX70 ++ wsX00 ++ wsX10 ++ wsX40 ++ wsX60 ++ wsX30)
def wsX7_page_r1 : List Cond := [Cond.fieldLink RX7 40 "RingPages" "rounds" "LRingPages$Rounds;", Cond.fieldLink RX7 175 "RingPages$Rounds" "many" "I", Cond.fieldLink RX7 58 "RingPages" "state" "LRingPages$State;", Cond.fieldLink RX7 187 "RingPages$State" "cell" "I", Cond.fieldLink RX7 19 "RingPages" "past" "LRingPages$Past;", Cond.fieldLink RX7 193 "RingPages$State" "paged" "I", Cond.methodLink RX7 172 yX7_seek, Cond.instanceMethod yX7_seek, Cond.selects RX7 yX7_seek yX7_seek, Cond.initialized RX7, Cond.code yX7_seek cX7_seek 1 none, Cond.fieldLink RX7 33 "RingPages" "whereabouts" "LRingPages$Whereabouts;", Cond.fieldLink RX7 54 "RingPages" "net" "LRingPages$Net;", Cond.fieldLink RX7 26 "RingPages" "longRun" "LRingPages$LongRun;", Cond.fieldLink RX7 217 "RingPages$LongRun" "above" "[J", Cond.fieldLink RX7 225 "RingPages$Net" "mostRounds" "I", Cond.methodLink RX7 214 yX6_find, Cond.instanceMethod yX6_find, Cond.selects RX6 yX6_find yX6_find, Cond.initialized RX6, Cond.code yX6_find cX6_find 8 (some .int), Cond.fieldLink RX6 15 "RingPages$State" "kind" "I", Cond.fieldLink RX6 21 "RingPages$State" "value" "I", Cond.methodLink RX6 24 Lib.Math.min.name]
def wsX7_page_r2 : List Cond := [Cond.static Lib.Math.min.name, Cond.initialized "java/lang/Math", Cond.code Lib.Math.min.name Lib.Math.min.code 2 (some .int), Cond.fieldLink RX6 9 "RingPages$Whereabouts" "reached" "[I", Cond.fieldLink RX6 34 "RingPages$State" "home" "I", Cond.fieldLink RX6 37 "RingPages$State" "ticks" "I", Cond.methodLink RX6 30 yX6_insideOf, Cond.instanceMethod yX6_insideOf, Cond.selects RX6 yX6_insideOf yX6_insideOf, Cond.code yX6_insideOf cX6_insideOf 5 (some .int), Cond.fieldLink RX6 44 "RingPages$Net" "cells" "I", Cond.methodLink RX6 49 yX4_isOutside, Cond.instanceMethod yX4_isOutside, Cond.selects RX4 yX4_isOutside yX4_isOutside, Cond.initialized RX4, Cond.code yX4_isOutside cX4_isOutside 3 (some .boolean), Cond.fieldLink RX4 18 "RingPages$State" "kind" "I", Cond.fieldLink RX4 15 "RingPages$State" "area" "[I", Cond.fieldLink RX4 43 "RingPages$State" "home" "I", Cond.fieldLink RX4 69 "RingPages$Net" "wide" "[[I", Cond.fieldLink RX4 22 "RingPages$State" "value" "I", Cond.methodLink RX6 40 yX6_step, Cond.instanceMethod yX6_step, Cond.selects RX6 yX6_step yX6_step]
def wsX7_page_r3 : List Cond := [Cond.code yX6_step cX6_step 9 (some .boolean), Cond.methodLink RX6 53 yX6_movers, Cond.instanceMethod yX6_movers, Cond.selects RX6 yX6_movers yX6_movers, Cond.code yX6_movers cX6_movers 5 (some .int), Cond.fieldLink RX6 68 "RingPages$Net" "near" "[I", Cond.static yX7_holds, Cond.code yX7_holds cX7_holds 2 (some .boolean), Cond.methodLink RX6 57 yX6_stayers, Cond.instanceMethod yX6_stayers, Cond.selects RX6 yX6_stayers yX6_stayers, Cond.code yX6_stayers cX6_stayers 6 (some .int), Cond.fieldLink RX6 65 "RingPages$State" "stay" "[I", Cond.methodLink RX7 221 yX3_lineUp, Cond.instanceMethod yX3_lineUp, Cond.selects RX3 yX3_lineUp yX3_lineUp, Cond.initialized RX3, Cond.code yX3_lineUp cX3_lineUp 5 none, Cond.fieldLink RX3 15 "RingPages$Rounds" "length" "I", Cond.fieldLink RX3 9 "RingPages$Rounds" "row" "[I", Cond.methodLink RX7 228 yX3_split, Cond.instanceMethod yX3_split, Cond.selects RX3 yX3_split yX3_split, Cond.code yX3_split cX3_split 10 none]
def wsX7_page_r4 : List Cond := [Cond.constantLong RX3 23 (-1), Cond.fieldLink RX3 25 "RingPages$Rounds" "many" "I", Cond.fieldLink RX3 28 "RingPages$Rounds" "cuts" "I", Cond.methodLink RX3 31 yJ6_bitCount_0f7a4, Cond.static yJ6_bitCount_0f7a4, Cond.initialized RJ6, Cond.code yJ6_bitCount_0f7a4 cJ6_bitCount_0f7a4 1 (some .int), Cond.constant RJ6 265 (1431655765), Cond.constant RJ6 266 (858993459), Cond.constant RJ6 267 (252645135), Cond.methodLink RX3 37 yX3_meanPaged, Cond.instanceMethod yX3_meanPaged, Cond.selects RX3 yX3_meanPaged yX3_meanPaged, Cond.code yX3_meanPaged cX3_meanPaged 7 (some .long), Cond.methodLink RX3 41 yX3_isCutBehind, Cond.instanceMethod yX3_isCutBehind, Cond.selects RX3 yX3_isCutBehind yX3_isCutBehind, Cond.code yX3_isCutBehind cX3_isCutBehind 3 (some .boolean), Cond.methodLink RX7 178 yX3_cellsOf, Cond.instanceMethod yX3_cellsOf, Cond.selects RX3 yX3_cellsOf yX3_cellsOf, Cond.code yX3_cellsOf cX3_cellsOf 5 (some .int), Cond.methodLink RX7 182 yJ6_bitCount_0f7a4, Cond.methodLink RX7 190 yX7_holds]
def wsX7_page_r5 : List Cond := [Cond.methodLink RX7 120 yX2_keep, Cond.instanceMethod yX2_keep, Cond.selects RX2 yX2_keep yX2_keep, Cond.initialized RX2, Cond.code yX2_keep cX2_keep 2 none, Cond.fieldLink RX2 11 "RingPages$Past" "kept" "[LRingPages$State;", Cond.fieldLink RX2 18 "RingPages$Past" "next" "I", Cond.fieldLink RX2 26 "RingPages$Past" "held" "I", Cond.methodLink RX2 29 Lib.Math.min.name, Cond.methodLink RX2 22 yX4_copyFrom, Cond.instanceMethod yX4_copyFrom, Cond.selects RX4 yX4_copyFrom yX4_copyFrom, Cond.code yX4_copyFrom cX4_copyFrom 2 none, Cond.fieldLink RX4 9 "RingPages$State" "stay" "[I", Cond.methodLink RX4 37 arraycopyName, Cond.native arraycopyName, Cond.static arraycopyName, Cond.initialized "java/lang/System", Cond.fieldLink RX4 25 "RingPages$State" "cell" "I", Cond.fieldLink RX4 46 "RingPages$State" "moves" "I", Cond.fieldLink RX4 49 "RingPages$State" "ticks" "I", Cond.fieldLink RX4 28 "RingPages$State" "updates" "I", Cond.fieldLink RX4 31 "RingPages$State" "paged" "I", Cond.methodLink RX7 124 yX4_register]
def wsX7_page_r6 : List Cond := [Cond.instanceMethod yX4_register, Cond.selects RX4 yX4_register yX4_register, Cond.code yX4_register cX4_register 1 none]
def wsX7_page : List Cond := .code yX7_page cX7_page 4 (some .int) :: ((wsX7_page_r1 ++ (wsX7_page_r2 ++ (wsX7_page_r3 ++ (wsX7_page_r4 ++ (wsX7_page_r5 ++ wsX7_page_r6))))) ++ wsX70 ++ wsX30 ++ wsX40 ++ wsX00 ++ wsX10 ++ wsX60 ++ wsX20)
def wsX7_handset : List Cond := .code yX7_handset cX7_handset 2 (some .int) :: ([.fieldLink RX7 58 "RingPages" "state" "LRingPages$State;", .fieldLink RX7 187 "RingPages$State" "cell" "I", .fieldLink RX7 196 "RingPages$State" "home" "I", .fieldLink RX7 199 "RingPages$State" "moves" "I", .fieldLink RX7 202 "RingPages$State" "ticks" "I", .fieldLink RX7 205 "RingPages$State" "updates" "I", .fieldLink RX7 193 "RingPages$State" "paged" "I", .fieldLink RX7 54 "RingPages" "net" "LRingPages$Net;", .fieldLink RX7 208 "RingPages$Net" "pageCost" "I", .fieldLink RX7 211 "RingPages$Net" "updateCost" "I"] ++ wsX70 ++ wsX40 ++ wsX10)
def wsX7_where_r1 : List Cond := [Cond.fieldLink RX7 33 "RingPages" "whereabouts" "LRingPages$Whereabouts;", Cond.fieldLink RX7 54 "RingPages" "net" "LRingPages$Net;", Cond.fieldLink RX7 58 "RingPages" "state" "LRingPages$State;", Cond.methodLink RX7 214 yX6_find, Cond.instanceMethod yX6_find, Cond.selects RX6 yX6_find yX6_find, Cond.initialized RX6, Cond.code yX6_find cX6_find 8 (some .int), Cond.fieldLink RX6 15 "RingPages$State" "kind" "I", Cond.fieldLink RX6 21 "RingPages$State" "value" "I", Cond.methodLink RX6 24 Lib.Math.min.name, Cond.static Lib.Math.min.name, Cond.initialized "java/lang/Math", Cond.code Lib.Math.min.name Lib.Math.min.code 2 (some .int), Cond.fieldLink RX6 9 "RingPages$Whereabouts" "reached" "[I", Cond.fieldLink RX6 34 "RingPages$State" "home" "I", Cond.fieldLink RX6 37 "RingPages$State" "ticks" "I", Cond.methodLink RX6 30 yX6_insideOf, Cond.instanceMethod yX6_insideOf, Cond.selects RX6 yX6_insideOf yX6_insideOf, Cond.code yX6_insideOf cX6_insideOf 5 (some .int), Cond.fieldLink RX6 44 "RingPages$Net" "cells" "I", Cond.methodLink RX6 49 yX4_isOutside, Cond.instanceMethod yX4_isOutside]
def wsX7_where_r2 : List Cond := [Cond.selects RX4 yX4_isOutside yX4_isOutside, Cond.initialized RX4, Cond.code yX4_isOutside cX4_isOutside 3 (some .boolean), Cond.fieldLink RX4 18 "RingPages$State" "kind" "I", Cond.fieldLink RX4 15 "RingPages$State" "area" "[I", Cond.fieldLink RX4 43 "RingPages$State" "home" "I", Cond.fieldLink RX4 69 "RingPages$Net" "wide" "[[I", Cond.fieldLink RX4 22 "RingPages$State" "value" "I", Cond.methodLink RX6 40 yX6_step, Cond.instanceMethod yX6_step, Cond.selects RX6 yX6_step yX6_step, Cond.code yX6_step cX6_step 9 (some .boolean), Cond.methodLink RX6 53 yX6_movers, Cond.instanceMethod yX6_movers, Cond.selects RX6 yX6_movers yX6_movers, Cond.code yX6_movers cX6_movers 5 (some .int), Cond.fieldLink RX6 68 "RingPages$Net" "near" "[I", Cond.static yX7_holds, Cond.initialized RX7, Cond.code yX7_holds cX7_holds 2 (some .boolean), Cond.methodLink RX6 57 yX6_stayers, Cond.instanceMethod yX6_stayers, Cond.selects RX6 yX6_stayers yX6_stayers, Cond.code yX6_stayers cX6_stayers 6 (some .int)]
def wsX7_where_r3 : List Cond := [Cond.fieldLink RX6 65 "RingPages$State" "stay" "[I"]
def wsX7_where : List Cond := .code yX7_where cX7_where 1 (some .int) :: ((wsX7_where_r1 ++ (wsX7_where_r2 ++ wsX7_where_r3)) ++ wsX70 ++ wsX40 ++ wsX60 ++ wsX10)
def wsX7_round_r1 : List Cond := [Cond.fieldLink RX7 40 "RingPages" "rounds" "LRingPages$Rounds;", Cond.fieldLink RX7 175 "RingPages$Rounds" "many" "I", Cond.methodLink RX7 172 yX7_seek, Cond.instanceMethod yX7_seek, Cond.selects RX7 yX7_seek yX7_seek, Cond.initialized RX7, Cond.code yX7_seek cX7_seek 1 none, Cond.fieldLink RX7 33 "RingPages" "whereabouts" "LRingPages$Whereabouts;", Cond.fieldLink RX7 54 "RingPages" "net" "LRingPages$Net;", Cond.fieldLink RX7 58 "RingPages" "state" "LRingPages$State;", Cond.fieldLink RX7 26 "RingPages" "longRun" "LRingPages$LongRun;", Cond.fieldLink RX7 217 "RingPages$LongRun" "above" "[J", Cond.fieldLink RX7 225 "RingPages$Net" "mostRounds" "I", Cond.methodLink RX7 214 yX6_find, Cond.instanceMethod yX6_find, Cond.selects RX6 yX6_find yX6_find, Cond.initialized RX6, Cond.code yX6_find cX6_find 8 (some .int), Cond.fieldLink RX6 15 "RingPages$State" "kind" "I", Cond.fieldLink RX6 21 "RingPages$State" "value" "I", Cond.methodLink RX6 24 Lib.Math.min.name, Cond.static Lib.Math.min.name, Cond.initialized "java/lang/Math", Cond.code Lib.Math.min.name Lib.Math.min.code 2 (some .int)]
def wsX7_round_r2 : List Cond := [Cond.fieldLink RX6 9 "RingPages$Whereabouts" "reached" "[I", Cond.fieldLink RX6 34 "RingPages$State" "home" "I", Cond.fieldLink RX6 37 "RingPages$State" "ticks" "I", Cond.methodLink RX6 30 yX6_insideOf, Cond.instanceMethod yX6_insideOf, Cond.selects RX6 yX6_insideOf yX6_insideOf, Cond.code yX6_insideOf cX6_insideOf 5 (some .int), Cond.fieldLink RX6 44 "RingPages$Net" "cells" "I", Cond.methodLink RX6 49 yX4_isOutside, Cond.instanceMethod yX4_isOutside, Cond.selects RX4 yX4_isOutside yX4_isOutside, Cond.initialized RX4, Cond.code yX4_isOutside cX4_isOutside 3 (some .boolean), Cond.fieldLink RX4 18 "RingPages$State" "kind" "I", Cond.fieldLink RX4 15 "RingPages$State" "area" "[I", Cond.fieldLink RX4 43 "RingPages$State" "home" "I", Cond.fieldLink RX4 69 "RingPages$Net" "wide" "[[I", Cond.fieldLink RX4 22 "RingPages$State" "value" "I", Cond.methodLink RX6 40 yX6_step, Cond.instanceMethod yX6_step, Cond.selects RX6 yX6_step yX6_step, Cond.code yX6_step cX6_step 9 (some .boolean), Cond.methodLink RX6 53 yX6_movers, Cond.instanceMethod yX6_movers]
def wsX7_round_r3 : List Cond := [Cond.selects RX6 yX6_movers yX6_movers, Cond.code yX6_movers cX6_movers 5 (some .int), Cond.fieldLink RX6 68 "RingPages$Net" "near" "[I", Cond.static yX7_holds, Cond.code yX7_holds cX7_holds 2 (some .boolean), Cond.methodLink RX6 57 yX6_stayers, Cond.instanceMethod yX6_stayers, Cond.selects RX6 yX6_stayers yX6_stayers, Cond.code yX6_stayers cX6_stayers 6 (some .int), Cond.fieldLink RX6 65 "RingPages$State" "stay" "[I", Cond.methodLink RX7 221 yX3_lineUp, Cond.instanceMethod yX3_lineUp, Cond.selects RX3 yX3_lineUp yX3_lineUp, Cond.initialized RX3, Cond.code yX3_lineUp cX3_lineUp 5 none, Cond.fieldLink RX3 15 "RingPages$Rounds" "length" "I", Cond.fieldLink RX3 9 "RingPages$Rounds" "row" "[I", Cond.methodLink RX7 228 yX3_split, Cond.instanceMethod yX3_split, Cond.selects RX3 yX3_split yX3_split, Cond.code yX3_split cX3_split 10 none, Cond.constantLong RX3 23 (-1), Cond.fieldLink RX3 25 "RingPages$Rounds" "many" "I", Cond.fieldLink RX3 28 "RingPages$Rounds" "cuts" "I"]
def wsX7_round_r4 : List Cond := [Cond.methodLink RX3 31 yJ6_bitCount_0f7a4, Cond.static yJ6_bitCount_0f7a4, Cond.initialized RJ6, Cond.code yJ6_bitCount_0f7a4 cJ6_bitCount_0f7a4 1 (some .int), Cond.constant RJ6 265 (1431655765), Cond.constant RJ6 266 (858993459), Cond.constant RJ6 267 (252645135), Cond.methodLink RX3 37 yX3_meanPaged, Cond.instanceMethod yX3_meanPaged, Cond.selects RX3 yX3_meanPaged yX3_meanPaged, Cond.code yX3_meanPaged cX3_meanPaged 7 (some .long), Cond.methodLink RX3 41 yX3_isCutBehind, Cond.instanceMethod yX3_isCutBehind, Cond.selects RX3 yX3_isCutBehind yX3_isCutBehind, Cond.code yX3_isCutBehind cX3_isCutBehind 3 (some .boolean), Cond.methodLink RX7 178 yX3_cellsOf, Cond.instanceMethod yX3_cellsOf, Cond.selects RX3 yX3_cellsOf yX3_cellsOf, Cond.code yX3_cellsOf cX3_cellsOf 5 (some .int)]
def wsX7_round : List Cond := .code yX7_round cX7_round 2 (some .int) :: ((wsX7_round_r1 ++ (wsX7_round_r2 ++ (wsX7_round_r3 ++ wsX7_round_r4))) ++ wsX70 ++ wsX30 ++ wsX00 ++ wsX10 ++ wsX40 ++ wsX60)
def wsX7_isPart : List Cond := .code yX7_isPart cX7_isPart 1 (some .boolean) :: ([])
def wsX7_greatestShared : List Cond := .code yX7_greatestShared cX7_greatestShared 7 (some .long) :: ([])
def wsX7_lowest : List Cond := .code yX7_lowest cX7_lowest 7 (some .long) :: ([.methodLink RX7 289 yX7_greatestShared, .static yX7_greatestShared, .initialized RX7, .code yX7_greatestShared cX7_greatestShared 7 (some .long)])
def wsX7_chance : List Cond := .code yX7_chance cX7_chance 3 (some .long) :: ([.constantLong RX7 234 (-1), .fieldLink RX7 26 "RingPages" "longRun" "LRingPages$LongRun;", .fieldLink RX7 217 "RingPages$LongRun" "above" "[J", .fieldLink RX7 236 "RingPages$LongRun" "below" "J", .methodLink RX7 110 yX7_isCell, .instanceMethod yX7_isCell, .selects RX7 yX7_isCell yX7_isCell, .initialized RX7, .code yX7_isCell cX7_isCell 2 (some .boolean), .fieldLink RX7 54 "RingPages" "net" "LRingPages$Net;", .fieldLink RX7 94 "RingPages$Net" "cells" "I", .methodLink RX7 231 yX7_isPart, .static yX7_isPart, .code yX7_isPart cX7_isPart 1 (some .boolean), .methodLink RX7 240 yX7_lowest, .static yX7_lowest, .code yX7_lowest cX7_lowest 7 (some .long), .methodLink RX7 289 yX7_greatestShared, .static yX7_greatestShared, .code yX7_greatestShared cX7_greatestShared 7 (some .long)] ++ wsX70 ++ wsX00 ++ wsX10)
def wsX7_rate_r1 : List Cond := [Cond.fieldLink RX7 58 "RingPages" "state" "LRingPages$State;", Cond.fieldLink RX7 131 "RingPages$State" "kind" "I", Cond.fieldLink RX7 26 "RingPages" "longRun" "LRingPages$LongRun;", Cond.fieldLink RX7 54 "RingPages" "net" "LRingPages$Net;", Cond.fieldLink RX7 117 "RingPages$State" "area" "[I", Cond.fieldLink RX7 236 "RingPages$LongRun" "below" "J", Cond.fieldLink RX7 134 "RingPages$State" "value" "I", Cond.constantLong RX7 261 (-4), Cond.methodLink RX7 244 yX0_crosses, Cond.instanceMethod yX0_crosses, Cond.selects RX0 yX0_crosses yX0_crosses, Cond.initialized RX0, Cond.code yX0_crosses cX0_crosses 7 (some .long), Cond.fieldLink RX0 26 "RingPages$Net" "cells" "I", Cond.fieldLink RX0 40 "RingPages$Net" "trees" "[J", Cond.fieldLink RX0 47 "RingPages$Net" "weight" "[[I", Cond.methodLink RX7 240 yX7_lowest, Cond.static yX7_lowest, Cond.initialized RX7, Cond.code yX7_lowest cX7_lowest 7 (some .long), Cond.methodLink RX7 289 yX7_greatestShared, Cond.static yX7_greatestShared, Cond.code yX7_greatestShared cX7_greatestShared 7 (some .long), Cond.methodLink RX7 248 yX0_movesOn]
def wsX7_rate_r2 : List Cond := [Cond.instanceMethod yX0_movesOn, Cond.selects RX0 yX0_movesOn yX0_movesOn, Cond.code yX0_movesOn cX0_movesOn 5 (some .long), Cond.fieldLink RX0 37 "RingPages$Net" "out" "[I"]
def wsX7_rate : List Cond := .code yX7_rate cX7_rate 2 (some .long) :: ((wsX7_rate_r1 ++ wsX7_rate_r2) ++ wsX70 ++ wsX40 ++ wsX00 ++ wsX10)
def wsX7_mean_r1 : List Cond := [Cond.constantLong RX7 234 (-1), Cond.fieldLink RX7 26 "RingPages" "longRun" "LRingPages$LongRun;", Cond.fieldLink RX7 54 "RingPages" "net" "LRingPages$Net;", Cond.fieldLink RX7 58 "RingPages" "state" "LRingPages$State;", Cond.fieldLink RX7 117 "RingPages$State" "area" "[I", Cond.fieldLink RX7 236 "RingPages$LongRun" "below" "J", Cond.constantLong RX7 259 (100), Cond.methodLink RX7 231 yX7_isPart, Cond.static yX7_isPart, Cond.initialized RX7, Cond.code yX7_isPart cX7_isPart 1 (some .boolean), Cond.methodLink RX7 244 yX0_crosses, Cond.instanceMethod yX0_crosses, Cond.selects RX0 yX0_crosses yX0_crosses, Cond.initialized RX0, Cond.code yX0_crosses cX0_crosses 7 (some .long), Cond.fieldLink RX0 26 "RingPages$Net" "cells" "I", Cond.fieldLink RX0 40 "RingPages$Net" "trees" "[J", Cond.fieldLink RX0 47 "RingPages$Net" "weight" "[[I", Cond.methodLink RX7 240 yX7_lowest, Cond.static yX7_lowest, Cond.code yX7_lowest cX7_lowest 7 (some .long), Cond.methodLink RX7 289 yX7_greatestShared, Cond.static yX7_greatestShared]
def wsX7_mean_r2 : List Cond := [Cond.code yX7_greatestShared cX7_greatestShared 7 (some .long), Cond.methodLink RX7 248 yX0_movesOn, Cond.instanceMethod yX0_movesOn, Cond.selects RX0 yX0_movesOn yX0_movesOn, Cond.code yX0_movesOn cX0_movesOn 5 (some .long), Cond.fieldLink RX0 37 "RingPages$Net" "out" "[I", Cond.methodLink RX7 252 yX7_rate, Cond.instanceMethod yX7_rate, Cond.selects RX7 yX7_rate yX7_rate, Cond.code yX7_rate cX7_rate 2 (some .long), Cond.fieldLink RX7 131 "RingPages$State" "kind" "I", Cond.fieldLink RX7 134 "RingPages$State" "value" "I", Cond.constantLong RX7 261 (-4), Cond.methodLink RX7 256 yX0_expense, Cond.instanceMethod yX0_expense, Cond.selects RX0 yX0_expense yX0_expense, Cond.code yX0_expense cX0_expense 6 (some .long), Cond.fieldLink RX0 9 "RingPages$LongRun" "above" "[J", Cond.fieldLink RX0 55 "RingPages$Net" "updateCost" "I", Cond.fieldLink RX0 62 "RingPages$Net" "pageCost" "I", Cond.fieldLink RX0 65 "RingPages$Net" "callChance" "I", Cond.static yX7_sameArea, Cond.code yX7_sameArea cX7_sameArea 5 (some .int), Cond.methodLink RX0 58 yX0_crosses]
def wsX7_mean : List Cond := .code yX7_mean cX7_mean 3 (some .long) :: ((wsX7_mean_r1 ++ wsX7_mean_r2) ++ wsX70 ++ wsX40 ++ wsX00 ++ wsX10)
def wsX7_best_r1 : List Cond := [Cond.fieldLink RX7 26 "RingPages" "longRun" "LRingPages$LongRun;", Cond.fieldLink RX7 54 "RingPages" "net" "LRingPages$Net;", Cond.fieldLink RX7 141 "RingPages$LongRun" "best" "[I", Cond.methodLink RX7 110 yX7_isCell, Cond.instanceMethod yX7_isCell, Cond.selects RX7 yX7_isCell yX7_isCell, Cond.initialized RX7, Cond.code yX7_isCell cX7_isCell 2 (some .boolean), Cond.fieldLink RX7 94 "RingPages$Net" "cells" "I", Cond.methodLink RX7 137 yX0_findBest, Cond.instanceMethod yX0_findBest, Cond.selects RX0 yX0_findBest yX0_findBest, Cond.initialized RX0, Cond.code yX0_findBest cX0_findBest 5 none, Cond.fieldLink RX0 43 "RingPages$LongRun" "bestKnown" "Z", Cond.fieldLink RX0 19 "RingPages$LongRun" "tried" "[I", Cond.fieldLink RX0 26 "RingPages$Net" "cells" "I", Cond.fieldLink RX0 79 "RingPages$LongRun" "leastExpense" "J", Cond.methodLink RX0 68 yX0_expense, Cond.instanceMethod yX0_expense, Cond.selects RX0 yX0_expense yX0_expense, Cond.code yX0_expense cX0_expense 6 (some .long), Cond.fieldLink RX0 9 "RingPages$LongRun" "above" "[J", Cond.fieldLink RX0 55 "RingPages$Net" "updateCost" "I"]
def wsX7_best_r2 : List Cond := [Cond.fieldLink RX0 62 "RingPages$Net" "pageCost" "I", Cond.fieldLink RX0 65 "RingPages$Net" "callChance" "I", Cond.static yX7_sameArea, Cond.code yX7_sameArea cX7_sameArea 5 (some .int), Cond.methodLink RX0 58 yX0_crosses, Cond.instanceMethod yX0_crosses, Cond.selects RX0 yX0_crosses yX0_crosses, Cond.code yX0_crosses cX0_crosses 7 (some .long), Cond.fieldLink RX0 40 "RingPages$Net" "trees" "[J", Cond.fieldLink RX0 47 "RingPages$Net" "weight" "[[I", Cond.methodLink RX0 71 yX0_takeTried, Cond.instanceMethod yX0_takeTried, Cond.selects RX0 yX0_takeTried yX0_takeTried, Cond.code yX0_takeTried cX0_takeTried 3 none, Cond.fieldLink RX0 15 "RingPages$LongRun" "best" "[I", Cond.methodLink RX0 82 arraycopyName, Cond.native arraycopyName, Cond.static arraycopyName, Cond.initialized "java/lang/System", Cond.methodLink RX0 75 yX0_nextTried, Cond.instanceMethod yX0_nextTried, Cond.selects RX0 yX0_nextTried yX0_nextTried, Cond.code yX0_nextTried cX0_nextTried 3 (some .boolean), Cond.methodLink RX0 88 yX0_highestAhead]
def wsX7_best_r3 : List Cond := [Cond.instanceMethod yX0_highestAhead, Cond.selects RX0 yX0_highestAhead yX0_highestAhead, Cond.code yX0_highestAhead cX0_highestAhead 4 (some .int), Cond.methodLink RX0 92 Lib.Math.max.name, Cond.static Lib.Math.max.name, Cond.initialized "java/lang/Math", Cond.code Lib.Math.max.name Lib.Math.max.code 2 (some .int)]
def wsX7_best : List Cond := .code yX7_best cX7_best 2 (some .int) :: ((wsX7_best_r1 ++ (wsX7_best_r2 ++ wsX7_best_r3)) ++ wsX70 ++ wsX00 ++ wsX10)
def wsX7_least_r1 : List Cond := [Cond.constantLong RX7 234 (-1), Cond.fieldLink RX7 26 "RingPages" "longRun" "LRingPages$LongRun;", Cond.fieldLink RX7 54 "RingPages" "net" "LRingPages$Net;", Cond.fieldLink RX7 263 "RingPages$LongRun" "leastExpense" "J", Cond.constantLong RX7 259 (100), Cond.fieldLink RX7 236 "RingPages$LongRun" "below" "J", Cond.methodLink RX7 231 yX7_isPart, Cond.static yX7_isPart, Cond.initialized RX7, Cond.code yX7_isPart cX7_isPart 1 (some .boolean), Cond.methodLink RX7 137 yX0_findBest, Cond.instanceMethod yX0_findBest, Cond.selects RX0 yX0_findBest yX0_findBest, Cond.initialized RX0, Cond.code yX0_findBest cX0_findBest 5 none, Cond.fieldLink RX0 43 "RingPages$LongRun" "bestKnown" "Z", Cond.fieldLink RX0 19 "RingPages$LongRun" "tried" "[I", Cond.fieldLink RX0 26 "RingPages$Net" "cells" "I", Cond.fieldLink RX0 79 "RingPages$LongRun" "leastExpense" "J", Cond.methodLink RX0 68 yX0_expense, Cond.instanceMethod yX0_expense, Cond.selects RX0 yX0_expense yX0_expense, Cond.code yX0_expense cX0_expense 6 (some .long), Cond.fieldLink RX0 9 "RingPages$LongRun" "above" "[J"]
def wsX7_least_r2 : List Cond := [Cond.fieldLink RX0 55 "RingPages$Net" "updateCost" "I", Cond.fieldLink RX0 62 "RingPages$Net" "pageCost" "I", Cond.fieldLink RX0 65 "RingPages$Net" "callChance" "I", Cond.static yX7_sameArea, Cond.code yX7_sameArea cX7_sameArea 5 (some .int), Cond.methodLink RX0 58 yX0_crosses, Cond.instanceMethod yX0_crosses, Cond.selects RX0 yX0_crosses yX0_crosses, Cond.code yX0_crosses cX0_crosses 7 (some .long), Cond.fieldLink RX0 40 "RingPages$Net" "trees" "[J", Cond.fieldLink RX0 47 "RingPages$Net" "weight" "[[I", Cond.methodLink RX0 71 yX0_takeTried, Cond.instanceMethod yX0_takeTried, Cond.selects RX0 yX0_takeTried yX0_takeTried, Cond.code yX0_takeTried cX0_takeTried 3 none, Cond.fieldLink RX0 15 "RingPages$LongRun" "best" "[I", Cond.methodLink RX0 82 arraycopyName, Cond.native arraycopyName, Cond.static arraycopyName, Cond.initialized "java/lang/System", Cond.methodLink RX0 75 yX0_nextTried, Cond.instanceMethod yX0_nextTried, Cond.selects RX0 yX0_nextTried yX0_nextTried, Cond.code yX0_nextTried cX0_nextTried 3 (some .boolean)]
def wsX7_least_r3 : List Cond := [Cond.methodLink RX0 88 yX0_highestAhead, Cond.instanceMethod yX0_highestAhead, Cond.selects RX0 yX0_highestAhead yX0_highestAhead, Cond.code yX0_highestAhead cX0_highestAhead 4 (some .int), Cond.methodLink RX0 92 Lib.Math.max.name, Cond.static Lib.Math.max.name, Cond.initialized "java/lang/Math", Cond.code Lib.Math.max.name Lib.Math.max.code 2 (some .int), Cond.methodLink RX7 240 yX7_lowest, Cond.static yX7_lowest, Cond.code yX7_lowest cX7_lowest 7 (some .long), Cond.methodLink RX7 289 yX7_greatestShared, Cond.static yX7_greatestShared, Cond.code yX7_greatestShared cX7_greatestShared 7 (some .long)]
def wsX7_least : List Cond := .code yX7_least cX7_least 2 (some .long) :: ((wsX7_least_r1 ++ (wsX7_least_r2 ++ wsX7_least_r3)) ++ wsX70 ++ wsX00 ++ wsX10)
def wsX7_draw : List Cond := .code yX7_draw cX7_draw 4 (some .int) :: ([.constantLong RX7 283 (7919), .constantLong RX7 285 (6151), .constantLong RX7 287 (65521)])
def wsX7_walk_r1 : List Cond := [Cond.fieldLink RX7 47 "RingPages" "walker" "LRingPages$State;", Cond.fieldLink RX7 58 "RingPages" "state" "LRingPages$State;", Cond.fieldLink RX7 54 "RingPages" "net" "LRingPages$Net;", Cond.fieldLink RX7 187 "RingPages$State" "cell" "I", Cond.methodLink RX7 266 yX4_copyFrom, Cond.instanceMethod yX4_copyFrom, Cond.selects RX4 yX4_copyFrom yX4_copyFrom, Cond.initialized RX4, Cond.code yX4_copyFrom cX4_copyFrom 2 none, Cond.fieldLink RX4 9 "RingPages$State" "stay" "[I", Cond.methodLink RX4 37 arraycopyName, Cond.native arraycopyName, Cond.static arraycopyName, Cond.initialized "java/lang/System", Cond.fieldLink RX4 15 "RingPages$State" "area" "[I", Cond.fieldLink RX4 18 "RingPages$State" "kind" "I", Cond.fieldLink RX4 22 "RingPages$State" "value" "I", Cond.fieldLink RX4 25 "RingPages$State" "cell" "I", Cond.fieldLink RX4 43 "RingPages$State" "home" "I", Cond.fieldLink RX4 46 "RingPages$State" "moves" "I", Cond.fieldLink RX4 49 "RingPages$State" "ticks" "I", Cond.fieldLink RX4 28 "RingPages$State" "updates" "I", Cond.fieldLink RX4 31 "RingPages$State" "paged" "I", Cond.methodLink RX7 269 yX7_draw]
def wsX7_walk_r2 : List Cond := [Cond.static yX7_draw, Cond.initialized RX7, Cond.code yX7_draw cX7_draw 4 (some .int), Cond.constantLong RX7 283 (7919), Cond.constantLong RX7 285 (6151), Cond.constantLong RX7 287 (65521), Cond.methodLink RX7 273 yX4_drawnCell, Cond.instanceMethod yX4_drawnCell, Cond.selects RX4 yX4_drawnCell yX4_drawnCell, Cond.code yX4_drawnCell cX4_drawnCell 7 (some .int), Cond.fieldLink RX4 73 "RingPages$Net" "out" "[I", Cond.fieldLink RX4 76 "RingPages$Net" "cells" "I", Cond.fieldLink RX4 79 "RingPages$Net" "weight" "[[I", Cond.methodLink RX7 169 yX4_go, Cond.instanceMethod yX4_go, Cond.selects RX4 yX4_go yX4_go, Cond.code yX4_go cX4_go 3 (some .boolean), Cond.methodLink RX4 61 yX4_isDue, Cond.instanceMethod yX4_isDue, Cond.selects RX4 yX4_isDue yX4_isDue, Cond.code yX4_isDue cX4_isDue 2 (some .boolean), Cond.methodLink RX4 65 yX4_isOutside, Cond.instanceMethod yX4_isOutside, Cond.selects RX4 yX4_isOutside yX4_isOutside]
def wsX7_walk_r3 : List Cond := [Cond.code yX4_isOutside cX4_isOutside 3 (some .boolean), Cond.fieldLink RX4 69 "RingPages$Net" "wide" "[[I", Cond.methodLink RX4 34 yX4_register, Cond.instanceMethod yX4_register, Cond.selects RX4 yX4_register yX4_register, Cond.code yX4_register cX4_register 1 none]
def wsX7_walk : List Cond := .code yX7_walk cX7_walk 8 (some .int) :: ((wsX7_walk_r1 ++ (wsX7_walk_r2 ++ wsX7_walk_r3)) ++ wsX70 ++ wsX40 ++ wsX10)
def wsX7_count : List Cond := .code yX7_count cX7_count 2 (some .int) :: ([.fieldLink RX7 54 "RingPages" "net" "LRingPages$Net;", .fieldLink RX7 94 "RingPages$Net" "cells" "I", .fieldLink RX7 277 "RingPages$Net" "joins" "I", .fieldLink RX7 58 "RingPages" "state" "LRingPages$State;", .fieldLink RX7 131 "RingPages$State" "kind" "I", .fieldLink RX7 134 "RingPages$State" "value" "I", .fieldLink RX7 225 "RingPages$Net" "mostRounds" "I", .fieldLink RX7 208 "RingPages$Net" "pageCost" "I", .fieldLink RX7 211 "RingPages$Net" "updateCost" "I", .fieldLink RX7 280 "RingPages$Net" "callChance" "I", .fieldLink RX7 19 "RingPages" "past" "LRingPages$Past;", .fieldLink RX7 103 "RingPages$Past" "held" "I", .fieldLink RX7 10 "RingPages" "text" "LRingPages$Text;", .fieldLink RX7 87 "RingPages$Text" "length" "I"] ++ wsX70 ++ wsX10 ++ wsX40 ++ wsX20 ++ wsX50)
def wsX8_clears : List Cond := .code yX8_clears cX8_clears 2 none :: ([.fieldLink RX8 62 "RingPagesModel" "readCells" "I", .fieldLink RX8 73 "RingPagesModel" "readJoins" "I", .fieldLink RX8 25 "RingPagesModel" "readWeight" "[I", .fieldLink RX8 31 "RingPagesModel" "read" "[I", .fieldLink RX8 28 "RingPagesModel" "readPrice" "[I"] ++ wsX80)
def wsX8_joinOf : List Cond := .code yX8_joinOf cX8_joinOf 5 none :: ([.fieldLink RX8 25 "RingPagesModel" "readWeight" "[I", .fieldLink RX8 73 "RingPagesModel" "readJoins" "I"] ++ wsX80)
def wsX8_takes : List Cond := .code yX8_takes cX8_takes 2 none :: ([.fieldLink RX8 62 "RingPagesModel" "readCells" "I", .fieldLink RX8 76 "RingPagesModel" "cells" "I", .fieldLink RX8 73 "RingPagesModel" "readJoins" "I", .fieldLink RX8 79 "RingPagesModel" "joins" "I", .fieldLink RX8 13 "RingPagesModel" "weight" "[I", .fieldLink RX8 25 "RingPagesModel" "readWeight" "[I", .fieldLink RX8 19 "RingPagesModel" "now" "[I", .fieldLink RX8 31 "RingPagesModel" "read" "[I", .fieldLink RX8 16 "RingPagesModel" "price" "[I", .fieldLink RX8 28 "RingPagesModel" "readPrice" "[I", .fieldLink RX8 82 "RingPagesModel" "changes" "I"] ++ wsX80)
def wsX8_init_r1 : List Cond := [Cond.methodLink RX8 1 objectInit, Cond.instanceMethod objectInit, Cond.code objectInit ⟨#[0xb1]⟩ 1 none, Cond.arrayClass .int, Cond.fieldLink RX8 7 "RingPagesModel" "text" "[I", Cond.fieldLink RX8 13 "RingPagesModel" "weight" "[I", Cond.fieldLink RX8 16 "RingPagesModel" "price" "[I", Cond.fieldLink RX8 19 "RingPagesModel" "now" "[I", Cond.fieldLink RX8 22 "RingPagesModel" "was" "[I", Cond.fieldLink RX8 25 "RingPagesModel" "readWeight" "[I", Cond.fieldLink RX8 28 "RingPagesModel" "readPrice" "[I", Cond.fieldLink RX8 31 "RingPagesModel" "read" "[I", Cond.fieldLink RX8 34 "RingPagesModel" "can" "[I", Cond.fieldLink RX8 37 "RingPagesModel" "next" "[I", Cond.arrayClass .long, Cond.fieldLink RX8 40 "RingPagesModel" "trees" "[J", Cond.fieldLink RX8 44 "RingPagesModel" "table" "[J", Cond.fieldLink RX8 47 "RingPagesModel" "tried" "[I", Cond.fieldLink RX8 50 "RingPagesModel" "best" "[I", Cond.fieldLink RX8 53 "RingPagesModel" "row" "[I", Cond.fieldLink RX8 56 "RingPagesModel" "walker" "[I", Cond.fieldLink RX8 62 "RingPagesModel" "readCells" "I", Cond.methodLink RX8 59 yX8_clears, Cond.instanceMethod yX8_clears]
def wsX8_init_r2 : List Cond := [Cond.selects RX8 yX8_clears yX8_clears, Cond.initialized RX8, Cond.code yX8_clears cX8_clears 2 none, Cond.fieldLink RX8 73 "RingPagesModel" "readJoins" "I", Cond.methodLink RX8 66 yX8_joinOf, Cond.instanceMethod yX8_joinOf, Cond.selects RX8 yX8_joinOf yX8_joinOf, Cond.code yX8_joinOf cX8_joinOf 5 none, Cond.methodLink RX8 70 yX8_takes, Cond.instanceMethod yX8_takes, Cond.selects RX8 yX8_takes yX8_takes, Cond.code yX8_takes cX8_takes 2 none, Cond.fieldLink RX8 76 "RingPagesModel" "cells" "I", Cond.fieldLink RX8 79 "RingPagesModel" "joins" "I", Cond.fieldLink RX8 82 "RingPagesModel" "changes" "I"]
def wsX8_init : List Cond := .code yX8_init cX8_init 1 none :: ((wsX8_init_r1 ++ wsX8_init_r2) ++ wsX80)
def wsX8_isIn : List Cond := .code yX8_isIn cX8_isIn 3 (some .boolean) :: ([])
def wsX8_letterAt : List Cond := .code yX8_letterAt cX8_letterAt 2 (some .int) :: ([.fieldLink RX8 85 "RingPagesModel" "length" "I", .fieldLink RX8 7 "RingPagesModel" "text" "[I"] ++ wsX80)
def wsX8_number : List Cond := .code yX8_number cX8_number 4 (some .boolean) :: ([.fieldLink RX8 88 "RingPagesModel" "value" "I", .fieldLink RX8 91 "RingPagesModel" "ends" "I", .fieldLink RX8 7 "RingPagesModel" "text" "[I", .methodLink RX8 94 yX8_letterAt, .instanceMethod yX8_letterAt, .selects RX8 yX8_letterAt yX8_letterAt, .initialized RX8, .code yX8_letterAt cX8_letterAt 2 (some .int), .fieldLink RX8 85 "RingPagesModel" "length" "I", .methodLink RX8 98 yX8_isIn, .static yX8_isIn, .code yX8_isIn cX8_isIn 3 (some .boolean)] ++ wsX80)
def wsX8_more : List Cond := .code yX8_more cX8_more 3 (some .boolean) :: ([.fieldLink RX8 91 "RingPagesModel" "ends" "I", .methodLink RX8 94 yX8_letterAt, .instanceMethod yX8_letterAt, .selects RX8 yX8_letterAt yX8_letterAt, .initialized RX8, .code yX8_letterAt cX8_letterAt 2 (some .int), .fieldLink RX8 85 "RingPagesModel" "length" "I", .fieldLink RX8 7 "RingPagesModel" "text" "[I", .methodLink RX8 102 yX8_number, .instanceMethod yX8_number, .selects RX8 yX8_number yX8_number, .code yX8_number cX8_number 4 (some .boolean), .fieldLink RX8 88 "RingPagesModel" "value" "I", .methodLink RX8 98 yX8_isIn, .static yX8_isIn, .code yX8_isIn cX8_isIn 3 (some .boolean)] ++ wsX80)
def wsX8_readsJoin_r1 : List Cond := [Cond.fieldLink RX8 62 "RingPagesModel" "readCells" "I", Cond.fieldLink RX8 88 "RingPagesModel" "value" "I", Cond.fieldLink RX8 25 "RingPagesModel" "readWeight" "[I", Cond.methodLink RX8 102 yX8_number, Cond.instanceMethod yX8_number, Cond.selects RX8 yX8_number yX8_number, Cond.initialized RX8, Cond.code yX8_number cX8_number 4 (some .boolean), Cond.fieldLink RX8 91 "RingPagesModel" "ends" "I", Cond.fieldLink RX8 7 "RingPagesModel" "text" "[I", Cond.methodLink RX8 94 yX8_letterAt, Cond.instanceMethod yX8_letterAt, Cond.selects RX8 yX8_letterAt yX8_letterAt, Cond.code yX8_letterAt cX8_letterAt 2 (some .int), Cond.fieldLink RX8 85 "RingPagesModel" "length" "I", Cond.methodLink RX8 98 yX8_isIn, Cond.static yX8_isIn, Cond.code yX8_isIn cX8_isIn 3 (some .boolean), Cond.methodLink RX8 105 yX8_more, Cond.instanceMethod yX8_more, Cond.selects RX8 yX8_more yX8_more, Cond.code yX8_more cX8_more 3 (some .boolean), Cond.methodLink RX8 66 yX8_joinOf, Cond.instanceMethod yX8_joinOf]
def wsX8_readsJoin_r2 : List Cond := [Cond.selects RX8 yX8_joinOf yX8_joinOf, Cond.code yX8_joinOf cX8_joinOf 5 none, Cond.fieldLink RX8 73 "RingPagesModel" "readJoins" "I"]
def wsX8_readsJoin : List Cond := .code yX8_readsJoin cX8_readsJoin 5 (some .boolean) :: ((wsX8_readsJoin_r1 ++ wsX8_readsJoin_r2) ++ wsX80)
def wsX8_readsCell : List Cond := .code yX8_readsCell cX8_readsCell 5 (some .boolean) :: ([.fieldLink RX8 62 "RingPagesModel" "readCells" "I", .fieldLink RX8 88 "RingPagesModel" "value" "I", .fieldLink RX8 31 "RingPagesModel" "read" "[I", .methodLink RX8 102 yX8_number, .instanceMethod yX8_number, .selects RX8 yX8_number yX8_number, .initialized RX8, .code yX8_number cX8_number 4 (some .boolean), .fieldLink RX8 91 "RingPagesModel" "ends" "I", .fieldLink RX8 7 "RingPagesModel" "text" "[I", .methodLink RX8 94 yX8_letterAt, .instanceMethod yX8_letterAt, .selects RX8 yX8_letterAt yX8_letterAt, .code yX8_letterAt cX8_letterAt 2 (some .int), .fieldLink RX8 85 "RingPagesModel" "length" "I", .methodLink RX8 98 yX8_isIn, .static yX8_isIn, .code yX8_isIn cX8_isIn 3 (some .boolean), .methodLink RX8 105 yX8_more, .instanceMethod yX8_more, .selects RX8 yX8_more yX8_more, .code yX8_more cX8_more 3 (some .boolean)] ++ wsX80)
def wsX8_isLaw : List Cond := .code yX8_isLaw cX8_isLaw 2 (some .boolean) :: ([.methodLink RX8 98 yX8_isIn, .static yX8_isIn, .initialized RX8, .code yX8_isIn cX8_isIn 3 (some .boolean)])
def wsX8_readsLaw : List Cond := .code yX8_readsLaw cX8_readsLaw 4 (some .boolean) :: ([.fieldLink RX8 88 "RingPagesModel" "value" "I", .fieldLink RX8 31 "RingPagesModel" "read" "[I", .methodLink RX8 102 yX8_number, .instanceMethod yX8_number, .selects RX8 yX8_number yX8_number, .initialized RX8, .code yX8_number cX8_number 4 (some .boolean), .fieldLink RX8 91 "RingPagesModel" "ends" "I", .fieldLink RX8 7 "RingPagesModel" "text" "[I", .methodLink RX8 94 yX8_letterAt, .instanceMethod yX8_letterAt, .selects RX8 yX8_letterAt yX8_letterAt, .code yX8_letterAt cX8_letterAt 2 (some .int), .fieldLink RX8 85 "RingPagesModel" "length" "I", .methodLink RX8 98 yX8_isIn, .static yX8_isIn, .code yX8_isIn cX8_isIn 3 (some .boolean), .methodLink RX8 105 yX8_more, .instanceMethod yX8_more, .selects RX8 yX8_more yX8_more, .code yX8_more cX8_more 3 (some .boolean), .methodLink RX8 109 yX8_isLaw, .static yX8_isLaw, .code yX8_isLaw cX8_isLaw 2 (some .boolean)] ++ wsX80)
def wsX8_readsPrice : List Cond := .code yX8_readsPrice cX8_readsPrice 5 (some .boolean) :: ([.fieldLink RX8 28 "RingPagesModel" "readPrice" "[I", .fieldLink RX8 88 "RingPagesModel" "value" "I", .methodLink RX8 102 yX8_number, .instanceMethod yX8_number, .selects RX8 yX8_number yX8_number, .initialized RX8, .code yX8_number cX8_number 4 (some .boolean), .fieldLink RX8 91 "RingPagesModel" "ends" "I", .fieldLink RX8 7 "RingPagesModel" "text" "[I", .methodLink RX8 94 yX8_letterAt, .instanceMethod yX8_letterAt, .selects RX8 yX8_letterAt yX8_letterAt, .code yX8_letterAt cX8_letterAt 2 (some .int), .fieldLink RX8 85 "RingPagesModel" "length" "I", .methodLink RX8 98 yX8_isIn, .static yX8_isIn, .code yX8_isIn cX8_isIn 3 (some .boolean), .methodLink RX8 105 yX8_more, .instanceMethod yX8_more, .selects RX8 yX8_more yX8_more, .code yX8_more cX8_more 3 (some .boolean)] ++ wsX80)
def wsX8_readsItem_r1 : List Cond := [Cond.fieldLink RX8 88 "RingPagesModel" "value" "I", Cond.fieldLink RX8 62 "RingPagesModel" "readCells" "I", Cond.methodLink RX8 102 yX8_number, Cond.instanceMethod yX8_number, Cond.selects RX8 yX8_number yX8_number, Cond.initialized RX8, Cond.code yX8_number cX8_number 4 (some .boolean), Cond.fieldLink RX8 91 "RingPagesModel" "ends" "I", Cond.fieldLink RX8 7 "RingPagesModel" "text" "[I", Cond.methodLink RX8 94 yX8_letterAt, Cond.instanceMethod yX8_letterAt, Cond.selects RX8 yX8_letterAt yX8_letterAt, Cond.code yX8_letterAt cX8_letterAt 2 (some .int), Cond.fieldLink RX8 85 "RingPagesModel" "length" "I", Cond.methodLink RX8 98 yX8_isIn, Cond.static yX8_isIn, Cond.code yX8_isIn cX8_isIn 3 (some .boolean), Cond.methodLink RX8 112 yX8_readsJoin, Cond.instanceMethod yX8_readsJoin, Cond.selects RX8 yX8_readsJoin yX8_readsJoin, Cond.code yX8_readsJoin cX8_readsJoin 5 (some .boolean), Cond.fieldLink RX8 25 "RingPagesModel" "readWeight" "[I", Cond.methodLink RX8 105 yX8_more, Cond.instanceMethod yX8_more]
def wsX8_readsItem_r2 : List Cond := [Cond.selects RX8 yX8_more yX8_more, Cond.code yX8_more cX8_more 3 (some .boolean), Cond.methodLink RX8 66 yX8_joinOf, Cond.instanceMethod yX8_joinOf, Cond.selects RX8 yX8_joinOf yX8_joinOf, Cond.code yX8_joinOf cX8_joinOf 5 none, Cond.fieldLink RX8 73 "RingPagesModel" "readJoins" "I", Cond.methodLink RX8 116 yX8_readsCell, Cond.instanceMethod yX8_readsCell, Cond.selects RX8 yX8_readsCell yX8_readsCell, Cond.code yX8_readsCell cX8_readsCell 5 (some .boolean), Cond.fieldLink RX8 31 "RingPagesModel" "read" "[I", Cond.methodLink RX8 119 yX8_readsLaw, Cond.instanceMethod yX8_readsLaw, Cond.selects RX8 yX8_readsLaw yX8_readsLaw, Cond.code yX8_readsLaw cX8_readsLaw 4 (some .boolean), Cond.methodLink RX8 109 yX8_isLaw, Cond.static yX8_isLaw, Cond.code yX8_isLaw cX8_isLaw 2 (some .boolean), Cond.methodLink RX8 122 yX8_readsPrice, Cond.instanceMethod yX8_readsPrice, Cond.selects RX8 yX8_readsPrice yX8_readsPrice, Cond.code yX8_readsPrice cX8_readsPrice 5 (some .boolean), Cond.fieldLink RX8 28 "RingPagesModel" "readPrice" "[I"]
def wsX8_readsItem : List Cond := .code yX8_readsItem cX8_readsItem 4 (some .boolean) :: ((wsX8_readsItem_r1 ++ wsX8_readsItem_r2) ++ wsX80)
def wsX8_reads_r1 : List Cond := [Cond.fieldLink RX8 85 "RingPagesModel" "length" "I", Cond.fieldLink RX8 7 "RingPagesModel" "text" "[I", Cond.fieldLink RX8 91 "RingPagesModel" "ends" "I", Cond.methodLink RX8 59 yX8_clears, Cond.instanceMethod yX8_clears, Cond.selects RX8 yX8_clears yX8_clears, Cond.initialized RX8, Cond.code yX8_clears cX8_clears 2 none, Cond.fieldLink RX8 62 "RingPagesModel" "readCells" "I", Cond.fieldLink RX8 73 "RingPagesModel" "readJoins" "I", Cond.fieldLink RX8 25 "RingPagesModel" "readWeight" "[I", Cond.fieldLink RX8 31 "RingPagesModel" "read" "[I", Cond.fieldLink RX8 28 "RingPagesModel" "readPrice" "[I", Cond.methodLink RX8 125 yX8_readsItem, Cond.instanceMethod yX8_readsItem, Cond.selects RX8 yX8_readsItem yX8_readsItem, Cond.code yX8_readsItem cX8_readsItem 4 (some .boolean), Cond.fieldLink RX8 88 "RingPagesModel" "value" "I", Cond.methodLink RX8 102 yX8_number, Cond.instanceMethod yX8_number, Cond.selects RX8 yX8_number yX8_number, Cond.code yX8_number cX8_number 4 (some .boolean), Cond.methodLink RX8 94 yX8_letterAt, Cond.instanceMethod yX8_letterAt]
def wsX8_reads_r2 : List Cond := [Cond.selects RX8 yX8_letterAt yX8_letterAt, Cond.code yX8_letterAt cX8_letterAt 2 (some .int), Cond.methodLink RX8 98 yX8_isIn, Cond.static yX8_isIn, Cond.code yX8_isIn cX8_isIn 3 (some .boolean), Cond.methodLink RX8 112 yX8_readsJoin, Cond.instanceMethod yX8_readsJoin, Cond.selects RX8 yX8_readsJoin yX8_readsJoin, Cond.code yX8_readsJoin cX8_readsJoin 5 (some .boolean), Cond.methodLink RX8 105 yX8_more, Cond.instanceMethod yX8_more, Cond.selects RX8 yX8_more yX8_more, Cond.code yX8_more cX8_more 3 (some .boolean), Cond.methodLink RX8 66 yX8_joinOf, Cond.instanceMethod yX8_joinOf, Cond.selects RX8 yX8_joinOf yX8_joinOf, Cond.code yX8_joinOf cX8_joinOf 5 none, Cond.methodLink RX8 116 yX8_readsCell, Cond.instanceMethod yX8_readsCell, Cond.selects RX8 yX8_readsCell yX8_readsCell, Cond.code yX8_readsCell cX8_readsCell 5 (some .boolean), Cond.methodLink RX8 119 yX8_readsLaw, Cond.instanceMethod yX8_readsLaw, Cond.selects RX8 yX8_readsLaw yX8_readsLaw]
def wsX8_reads_r3 : List Cond := [Cond.code yX8_readsLaw cX8_readsLaw 4 (some .boolean), Cond.methodLink RX8 109 yX8_isLaw, Cond.static yX8_isLaw, Cond.code yX8_isLaw cX8_isLaw 2 (some .boolean), Cond.methodLink RX8 122 yX8_readsPrice, Cond.instanceMethod yX8_readsPrice, Cond.selects RX8 yX8_readsPrice yX8_readsPrice, Cond.code yX8_readsPrice cX8_readsPrice 5 (some .boolean)]
def wsX8_reads : List Cond := .code yX8_reads cX8_reads 2 (some .int) :: ((wsX8_reads_r1 ++ (wsX8_reads_r2 ++ wsX8_reads_r3)) ++ wsX80)
def wsX8_hang : List Cond := .code yX8_hang cX8_hang 4 (some .boolean) :: ([.fieldLink RX8 62 "RingPagesModel" "readCells" "I", .fieldLink RX8 25 "RingPagesModel" "readWeight" "[I"] ++ wsX80)
def wsX8_write : List Cond := .code yX8_write cX8_write 2 (some .int) :: ([.fieldLink RX8 85 "RingPagesModel" "length" "I", .fieldLink RX8 7 "RingPagesModel" "text" "[I"] ++ wsX80)
def wsX8_wipe : List Cond := .code yX8_wipe cX8_wipe 2 (some .int) :: ([.fieldLink RX8 85 "RingPagesModel" "length" "I"] ++ wsX80)
def wsX8_fault_r1 : List Cond := [Cond.methodLink RX8 128 yX8_reads, Cond.instanceMethod yX8_reads, Cond.selects RX8 yX8_reads yX8_reads, Cond.initialized RX8, Cond.code yX8_reads cX8_reads 2 (some .int), Cond.fieldLink RX8 85 "RingPagesModel" "length" "I", Cond.fieldLink RX8 7 "RingPagesModel" "text" "[I", Cond.fieldLink RX8 91 "RingPagesModel" "ends" "I", Cond.methodLink RX8 59 yX8_clears, Cond.instanceMethod yX8_clears, Cond.selects RX8 yX8_clears yX8_clears, Cond.code yX8_clears cX8_clears 2 none, Cond.fieldLink RX8 62 "RingPagesModel" "readCells" "I", Cond.fieldLink RX8 73 "RingPagesModel" "readJoins" "I", Cond.fieldLink RX8 25 "RingPagesModel" "readWeight" "[I", Cond.fieldLink RX8 31 "RingPagesModel" "read" "[I", Cond.fieldLink RX8 28 "RingPagesModel" "readPrice" "[I", Cond.methodLink RX8 125 yX8_readsItem, Cond.instanceMethod yX8_readsItem, Cond.selects RX8 yX8_readsItem yX8_readsItem, Cond.code yX8_readsItem cX8_readsItem 4 (some .boolean), Cond.fieldLink RX8 88 "RingPagesModel" "value" "I", Cond.methodLink RX8 102 yX8_number, Cond.instanceMethod yX8_number]
def wsX8_fault_r2 : List Cond := [Cond.selects RX8 yX8_number yX8_number, Cond.code yX8_number cX8_number 4 (some .boolean), Cond.methodLink RX8 94 yX8_letterAt, Cond.instanceMethod yX8_letterAt, Cond.selects RX8 yX8_letterAt yX8_letterAt, Cond.code yX8_letterAt cX8_letterAt 2 (some .int), Cond.methodLink RX8 98 yX8_isIn, Cond.static yX8_isIn, Cond.code yX8_isIn cX8_isIn 3 (some .boolean), Cond.methodLink RX8 112 yX8_readsJoin, Cond.instanceMethod yX8_readsJoin, Cond.selects RX8 yX8_readsJoin yX8_readsJoin, Cond.code yX8_readsJoin cX8_readsJoin 5 (some .boolean), Cond.methodLink RX8 105 yX8_more, Cond.instanceMethod yX8_more, Cond.selects RX8 yX8_more yX8_more, Cond.code yX8_more cX8_more 3 (some .boolean), Cond.methodLink RX8 66 yX8_joinOf, Cond.instanceMethod yX8_joinOf, Cond.selects RX8 yX8_joinOf yX8_joinOf, Cond.code yX8_joinOf cX8_joinOf 5 none, Cond.methodLink RX8 116 yX8_readsCell, Cond.instanceMethod yX8_readsCell, Cond.selects RX8 yX8_readsCell yX8_readsCell]
def wsX8_fault_r3 : List Cond := [Cond.code yX8_readsCell cX8_readsCell 5 (some .boolean), Cond.methodLink RX8 119 yX8_readsLaw, Cond.instanceMethod yX8_readsLaw, Cond.selects RX8 yX8_readsLaw yX8_readsLaw, Cond.code yX8_readsLaw cX8_readsLaw 4 (some .boolean), Cond.methodLink RX8 109 yX8_isLaw, Cond.static yX8_isLaw, Cond.code yX8_isLaw cX8_isLaw 2 (some .boolean), Cond.methodLink RX8 122 yX8_readsPrice, Cond.instanceMethod yX8_readsPrice, Cond.selects RX8 yX8_readsPrice yX8_readsPrice, Cond.code yX8_readsPrice cX8_readsPrice 5 (some .boolean)]
def wsX8_fault : List Cond := .code yX8_fault cX8_fault 1 (some .int) :: ((wsX8_fault_r1 ++ (wsX8_fault_r2 ++ wsX8_fault_r3)) ++ wsX80)
def wsX8_lay_r1 : List Cond := [Cond.fieldLink RX8 76 "RingPagesModel" "cells" "I", Cond.methodLink RX8 128 yX8_reads, Cond.instanceMethod yX8_reads, Cond.selects RX8 yX8_reads yX8_reads, Cond.initialized RX8, Cond.code yX8_reads cX8_reads 2 (some .int), Cond.fieldLink RX8 85 "RingPagesModel" "length" "I", Cond.fieldLink RX8 7 "RingPagesModel" "text" "[I", Cond.fieldLink RX8 91 "RingPagesModel" "ends" "I", Cond.methodLink RX8 59 yX8_clears, Cond.instanceMethod yX8_clears, Cond.selects RX8 yX8_clears yX8_clears, Cond.code yX8_clears cX8_clears 2 none, Cond.fieldLink RX8 62 "RingPagesModel" "readCells" "I", Cond.fieldLink RX8 73 "RingPagesModel" "readJoins" "I", Cond.fieldLink RX8 25 "RingPagesModel" "readWeight" "[I", Cond.fieldLink RX8 31 "RingPagesModel" "read" "[I", Cond.fieldLink RX8 28 "RingPagesModel" "readPrice" "[I", Cond.methodLink RX8 125 yX8_readsItem, Cond.instanceMethod yX8_readsItem, Cond.selects RX8 yX8_readsItem yX8_readsItem, Cond.code yX8_readsItem cX8_readsItem 4 (some .boolean), Cond.fieldLink RX8 88 "RingPagesModel" "value" "I", Cond.methodLink RX8 102 yX8_number]
def wsX8_lay_r2 : List Cond := [Cond.instanceMethod yX8_number, Cond.selects RX8 yX8_number yX8_number, Cond.code yX8_number cX8_number 4 (some .boolean), Cond.methodLink RX8 94 yX8_letterAt, Cond.instanceMethod yX8_letterAt, Cond.selects RX8 yX8_letterAt yX8_letterAt, Cond.code yX8_letterAt cX8_letterAt 2 (some .int), Cond.methodLink RX8 98 yX8_isIn, Cond.static yX8_isIn, Cond.code yX8_isIn cX8_isIn 3 (some .boolean), Cond.methodLink RX8 112 yX8_readsJoin, Cond.instanceMethod yX8_readsJoin, Cond.selects RX8 yX8_readsJoin yX8_readsJoin, Cond.code yX8_readsJoin cX8_readsJoin 5 (some .boolean), Cond.methodLink RX8 105 yX8_more, Cond.instanceMethod yX8_more, Cond.selects RX8 yX8_more yX8_more, Cond.code yX8_more cX8_more 3 (some .boolean), Cond.methodLink RX8 66 yX8_joinOf, Cond.instanceMethod yX8_joinOf, Cond.selects RX8 yX8_joinOf yX8_joinOf, Cond.code yX8_joinOf cX8_joinOf 5 none, Cond.methodLink RX8 116 yX8_readsCell, Cond.instanceMethod yX8_readsCell]
def wsX8_lay_r3 : List Cond := [Cond.selects RX8 yX8_readsCell yX8_readsCell, Cond.code yX8_readsCell cX8_readsCell 5 (some .boolean), Cond.methodLink RX8 119 yX8_readsLaw, Cond.instanceMethod yX8_readsLaw, Cond.selects RX8 yX8_readsLaw yX8_readsLaw, Cond.code yX8_readsLaw cX8_readsLaw 4 (some .boolean), Cond.methodLink RX8 109 yX8_isLaw, Cond.static yX8_isLaw, Cond.code yX8_isLaw cX8_isLaw 2 (some .boolean), Cond.methodLink RX8 122 yX8_readsPrice, Cond.instanceMethod yX8_readsPrice, Cond.selects RX8 yX8_readsPrice yX8_readsPrice, Cond.code yX8_readsPrice cX8_readsPrice 5 (some .boolean), Cond.methodLink RX8 132 yX8_hang, Cond.instanceMethod yX8_hang, Cond.selects RX8 yX8_hang yX8_hang, Cond.code yX8_hang cX8_hang 4 (some .boolean), Cond.methodLink RX8 70 yX8_takes, Cond.instanceMethod yX8_takes, Cond.selects RX8 yX8_takes yX8_takes, Cond.code yX8_takes cX8_takes 2 none, Cond.fieldLink RX8 79 "RingPagesModel" "joins" "I", Cond.fieldLink RX8 13 "RingPagesModel" "weight" "[I", Cond.fieldLink RX8 19 "RingPagesModel" "now" "[I"]
def wsX8_lay_r4 : List Cond := [Cond.fieldLink RX8 16 "RingPagesModel" "price" "[I", Cond.fieldLink RX8 82 "RingPagesModel" "changes" "I"]
def wsX8_lay : List Cond := .code yX8_lay cX8_lay 1 (some .int) :: ((wsX8_lay_r1 ++ (wsX8_lay_r2 ++ (wsX8_lay_r3 ++ wsX8_lay_r4))) ++ wsX80)
def wsX8_keeps : List Cond := .code yX8_keeps cX8_keeps 2 none :: ([.fieldLink RX8 82 "RingPagesModel" "changes" "I", .fieldLink RX8 22 "RingPagesModel" "was" "[I", .fieldLink RX8 19 "RingPagesModel" "now" "[I"] ++ wsX80)
def wsX8_undo : List Cond := .code yX8_undo cX8_undo 2 (some .int) :: ([.fieldLink RX8 82 "RingPagesModel" "changes" "I", .fieldLink RX8 19 "RingPagesModel" "now" "[I", .fieldLink RX8 22 "RingPagesModel" "was" "[I"] ++ wsX80)
def wsX8_isCell : List Cond := .code yX8_isCell cX8_isCell 2 (some .boolean) :: ([.fieldLink RX8 76 "RingPagesModel" "cells" "I", .methodLink RX8 98 yX8_isIn, .static yX8_isIn, .initialized RX8, .code yX8_isIn cX8_isIn 3 (some .boolean)] ++ wsX80)
def wsX8_registers : List Cond := .code yX8_registers cX8_registers 1 none :: ([])
def wsX8_set : List Cond := .code yX8_set cX8_set 5 (some .int) :: ([.fieldLink RX8 19 "RingPagesModel" "now" "[I", .methodLink RX8 136 yX8_isCell, .instanceMethod yX8_isCell, .selects RX8 yX8_isCell yX8_isCell, .initialized RX8, .code yX8_isCell cX8_isCell 2 (some .boolean), .fieldLink RX8 76 "RingPagesModel" "cells" "I", .methodLink RX8 98 yX8_isIn, .static yX8_isIn, .code yX8_isIn cX8_isIn 3 (some .boolean), .methodLink RX8 139 yX8_keeps, .instanceMethod yX8_keeps, .selects RX8 yX8_keeps yX8_keeps, .code yX8_keeps cX8_keeps 2 none, .fieldLink RX8 82 "RingPagesModel" "changes" "I", .fieldLink RX8 22 "RingPagesModel" "was" "[I", .methodLink RX8 142 yX8_registers, .static yX8_registers, .code yX8_registers cX8_registers 1 none] ++ wsX80)
def wsX8_law : List Cond := .code yX8_law cX8_law 4 (some .int) :: ([.fieldLink RX8 19 "RingPagesModel" "now" "[I", .methodLink RX8 109 yX8_isLaw, .static yX8_isLaw, .initialized RX8, .code yX8_isLaw cX8_isLaw 2 (some .boolean), .methodLink RX8 98 yX8_isIn, .static yX8_isIn, .code yX8_isIn cX8_isIn 3 (some .boolean), .methodLink RX8 139 yX8_keeps, .instanceMethod yX8_keeps, .selects RX8 yX8_keeps yX8_keeps, .code yX8_keeps cX8_keeps 2 none, .fieldLink RX8 82 "RingPagesModel" "changes" "I", .fieldLink RX8 22 "RingPagesModel" "was" "[I", .methodLink RX8 142 yX8_registers, .static yX8_registers, .code yX8_registers cX8_registers 1 none] ++ wsX80)
def wsX8_out : List Cond := .code yX8_out cX8_out 4 (some .int) :: ([.fieldLink RX8 76 "RingPagesModel" "cells" "I", .fieldLink RX8 13 "RingPagesModel" "weight" "[I"] ++ wsX80)
def wsX8_sum : List Cond := .code yX8_sum cX8_sum 2 (some .int) :: ([.fieldLink RX8 19 "RingPagesModel" "now" "[I", .methodLink RX8 146 yX8_out, .instanceMethod yX8_out, .selects RX8 yX8_out yX8_out, .initialized RX8, .code yX8_out cX8_out 4 (some .int), .fieldLink RX8 76 "RingPagesModel" "cells" "I", .fieldLink RX8 13 "RingPagesModel" "weight" "[I"] ++ wsX80)
def wsX8_joined : List Cond := .code yX8_joined cX8_joined 4 (some .int) :: ([.fieldLink RX8 76 "RingPagesModel" "cells" "I", .fieldLink RX8 13 "RingPagesModel" "weight" "[I"] ++ wsX80)
def wsX8_likeArea : List Cond := .code yX8_likeArea cX8_likeArea 4 (some .int) :: ([.fieldLink RX8 76 "RingPagesModel" "cells" "I", .fieldLink RX8 19 "RingPagesModel" "now" "[I"] ++ wsX80)
def wsX8_cell_r1 : List Cond := [Cond.fieldLink RX8 19 "RingPagesModel" "now" "[I", Cond.methodLink RX8 136 yX8_isCell, Cond.instanceMethod yX8_isCell, Cond.selects RX8 yX8_isCell yX8_isCell, Cond.initialized RX8, Cond.code yX8_isCell cX8_isCell 2 (some .boolean), Cond.fieldLink RX8 76 "RingPagesModel" "cells" "I", Cond.methodLink RX8 98 yX8_isIn, Cond.static yX8_isIn, Cond.code yX8_isIn cX8_isIn 3 (some .boolean), Cond.methodLink RX8 149 yX8_sum, Cond.instanceMethod yX8_sum, Cond.selects RX8 yX8_sum yX8_sum, Cond.code yX8_sum cX8_sum 2 (some .int), Cond.methodLink RX8 146 yX8_out, Cond.instanceMethod yX8_out, Cond.selects RX8 yX8_out yX8_out, Cond.code yX8_out cX8_out 4 (some .int), Cond.fieldLink RX8 13 "RingPagesModel" "weight" "[I", Cond.methodLink RX8 152 yX8_joined, Cond.instanceMethod yX8_joined, Cond.selects RX8 yX8_joined yX8_joined, Cond.code yX8_joined cX8_joined 4 (some .int), Cond.methodLink RX8 155 yX8_likeArea]
def wsX8_cell_r2 : List Cond := [Cond.instanceMethod yX8_likeArea, Cond.selects RX8 yX8_likeArea yX8_likeArea, Cond.code yX8_likeArea cX8_likeArea 4 (some .int)]
def wsX8_cell : List Cond := .code yX8_cell cX8_cell 3 (some .int) :: ((wsX8_cell_r1 ++ wsX8_cell_r2) ++ wsX80)
def wsX8_weight : List Cond := .code yX8_weight cX8_weight 3 (some .int) :: ([.fieldLink RX8 13 "RingPagesModel" "weight" "[I", .methodLink RX8 136 yX8_isCell, .instanceMethod yX8_isCell, .selects RX8 yX8_isCell yX8_isCell, .initialized RX8, .code yX8_isCell cX8_isCell 2 (some .boolean), .fieldLink RX8 76 "RingPagesModel" "cells" "I", .methodLink RX8 98 yX8_isIn, .static yX8_isIn, .code yX8_isIn cX8_isIn 3 (some .boolean)] ++ wsX80)
def wsX8_far : List Cond := .code yX8_far cX8_far 7 (some .int) :: ([.fieldLink RX8 76 "RingPagesModel" "cells" "I", .methodLink RX8 152 yX8_joined, .instanceMethod yX8_joined, .selects RX8 yX8_joined yX8_joined, .initialized RX8, .code yX8_joined cX8_joined 4 (some .int), .fieldLink RX8 13 "RingPagesModel" "weight" "[I"] ++ wsX80)
def wsX8_wide : List Cond := .code yX8_wide cX8_wide 3 (some .int) :: ([.methodLink RX8 136 yX8_isCell, .instanceMethod yX8_isCell, .selects RX8 yX8_isCell yX8_isCell, .initialized RX8, .code yX8_isCell cX8_isCell 2 (some .boolean), .fieldLink RX8 76 "RingPagesModel" "cells" "I", .methodLink RX8 98 yX8_isIn, .static yX8_isIn, .code yX8_isIn cX8_isIn 3 (some .boolean), .methodLink RX8 158 yX8_far, .instanceMethod yX8_far, .selects RX8 yX8_far yX8_far, .code yX8_far cX8_far 7 (some .int), .methodLink RX8 152 yX8_joined, .instanceMethod yX8_joined, .selects RX8 yX8_joined yX8_joined, .code yX8_joined cX8_joined 4 (some .int), .fieldLink RX8 13 "RingPagesModel" "weight" "[I"] ++ wsX80)
def wsX8_isDue : List Cond := .code yX8_isDue cX8_isDue 2 (some .boolean) :: ([.fieldLink RX8 19 "RingPagesModel" "now" "[I", .methodLink RX8 158 yX8_far, .instanceMethod yX8_far, .selects RX8 yX8_far yX8_far, .initialized RX8, .code yX8_far cX8_far 7 (some .int), .fieldLink RX8 76 "RingPagesModel" "cells" "I", .methodLink RX8 152 yX8_joined, .instanceMethod yX8_joined, .selects RX8 yX8_joined yX8_joined, .code yX8_joined cX8_joined 4 (some .int), .fieldLink RX8 13 "RingPagesModel" "weight" "[I"] ++ wsX80)
def wsX8_goes : List Cond := .code yX8_goes cX8_goes 3 (some .int) :: ([.methodLink RX8 162 yX8_isDue, .instanceMethod yX8_isDue, .selects RX8 yX8_isDue yX8_isDue, .initialized RX8, .code yX8_isDue cX8_isDue 2 (some .boolean), .fieldLink RX8 19 "RingPagesModel" "now" "[I", .methodLink RX8 158 yX8_far, .instanceMethod yX8_far, .selects RX8 yX8_far yX8_far, .code yX8_far cX8_far 7 (some .int), .fieldLink RX8 76 "RingPagesModel" "cells" "I", .methodLink RX8 152 yX8_joined, .instanceMethod yX8_joined, .selects RX8 yX8_joined yX8_joined, .code yX8_joined cX8_joined 4 (some .int), .fieldLink RX8 13 "RingPagesModel" "weight" "[I", .methodLink RX8 142 yX8_registers, .static yX8_registers, .code yX8_registers cX8_registers 1 none] ++ wsX80)
def wsX8_tick_r1 : List Cond := [Cond.fieldLink RX8 19 "RingPagesModel" "now" "[I", Cond.fieldLink RX8 13 "RingPagesModel" "weight" "[I", Cond.methodLink RX8 136 yX8_isCell, Cond.instanceMethod yX8_isCell, Cond.selects RX8 yX8_isCell yX8_isCell, Cond.initialized RX8, Cond.code yX8_isCell cX8_isCell 2 (some .boolean), Cond.fieldLink RX8 76 "RingPagesModel" "cells" "I", Cond.methodLink RX8 98 yX8_isIn, Cond.static yX8_isIn, Cond.code yX8_isIn cX8_isIn 3 (some .boolean), Cond.methodLink RX8 139 yX8_keeps, Cond.instanceMethod yX8_keeps, Cond.selects RX8 yX8_keeps yX8_keeps, Cond.code yX8_keeps cX8_keeps 2 none, Cond.fieldLink RX8 82 "RingPagesModel" "changes" "I", Cond.fieldLink RX8 22 "RingPagesModel" "was" "[I", Cond.methodLink RX8 166 yX8_goes, Cond.instanceMethod yX8_goes, Cond.selects RX8 yX8_goes yX8_goes, Cond.code yX8_goes cX8_goes 3 (some .int), Cond.methodLink RX8 162 yX8_isDue, Cond.instanceMethod yX8_isDue, Cond.selects RX8 yX8_isDue yX8_isDue]
def wsX8_tick_r2 : List Cond := [Cond.code yX8_isDue cX8_isDue 2 (some .boolean), Cond.methodLink RX8 158 yX8_far, Cond.instanceMethod yX8_far, Cond.selects RX8 yX8_far yX8_far, Cond.code yX8_far cX8_far 7 (some .int), Cond.methodLink RX8 152 yX8_joined, Cond.instanceMethod yX8_joined, Cond.selects RX8 yX8_joined yX8_joined, Cond.code yX8_joined cX8_joined 4 (some .int), Cond.methodLink RX8 142 yX8_registers, Cond.static yX8_registers, Cond.code yX8_registers cX8_registers 1 none]
def wsX8_tick : List Cond := .code yX8_tick cX8_tick 3 (some .int) :: ((wsX8_tick_r1 ++ wsX8_tick_r2) ++ wsX80)
def wsX8_handset : List Cond := .code yX8_handset cX8_handset 2 (some .int) :: ([.fieldLink RX8 19 "RingPagesModel" "now" "[I", .fieldLink RX8 16 "RingPagesModel" "price" "[I", .methodLink RX8 98 yX8_isIn, .static yX8_isIn, .initialized RX8, .code yX8_isIn cX8_isIn 3 (some .boolean)] ++ wsX80)
def wsX8_allowed : List Cond := .code yX8_allowed cX8_allowed 5 (some .int) :: ([.fieldLink RX8 19 "RingPagesModel" "now" "[I", .fieldLink RX8 76 "RingPagesModel" "cells" "I", .methodLink RX8 158 yX8_far, .instanceMethod yX8_far, .selects RX8 yX8_far yX8_far, .initialized RX8, .code yX8_far cX8_far 7 (some .int), .methodLink RX8 152 yX8_joined, .instanceMethod yX8_joined, .selects RX8 yX8_joined yX8_joined, .code yX8_joined cX8_joined 4 (some .int), .fieldLink RX8 13 "RingPagesModel" "weight" "[I"] ++ wsX80)
def wsX8_whereIs : List Cond := .code yX8_whereIs cX8_whereIs 7 (some .int) :: ([.fieldLink RX8 19 "RingPagesModel" "now" "[I", .fieldLink RX8 34 "RingPagesModel" "can" "[I", .fieldLink RX8 37 "RingPagesModel" "next" "[I", .fieldLink RX8 76 "RingPagesModel" "cells" "I", .methodLink RX8 170 yX8_allowed, .instanceMethod yX8_allowed, .selects RX8 yX8_allowed yX8_allowed, .initialized RX8, .code yX8_allowed cX8_allowed 5 (some .int), .methodLink RX8 158 yX8_far, .instanceMethod yX8_far, .selects RX8 yX8_far yX8_far, .code yX8_far cX8_far 7 (some .int), .methodLink RX8 152 yX8_joined, .instanceMethod yX8_joined, .selects RX8 yX8_joined yX8_joined, .code yX8_joined cX8_joined 4 (some .int), .fieldLink RX8 13 "RingPagesModel" "weight" "[I"] ++ wsX80)
def wsX8_where : List Cond := .code yX8_where cX8_where 1 (some .int) :: ([.methodLink RX8 173 yX8_whereIs, .instanceMethod yX8_whereIs, .selects RX8 yX8_whereIs yX8_whereIs, .initialized RX8, .code yX8_whereIs cX8_whereIs 7 (some .int), .fieldLink RX8 19 "RingPagesModel" "now" "[I", .fieldLink RX8 34 "RingPagesModel" "can" "[I", .fieldLink RX8 37 "RingPagesModel" "next" "[I", .fieldLink RX8 76 "RingPagesModel" "cells" "I", .methodLink RX8 170 yX8_allowed, .instanceMethod yX8_allowed, .selects RX8 yX8_allowed yX8_allowed, .code yX8_allowed cX8_allowed 5 (some .int), .methodLink RX8 158 yX8_far, .instanceMethod yX8_far, .selects RX8 yX8_far yX8_far, .code yX8_far cX8_far 7 (some .int), .methodLink RX8 152 yX8_joined, .instanceMethod yX8_joined, .selects RX8 yX8_joined yX8_joined, .code yX8_joined cX8_joined 4 (some .int), .fieldLink RX8 13 "RingPagesModel" "weight" "[I"] ++ wsX80)
def wsX8_determinant : List Cond := .code yX8_determinant cX8_determinant 7 (some .long) :: ([.fieldLink RX8 44 "RingPagesModel" "table" "[J"] ++ wsX80)
def wsX8_grows : List Cond := .code yX8_grows cX8_grows 6 none :: ([.fieldLink RX8 76 "RingPagesModel" "cells" "I", .fieldLink RX8 44 "RingPagesModel" "table" "[J", .fieldLink RX8 13 "RingPagesModel" "weight" "[I", .fieldLink RX8 40 "RingPagesModel" "trees" "[J", .methodLink RX8 146 yX8_out, .instanceMethod yX8_out, .selects RX8 yX8_out yX8_out, .initialized RX8, .code yX8_out cX8_out 4 (some .int), .methodLink RX8 176 yX8_determinant, .instanceMethod yX8_determinant, .selects RX8 yX8_determinant yX8_determinant, .code yX8_determinant cX8_determinant 7 (some .long)] ++ wsX80)
def wsX8_below : List Cond := .code yX8_below cX8_below 4 (some .long) :: ([.fieldLink RX8 76 "RingPagesModel" "cells" "I", .fieldLink RX8 40 "RingPagesModel" "trees" "[J", .methodLink RX8 149 yX8_sum, .instanceMethod yX8_sum, .selects RX8 yX8_sum yX8_sum, .initialized RX8, .code yX8_sum cX8_sum 2 (some .int), .fieldLink RX8 19 "RingPagesModel" "now" "[I", .methodLink RX8 146 yX8_out, .instanceMethod yX8_out, .selects RX8 yX8_out yX8_out, .code yX8_out cX8_out 4 (some .int), .fieldLink RX8 13 "RingPagesModel" "weight" "[I"] ++ wsX80)
def wsX8_common : List Cond := .code yX8_common cX8_common 10 (some .long) :: ([])
def wsX8_term : List Cond := .code yX8_term cX8_term 7 (some .long) :: ([.methodLink RX8 180 yX8_common, .static yX8_common, .initialized RX8, .code yX8_common cX8_common 10 (some .long)])
def wsX8_chance_r1 : List Cond := [Cond.constantLong RX8 184 (-1), Cond.fieldLink RX8 40 "RingPagesModel" "trees" "[J", Cond.methodLink RX8 136 yX8_isCell, Cond.instanceMethod yX8_isCell, Cond.selects RX8 yX8_isCell yX8_isCell, Cond.initialized RX8, Cond.code yX8_isCell cX8_isCell 2 (some .boolean), Cond.fieldLink RX8 76 "RingPagesModel" "cells" "I", Cond.methodLink RX8 98 yX8_isIn, Cond.static yX8_isIn, Cond.code yX8_isIn cX8_isIn 3 (some .boolean), Cond.methodLink RX8 186 yX8_grows, Cond.instanceMethod yX8_grows, Cond.selects RX8 yX8_grows yX8_grows, Cond.code yX8_grows cX8_grows 6 none, Cond.fieldLink RX8 44 "RingPagesModel" "table" "[J", Cond.fieldLink RX8 13 "RingPagesModel" "weight" "[I", Cond.methodLink RX8 146 yX8_out, Cond.instanceMethod yX8_out, Cond.selects RX8 yX8_out yX8_out, Cond.code yX8_out cX8_out 4 (some .int), Cond.methodLink RX8 176 yX8_determinant, Cond.instanceMethod yX8_determinant, Cond.selects RX8 yX8_determinant yX8_determinant]
def wsX8_chance_r2 : List Cond := [Cond.code yX8_determinant cX8_determinant 7 (some .long), Cond.methodLink RX8 149 yX8_sum, Cond.instanceMethod yX8_sum, Cond.selects RX8 yX8_sum yX8_sum, Cond.code yX8_sum cX8_sum 2 (some .int), Cond.fieldLink RX8 19 "RingPagesModel" "now" "[I", Cond.methodLink RX8 189 yX8_below, Cond.instanceMethod yX8_below, Cond.selects RX8 yX8_below yX8_below, Cond.code yX8_below cX8_below 4 (some .long), Cond.methodLink RX8 193 yX8_term, Cond.static yX8_term, Cond.code yX8_term cX8_term 7 (some .long), Cond.methodLink RX8 180 yX8_common, Cond.static yX8_common, Cond.code yX8_common cX8_common 10 (some .long)]
def wsX8_chance : List Cond := .code yX8_chance cX8_chance 3 (some .long) :: ((wsX8_chance_r1 ++ wsX8_chance_r2) ++ wsX80)
def wsX8_crossing : List Cond := .code yX8_crossing cX8_crossing 8 (some .long) :: ([.fieldLink RX8 76 "RingPagesModel" "cells" "I", .fieldLink RX8 40 "RingPagesModel" "trees" "[J", .fieldLink RX8 13 "RingPagesModel" "weight" "[I"] ++ wsX80)
def wsX8_expense : List Cond := .code yX8_expense cX8_expense 7 (some .long) :: ([.constantLong RX8 197 (100), .fieldLink RX8 16 "RingPagesModel" "price" "[I", .fieldLink RX8 76 "RingPagesModel" "cells" "I", .fieldLink RX8 40 "RingPagesModel" "trees" "[J", .methodLink RX8 199 yX8_crossing, .instanceMethod yX8_crossing, .selects RX8 yX8_crossing yX8_crossing, .initialized RX8, .code yX8_crossing cX8_crossing 8 (some .long), .fieldLink RX8 13 "RingPagesModel" "weight" "[I", .methodLink RX8 149 yX8_sum, .instanceMethod yX8_sum, .selects RX8 yX8_sum yX8_sum, .code yX8_sum cX8_sum 2 (some .int), .fieldLink RX8 19 "RingPagesModel" "now" "[I", .methodLink RX8 146 yX8_out, .instanceMethod yX8_out, .selects RX8 yX8_out yX8_out, .code yX8_out cX8_out 4 (some .int)] ++ wsX80)
def wsX8_mean_r1 : List Cond := [Cond.constantLong RX8 184 (-1), Cond.fieldLink RX8 19 "RingPagesModel" "now" "[I", Cond.constantLong RX8 197 (100), Cond.constantLong RX8 207 (-4), Cond.methodLink RX8 98 yX8_isIn, Cond.static yX8_isIn, Cond.initialized RX8, Cond.code yX8_isIn cX8_isIn 3 (some .boolean), Cond.methodLink RX8 186 yX8_grows, Cond.instanceMethod yX8_grows, Cond.selects RX8 yX8_grows yX8_grows, Cond.code yX8_grows cX8_grows 6 none, Cond.fieldLink RX8 76 "RingPagesModel" "cells" "I", Cond.fieldLink RX8 44 "RingPagesModel" "table" "[J", Cond.fieldLink RX8 13 "RingPagesModel" "weight" "[I", Cond.fieldLink RX8 40 "RingPagesModel" "trees" "[J", Cond.methodLink RX8 146 yX8_out, Cond.instanceMethod yX8_out, Cond.selects RX8 yX8_out yX8_out, Cond.code yX8_out cX8_out 4 (some .int), Cond.methodLink RX8 176 yX8_determinant, Cond.instanceMethod yX8_determinant, Cond.selects RX8 yX8_determinant yX8_determinant, Cond.code yX8_determinant cX8_determinant 7 (some .long)]
def wsX8_mean_r2 : List Cond := [Cond.methodLink RX8 189 yX8_below, Cond.instanceMethod yX8_below, Cond.selects RX8 yX8_below yX8_below, Cond.code yX8_below cX8_below 4 (some .long), Cond.methodLink RX8 149 yX8_sum, Cond.instanceMethod yX8_sum, Cond.selects RX8 yX8_sum yX8_sum, Cond.code yX8_sum cX8_sum 2 (some .int), Cond.methodLink RX8 199 yX8_crossing, Cond.instanceMethod yX8_crossing, Cond.selects RX8 yX8_crossing yX8_crossing, Cond.code yX8_crossing cX8_crossing 8 (some .long), Cond.methodLink RX8 193 yX8_term, Cond.static yX8_term, Cond.code yX8_term cX8_term 7 (some .long), Cond.methodLink RX8 180 yX8_common, Cond.static yX8_common, Cond.code yX8_common cX8_common 10 (some .long), Cond.methodLink RX8 203 yX8_expense, Cond.instanceMethod yX8_expense, Cond.selects RX8 yX8_expense yX8_expense, Cond.code yX8_expense cX8_expense 7 (some .long), Cond.fieldLink RX8 16 "RingPagesModel" "price" "[I"]
def wsX8_mean : List Cond := .code yX8_mean cX8_mean 5 (some .long) :: ((wsX8_mean_r1 ++ wsX8_mean_r2) ++ wsX80)
def wsX8_goesOn : List Cond := .code yX8_goesOn cX8_goesOn 4 (some .boolean) :: ([.fieldLink RX8 76 "RingPagesModel" "cells" "I", .fieldLink RX8 47 "RingPagesModel" "tried" "[I"] ++ wsX80)
def wsX8_finds_r1 : List Cond := [Cond.fieldLink RX8 47 "RingPagesModel" "tried" "[I", Cond.fieldLink RX8 50 "RingPagesModel" "best" "[I", Cond.methodLink RX8 186 yX8_grows, Cond.instanceMethod yX8_grows, Cond.selects RX8 yX8_grows yX8_grows, Cond.initialized RX8, Cond.code yX8_grows cX8_grows 6 none, Cond.fieldLink RX8 76 "RingPagesModel" "cells" "I", Cond.fieldLink RX8 44 "RingPagesModel" "table" "[J", Cond.fieldLink RX8 13 "RingPagesModel" "weight" "[I", Cond.fieldLink RX8 40 "RingPagesModel" "trees" "[J", Cond.methodLink RX8 146 yX8_out, Cond.instanceMethod yX8_out, Cond.selects RX8 yX8_out yX8_out, Cond.code yX8_out cX8_out 4 (some .int), Cond.methodLink RX8 176 yX8_determinant, Cond.instanceMethod yX8_determinant, Cond.selects RX8 yX8_determinant yX8_determinant, Cond.code yX8_determinant cX8_determinant 7 (some .long), Cond.methodLink RX8 203 yX8_expense, Cond.instanceMethod yX8_expense, Cond.selects RX8 yX8_expense yX8_expense, Cond.code yX8_expense cX8_expense 7 (some .long), Cond.constantLong RX8 197 (100)]
def wsX8_finds_r2 : List Cond := [Cond.fieldLink RX8 16 "RingPagesModel" "price" "[I", Cond.methodLink RX8 199 yX8_crossing, Cond.instanceMethod yX8_crossing, Cond.selects RX8 yX8_crossing yX8_crossing, Cond.code yX8_crossing cX8_crossing 8 (some .long), Cond.methodLink RX8 149 yX8_sum, Cond.instanceMethod yX8_sum, Cond.selects RX8 yX8_sum yX8_sum, Cond.code yX8_sum cX8_sum 2 (some .int), Cond.fieldLink RX8 19 "RingPagesModel" "now" "[I", Cond.methodLink RX8 209 yX8_goesOn, Cond.instanceMethod yX8_goesOn, Cond.selects RX8 yX8_goesOn yX8_goesOn, Cond.code yX8_goesOn cX8_goesOn 4 (some .boolean)]
def wsX8_finds : List Cond := .code yX8_finds cX8_finds 6 (some .long) :: ((wsX8_finds_r1 ++ wsX8_finds_r2) ++ wsX80)
def wsX8_best_r1 : List Cond := [Cond.fieldLink RX8 50 "RingPagesModel" "best" "[I", Cond.methodLink RX8 136 yX8_isCell, Cond.instanceMethod yX8_isCell, Cond.selects RX8 yX8_isCell yX8_isCell, Cond.initialized RX8, Cond.code yX8_isCell cX8_isCell 2 (some .boolean), Cond.fieldLink RX8 76 "RingPagesModel" "cells" "I", Cond.methodLink RX8 98 yX8_isIn, Cond.static yX8_isIn, Cond.code yX8_isIn cX8_isIn 3 (some .boolean), Cond.methodLink RX8 212 yX8_finds, Cond.instanceMethod yX8_finds, Cond.selects RX8 yX8_finds yX8_finds, Cond.code yX8_finds cX8_finds 6 (some .long), Cond.fieldLink RX8 47 "RingPagesModel" "tried" "[I", Cond.methodLink RX8 186 yX8_grows, Cond.instanceMethod yX8_grows, Cond.selects RX8 yX8_grows yX8_grows, Cond.code yX8_grows cX8_grows 6 none, Cond.fieldLink RX8 44 "RingPagesModel" "table" "[J", Cond.fieldLink RX8 13 "RingPagesModel" "weight" "[I", Cond.fieldLink RX8 40 "RingPagesModel" "trees" "[J", Cond.methodLink RX8 146 yX8_out, Cond.instanceMethod yX8_out]
def wsX8_best_r2 : List Cond := [Cond.selects RX8 yX8_out yX8_out, Cond.code yX8_out cX8_out 4 (some .int), Cond.methodLink RX8 176 yX8_determinant, Cond.instanceMethod yX8_determinant, Cond.selects RX8 yX8_determinant yX8_determinant, Cond.code yX8_determinant cX8_determinant 7 (some .long), Cond.methodLink RX8 203 yX8_expense, Cond.instanceMethod yX8_expense, Cond.selects RX8 yX8_expense yX8_expense, Cond.code yX8_expense cX8_expense 7 (some .long), Cond.constantLong RX8 197 (100), Cond.fieldLink RX8 16 "RingPagesModel" "price" "[I", Cond.methodLink RX8 199 yX8_crossing, Cond.instanceMethod yX8_crossing, Cond.selects RX8 yX8_crossing yX8_crossing, Cond.code yX8_crossing cX8_crossing 8 (some .long), Cond.methodLink RX8 149 yX8_sum, Cond.instanceMethod yX8_sum, Cond.selects RX8 yX8_sum yX8_sum, Cond.code yX8_sum cX8_sum 2 (some .int), Cond.fieldLink RX8 19 "RingPagesModel" "now" "[I", Cond.methodLink RX8 209 yX8_goesOn, Cond.instanceMethod yX8_goesOn, Cond.selects RX8 yX8_goesOn yX8_goesOn]
def wsX8_best_r3 : List Cond := [Cond.code yX8_goesOn cX8_goesOn 4 (some .boolean)]
def wsX8_best : List Cond := .code yX8_best cX8_best 2 (some .int) :: ((wsX8_best_r1 ++ (wsX8_best_r2 ++ wsX8_best_r3)) ++ wsX80)
def wsX8_least_r1 : List Cond := [Cond.constantLong RX8 184 (-1), Cond.constantLong RX8 197 (100), Cond.methodLink RX8 98 yX8_isIn, Cond.static yX8_isIn, Cond.initialized RX8, Cond.code yX8_isIn cX8_isIn 3 (some .boolean), Cond.methodLink RX8 212 yX8_finds, Cond.instanceMethod yX8_finds, Cond.selects RX8 yX8_finds yX8_finds, Cond.code yX8_finds cX8_finds 6 (some .long), Cond.fieldLink RX8 47 "RingPagesModel" "tried" "[I", Cond.fieldLink RX8 50 "RingPagesModel" "best" "[I", Cond.methodLink RX8 186 yX8_grows, Cond.instanceMethod yX8_grows, Cond.selects RX8 yX8_grows yX8_grows, Cond.code yX8_grows cX8_grows 6 none, Cond.fieldLink RX8 76 "RingPagesModel" "cells" "I", Cond.fieldLink RX8 44 "RingPagesModel" "table" "[J", Cond.fieldLink RX8 13 "RingPagesModel" "weight" "[I", Cond.fieldLink RX8 40 "RingPagesModel" "trees" "[J", Cond.methodLink RX8 146 yX8_out, Cond.instanceMethod yX8_out, Cond.selects RX8 yX8_out yX8_out, Cond.code yX8_out cX8_out 4 (some .int)]
def wsX8_least_r2 : List Cond := [Cond.methodLink RX8 176 yX8_determinant, Cond.instanceMethod yX8_determinant, Cond.selects RX8 yX8_determinant yX8_determinant, Cond.code yX8_determinant cX8_determinant 7 (some .long), Cond.methodLink RX8 203 yX8_expense, Cond.instanceMethod yX8_expense, Cond.selects RX8 yX8_expense yX8_expense, Cond.code yX8_expense cX8_expense 7 (some .long), Cond.fieldLink RX8 16 "RingPagesModel" "price" "[I", Cond.methodLink RX8 199 yX8_crossing, Cond.instanceMethod yX8_crossing, Cond.selects RX8 yX8_crossing yX8_crossing, Cond.code yX8_crossing cX8_crossing 8 (some .long), Cond.methodLink RX8 149 yX8_sum, Cond.instanceMethod yX8_sum, Cond.selects RX8 yX8_sum yX8_sum, Cond.code yX8_sum cX8_sum 2 (some .int), Cond.fieldLink RX8 19 "RingPagesModel" "now" "[I", Cond.methodLink RX8 209 yX8_goesOn, Cond.instanceMethod yX8_goesOn, Cond.selects RX8 yX8_goesOn yX8_goesOn, Cond.code yX8_goesOn cX8_goesOn 4 (some .boolean), Cond.methodLink RX8 189 yX8_below, Cond.instanceMethod yX8_below]
def wsX8_least_r3 : List Cond := [Cond.selects RX8 yX8_below yX8_below, Cond.code yX8_below cX8_below 4 (some .long), Cond.methodLink RX8 193 yX8_term, Cond.static yX8_term, Cond.code yX8_term cX8_term 7 (some .long), Cond.methodLink RX8 180 yX8_common, Cond.static yX8_common, Cond.code yX8_common cX8_common 10 (some .long)]
def wsX8_least : List Cond := .code yX8_least cX8_least 2 (some .long) :: ((wsX8_least_r1 ++ (wsX8_least_r2 ++ wsX8_least_r3)) ++ wsX80)
def wsX8_give_r1 : List Cond := [Cond.fieldLink RX8 76 "RingPagesModel" "cells" "I", Cond.fieldLink RX8 19 "RingPagesModel" "now" "[I", Cond.fieldLink RX8 50 "RingPagesModel" "best" "[I", Cond.methodLink RX8 212 yX8_finds, Cond.instanceMethod yX8_finds, Cond.selects RX8 yX8_finds yX8_finds, Cond.initialized RX8, Cond.code yX8_finds cX8_finds 6 (some .long), Cond.fieldLink RX8 47 "RingPagesModel" "tried" "[I", Cond.methodLink RX8 186 yX8_grows, Cond.instanceMethod yX8_grows, Cond.selects RX8 yX8_grows yX8_grows, Cond.code yX8_grows cX8_grows 6 none, Cond.fieldLink RX8 44 "RingPagesModel" "table" "[J", Cond.fieldLink RX8 13 "RingPagesModel" "weight" "[I", Cond.fieldLink RX8 40 "RingPagesModel" "trees" "[J", Cond.methodLink RX8 146 yX8_out, Cond.instanceMethod yX8_out, Cond.selects RX8 yX8_out yX8_out, Cond.code yX8_out cX8_out 4 (some .int), Cond.methodLink RX8 176 yX8_determinant, Cond.instanceMethod yX8_determinant, Cond.selects RX8 yX8_determinant yX8_determinant, Cond.code yX8_determinant cX8_determinant 7 (some .long)]
def wsX8_give_r2 : List Cond := [Cond.methodLink RX8 203 yX8_expense, Cond.instanceMethod yX8_expense, Cond.selects RX8 yX8_expense yX8_expense, Cond.code yX8_expense cX8_expense 7 (some .long), Cond.constantLong RX8 197 (100), Cond.fieldLink RX8 16 "RingPagesModel" "price" "[I", Cond.methodLink RX8 199 yX8_crossing, Cond.instanceMethod yX8_crossing, Cond.selects RX8 yX8_crossing yX8_crossing, Cond.code yX8_crossing cX8_crossing 8 (some .long), Cond.methodLink RX8 149 yX8_sum, Cond.instanceMethod yX8_sum, Cond.selects RX8 yX8_sum yX8_sum, Cond.code yX8_sum cX8_sum 2 (some .int), Cond.methodLink RX8 209 yX8_goesOn, Cond.instanceMethod yX8_goesOn, Cond.selects RX8 yX8_goesOn yX8_goesOn, Cond.code yX8_goesOn cX8_goesOn 4 (some .boolean), Cond.methodLink RX8 139 yX8_keeps, Cond.instanceMethod yX8_keeps, Cond.selects RX8 yX8_keeps yX8_keeps, Cond.code yX8_keeps cX8_keeps 2 none, Cond.fieldLink RX8 82 "RingPagesModel" "changes" "I", Cond.fieldLink RX8 22 "RingPagesModel" "was" "[I"]
def wsX8_give_r3 : List Cond := [Cond.methodLink RX8 142 yX8_registers, Cond.static yX8_registers, Cond.code yX8_registers cX8_registers 1 none]
def wsX8_give : List Cond := .code yX8_give cX8_give 3 (some .int) :: ((wsX8_give_r1 ++ (wsX8_give_r2 ++ wsX8_give_r3)) ++ wsX80)
def wsX8_ranks_r1 : List Cond := [Cond.fieldLink RX8 215 "RingPagesModel" "rows" "I", Cond.fieldLink RX8 76 "RingPagesModel" "cells" "I", Cond.fieldLink RX8 40 "RingPagesModel" "trees" "[J", Cond.fieldLink RX8 53 "RingPagesModel" "row" "[I", Cond.methodLink RX8 173 yX8_whereIs, Cond.instanceMethod yX8_whereIs, Cond.selects RX8 yX8_whereIs yX8_whereIs, Cond.initialized RX8, Cond.code yX8_whereIs cX8_whereIs 7 (some .int), Cond.fieldLink RX8 19 "RingPagesModel" "now" "[I", Cond.fieldLink RX8 34 "RingPagesModel" "can" "[I", Cond.fieldLink RX8 37 "RingPagesModel" "next" "[I", Cond.methodLink RX8 170 yX8_allowed, Cond.instanceMethod yX8_allowed, Cond.selects RX8 yX8_allowed yX8_allowed, Cond.code yX8_allowed cX8_allowed 5 (some .int), Cond.methodLink RX8 158 yX8_far, Cond.instanceMethod yX8_far, Cond.selects RX8 yX8_far yX8_far, Cond.code yX8_far cX8_far 7 (some .int), Cond.methodLink RX8 152 yX8_joined, Cond.instanceMethod yX8_joined, Cond.selects RX8 yX8_joined yX8_joined, Cond.code yX8_joined cX8_joined 4 (some .int)]
def wsX8_ranks_r2 : List Cond := [Cond.fieldLink RX8 13 "RingPagesModel" "weight" "[I", Cond.methodLink RX8 186 yX8_grows, Cond.instanceMethod yX8_grows, Cond.selects RX8 yX8_grows yX8_grows, Cond.code yX8_grows cX8_grows 6 none, Cond.fieldLink RX8 44 "RingPagesModel" "table" "[J", Cond.methodLink RX8 146 yX8_out, Cond.instanceMethod yX8_out, Cond.selects RX8 yX8_out yX8_out, Cond.code yX8_out cX8_out 4 (some .int), Cond.methodLink RX8 176 yX8_determinant, Cond.instanceMethod yX8_determinant, Cond.selects RX8 yX8_determinant yX8_determinant, Cond.code yX8_determinant cX8_determinant 7 (some .long), Cond.methodLink RX8 149 yX8_sum, Cond.instanceMethod yX8_sum, Cond.selects RX8 yX8_sum yX8_sum, Cond.code yX8_sum cX8_sum 2 (some .int)]
def wsX8_ranks : List Cond := .code yX8_ranks cX8_ranks 4 none :: ((wsX8_ranks_r1 ++ wsX8_ranks_r2) ++ wsX80)
def wsX8_bits : List Cond := .code yX8_bits cX8_bits 3 (some .int) :: ([])
def wsX8_paged : List Cond := .code yX8_paged cX8_paged 6 (some .long) :: ([.fieldLink RX8 215 "RingPagesModel" "rows" "I", .fieldLink RX8 40 "RingPagesModel" "trees" "[J", .fieldLink RX8 53 "RingPagesModel" "row" "[I", .methodLink RX8 149 yX8_sum, .instanceMethod yX8_sum, .selects RX8 yX8_sum yX8_sum, .initialized RX8, .code yX8_sum cX8_sum 2 (some .int), .fieldLink RX8 19 "RingPagesModel" "now" "[I", .methodLink RX8 146 yX8_out, .instanceMethod yX8_out, .selects RX8 yX8_out yX8_out, .code yX8_out cX8_out 4 (some .int), .fieldLink RX8 76 "RingPagesModel" "cells" "I", .fieldLink RX8 13 "RingPagesModel" "weight" "[I"] ++ wsX80)
def wsX8_isFirst : List Cond := .code yX8_isFirst cX8_isFirst 4 (some .boolean) :: ([])
def wsX8_splits_r1 : List Cond := [Cond.fieldLink RX8 215 "RingPagesModel" "rows" "I", Cond.fieldLink RX8 221 "RingPagesModel" "cuts" "I", Cond.fieldLink RX8 16 "RingPagesModel" "price" "[I", Cond.methodLink RX8 218 yX8_ranks, Cond.instanceMethod yX8_ranks, Cond.selects RX8 yX8_ranks yX8_ranks, Cond.initialized RX8, Cond.code yX8_ranks cX8_ranks 4 none, Cond.fieldLink RX8 76 "RingPagesModel" "cells" "I", Cond.fieldLink RX8 40 "RingPagesModel" "trees" "[J", Cond.fieldLink RX8 53 "RingPagesModel" "row" "[I", Cond.methodLink RX8 173 yX8_whereIs, Cond.instanceMethod yX8_whereIs, Cond.selects RX8 yX8_whereIs yX8_whereIs, Cond.code yX8_whereIs cX8_whereIs 7 (some .int), Cond.fieldLink RX8 19 "RingPagesModel" "now" "[I", Cond.fieldLink RX8 34 "RingPagesModel" "can" "[I", Cond.fieldLink RX8 37 "RingPagesModel" "next" "[I", Cond.methodLink RX8 170 yX8_allowed, Cond.instanceMethod yX8_allowed, Cond.selects RX8 yX8_allowed yX8_allowed, Cond.code yX8_allowed cX8_allowed 5 (some .int), Cond.methodLink RX8 158 yX8_far, Cond.instanceMethod yX8_far]
def wsX8_splits_r2 : List Cond := [Cond.selects RX8 yX8_far yX8_far, Cond.code yX8_far cX8_far 7 (some .int), Cond.methodLink RX8 152 yX8_joined, Cond.instanceMethod yX8_joined, Cond.selects RX8 yX8_joined yX8_joined, Cond.code yX8_joined cX8_joined 4 (some .int), Cond.fieldLink RX8 13 "RingPagesModel" "weight" "[I", Cond.methodLink RX8 186 yX8_grows, Cond.instanceMethod yX8_grows, Cond.selects RX8 yX8_grows yX8_grows, Cond.code yX8_grows cX8_grows 6 none, Cond.fieldLink RX8 44 "RingPagesModel" "table" "[J", Cond.methodLink RX8 146 yX8_out, Cond.instanceMethod yX8_out, Cond.selects RX8 yX8_out yX8_out, Cond.code yX8_out cX8_out 4 (some .int), Cond.methodLink RX8 176 yX8_determinant, Cond.instanceMethod yX8_determinant, Cond.selects RX8 yX8_determinant yX8_determinant, Cond.code yX8_determinant cX8_determinant 7 (some .long), Cond.methodLink RX8 149 yX8_sum, Cond.instanceMethod yX8_sum, Cond.selects RX8 yX8_sum yX8_sum, Cond.code yX8_sum cX8_sum 2 (some .int)]
def wsX8_splits_r3 : List Cond := [Cond.methodLink RX8 224 yX8_paged, Cond.instanceMethod yX8_paged, Cond.selects RX8 yX8_paged yX8_paged, Cond.code yX8_paged cX8_paged 6 (some .long), Cond.methodLink RX8 227 yX8_bits, Cond.static yX8_bits, Cond.code yX8_bits cX8_bits 3 (some .int), Cond.methodLink RX8 230 yX8_isFirst, Cond.static yX8_isFirst, Cond.code yX8_isFirst cX8_isFirst 4 (some .boolean)]
def wsX8_splits : List Cond := .code yX8_splits cX8_splits 8 none :: ((wsX8_splits_r1 ++ (wsX8_splits_r2 ++ wsX8_splits_r3)) ++ wsX80)
def wsX8_round_r1 : List Cond := [Cond.fieldLink RX8 221 "RingPagesModel" "cuts" "I", Cond.fieldLink RX8 215 "RingPagesModel" "rows" "I", Cond.fieldLink RX8 53 "RingPagesModel" "row" "[I", Cond.methodLink RX8 233 yX8_splits, Cond.instanceMethod yX8_splits, Cond.selects RX8 yX8_splits yX8_splits, Cond.initialized RX8, Cond.code yX8_splits cX8_splits 8 none, Cond.fieldLink RX8 16 "RingPagesModel" "price" "[I", Cond.methodLink RX8 218 yX8_ranks, Cond.instanceMethod yX8_ranks, Cond.selects RX8 yX8_ranks yX8_ranks, Cond.code yX8_ranks cX8_ranks 4 none, Cond.fieldLink RX8 76 "RingPagesModel" "cells" "I", Cond.fieldLink RX8 40 "RingPagesModel" "trees" "[J", Cond.methodLink RX8 173 yX8_whereIs, Cond.instanceMethod yX8_whereIs, Cond.selects RX8 yX8_whereIs yX8_whereIs, Cond.code yX8_whereIs cX8_whereIs 7 (some .int), Cond.fieldLink RX8 19 "RingPagesModel" "now" "[I", Cond.fieldLink RX8 34 "RingPagesModel" "can" "[I", Cond.fieldLink RX8 37 "RingPagesModel" "next" "[I", Cond.methodLink RX8 170 yX8_allowed, Cond.instanceMethod yX8_allowed]
def wsX8_round_r2 : List Cond := [Cond.selects RX8 yX8_allowed yX8_allowed, Cond.code yX8_allowed cX8_allowed 5 (some .int), Cond.methodLink RX8 158 yX8_far, Cond.instanceMethod yX8_far, Cond.selects RX8 yX8_far yX8_far, Cond.code yX8_far cX8_far 7 (some .int), Cond.methodLink RX8 152 yX8_joined, Cond.instanceMethod yX8_joined, Cond.selects RX8 yX8_joined yX8_joined, Cond.code yX8_joined cX8_joined 4 (some .int), Cond.fieldLink RX8 13 "RingPagesModel" "weight" "[I", Cond.methodLink RX8 186 yX8_grows, Cond.instanceMethod yX8_grows, Cond.selects RX8 yX8_grows yX8_grows, Cond.code yX8_grows cX8_grows 6 none, Cond.fieldLink RX8 44 "RingPagesModel" "table" "[J", Cond.methodLink RX8 146 yX8_out, Cond.instanceMethod yX8_out, Cond.selects RX8 yX8_out yX8_out, Cond.code yX8_out cX8_out 4 (some .int), Cond.methodLink RX8 176 yX8_determinant, Cond.instanceMethod yX8_determinant, Cond.selects RX8 yX8_determinant yX8_determinant, Cond.code yX8_determinant cX8_determinant 7 (some .long)]
def wsX8_round_r3 : List Cond := [Cond.methodLink RX8 149 yX8_sum, Cond.instanceMethod yX8_sum, Cond.selects RX8 yX8_sum yX8_sum, Cond.code yX8_sum cX8_sum 2 (some .int), Cond.methodLink RX8 224 yX8_paged, Cond.instanceMethod yX8_paged, Cond.selects RX8 yX8_paged yX8_paged, Cond.code yX8_paged cX8_paged 6 (some .long), Cond.methodLink RX8 227 yX8_bits, Cond.static yX8_bits, Cond.code yX8_bits cX8_bits 3 (some .int), Cond.methodLink RX8 230 yX8_isFirst, Cond.static yX8_isFirst, Cond.code yX8_isFirst cX8_isFirst 4 (some .boolean)]
def wsX8_round : List Cond := .code yX8_round cX8_round 5 (some .int) :: ((wsX8_round_r1 ++ (wsX8_round_r2 ++ wsX8_round_r3)) ++ wsX80)
def wsX8_page_r1 : List Cond := [Cond.fieldLink RX8 53 "RingPagesModel" "row" "[I", Cond.fieldLink RX8 19 "RingPagesModel" "now" "[I", Cond.fieldLink RX8 221 "RingPagesModel" "cuts" "I", Cond.methodLink RX8 233 yX8_splits, Cond.instanceMethod yX8_splits, Cond.selects RX8 yX8_splits yX8_splits, Cond.initialized RX8, Cond.code yX8_splits cX8_splits 8 none, Cond.fieldLink RX8 215 "RingPagesModel" "rows" "I", Cond.fieldLink RX8 16 "RingPagesModel" "price" "[I", Cond.methodLink RX8 218 yX8_ranks, Cond.instanceMethod yX8_ranks, Cond.selects RX8 yX8_ranks yX8_ranks, Cond.code yX8_ranks cX8_ranks 4 none, Cond.fieldLink RX8 76 "RingPagesModel" "cells" "I", Cond.fieldLink RX8 40 "RingPagesModel" "trees" "[J", Cond.methodLink RX8 173 yX8_whereIs, Cond.instanceMethod yX8_whereIs, Cond.selects RX8 yX8_whereIs yX8_whereIs, Cond.code yX8_whereIs cX8_whereIs 7 (some .int), Cond.fieldLink RX8 34 "RingPagesModel" "can" "[I", Cond.fieldLink RX8 37 "RingPagesModel" "next" "[I", Cond.methodLink RX8 170 yX8_allowed, Cond.instanceMethod yX8_allowed]
def wsX8_page_r2 : List Cond := [Cond.selects RX8 yX8_allowed yX8_allowed, Cond.code yX8_allowed cX8_allowed 5 (some .int), Cond.methodLink RX8 158 yX8_far, Cond.instanceMethod yX8_far, Cond.selects RX8 yX8_far yX8_far, Cond.code yX8_far cX8_far 7 (some .int), Cond.methodLink RX8 152 yX8_joined, Cond.instanceMethod yX8_joined, Cond.selects RX8 yX8_joined yX8_joined, Cond.code yX8_joined cX8_joined 4 (some .int), Cond.fieldLink RX8 13 "RingPagesModel" "weight" "[I", Cond.methodLink RX8 186 yX8_grows, Cond.instanceMethod yX8_grows, Cond.selects RX8 yX8_grows yX8_grows, Cond.code yX8_grows cX8_grows 6 none, Cond.fieldLink RX8 44 "RingPagesModel" "table" "[J", Cond.methodLink RX8 146 yX8_out, Cond.instanceMethod yX8_out, Cond.selects RX8 yX8_out yX8_out, Cond.code yX8_out cX8_out 4 (some .int), Cond.methodLink RX8 176 yX8_determinant, Cond.instanceMethod yX8_determinant, Cond.selects RX8 yX8_determinant yX8_determinant, Cond.code yX8_determinant cX8_determinant 7 (some .long)]
def wsX8_page_r3 : List Cond := [Cond.methodLink RX8 149 yX8_sum, Cond.instanceMethod yX8_sum, Cond.selects RX8 yX8_sum yX8_sum, Cond.code yX8_sum cX8_sum 2 (some .int), Cond.methodLink RX8 224 yX8_paged, Cond.instanceMethod yX8_paged, Cond.selects RX8 yX8_paged yX8_paged, Cond.code yX8_paged cX8_paged 6 (some .long), Cond.methodLink RX8 227 yX8_bits, Cond.static yX8_bits, Cond.code yX8_bits cX8_bits 3 (some .int), Cond.methodLink RX8 230 yX8_isFirst, Cond.static yX8_isFirst, Cond.code yX8_isFirst cX8_isFirst 4 (some .boolean), Cond.methodLink RX8 139 yX8_keeps, Cond.instanceMethod yX8_keeps, Cond.selects RX8 yX8_keeps yX8_keeps, Cond.code yX8_keeps cX8_keeps 2 none, Cond.fieldLink RX8 82 "RingPagesModel" "changes" "I", Cond.fieldLink RX8 22 "RingPagesModel" "was" "[I", Cond.methodLink RX8 142 yX8_registers, Cond.static yX8_registers, Cond.code yX8_registers cX8_registers 1 none]
def wsX8_page : List Cond := .code yX8_page cX8_page 2 (some .int) :: ((wsX8_page_r1 ++ (wsX8_page_r2 ++ wsX8_page_r3)) ++ wsX80)
def wsX8_walk_r1 : List Cond := [Cond.fieldLink RX8 56 "RingPagesModel" "walker" "[I", Cond.fieldLink RX8 19 "RingPagesModel" "now" "[I", Cond.constantLong RX8 236 (7919), Cond.constantLong RX8 238 (6151), Cond.constantLong RX8 240 (65521), Cond.fieldLink RX8 76 "RingPagesModel" "cells" "I", Cond.fieldLink RX8 13 "RingPagesModel" "weight" "[I", Cond.methodLink RX8 98 yX8_isIn, Cond.static yX8_isIn, Cond.initialized RX8, Cond.code yX8_isIn cX8_isIn 3 (some .boolean), Cond.methodLink RX8 149 yX8_sum, Cond.instanceMethod yX8_sum, Cond.selects RX8 yX8_sum yX8_sum, Cond.code yX8_sum cX8_sum 2 (some .int), Cond.methodLink RX8 146 yX8_out, Cond.instanceMethod yX8_out, Cond.selects RX8 yX8_out yX8_out, Cond.code yX8_out cX8_out 4 (some .int), Cond.methodLink RX8 166 yX8_goes, Cond.instanceMethod yX8_goes, Cond.selects RX8 yX8_goes yX8_goes, Cond.code yX8_goes cX8_goes 3 (some .int), Cond.methodLink RX8 162 yX8_isDue]
def wsX8_walk_r2 : List Cond := [Cond.instanceMethod yX8_isDue, Cond.selects RX8 yX8_isDue yX8_isDue, Cond.code yX8_isDue cX8_isDue 2 (some .boolean), Cond.methodLink RX8 158 yX8_far, Cond.instanceMethod yX8_far, Cond.selects RX8 yX8_far yX8_far, Cond.code yX8_far cX8_far 7 (some .int), Cond.methodLink RX8 152 yX8_joined, Cond.instanceMethod yX8_joined, Cond.selects RX8 yX8_joined yX8_joined, Cond.code yX8_joined cX8_joined 4 (some .int), Cond.methodLink RX8 142 yX8_registers, Cond.static yX8_registers, Cond.code yX8_registers cX8_registers 1 none]
def wsX8_walk : List Cond := .code yX8_walk cX8_walk 13 (some .int) :: ((wsX8_walk_r1 ++ wsX8_walk_r2) ++ wsX80)
def wsX8_count : List Cond := .code yX8_count cX8_count 2 (some .int) :: ([.fieldLink RX8 76 "RingPagesModel" "cells" "I", .fieldLink RX8 79 "RingPagesModel" "joins" "I", .fieldLink RX8 19 "RingPagesModel" "now" "[I", .fieldLink RX8 16 "RingPagesModel" "price" "[I", .fieldLink RX8 82 "RingPagesModel" "changes" "I", .fieldLink RX8 85 "RingPagesModel" "length" "I"] ++ wsX80)
def wsJ9_max_7cf53 : List Cond := .code yJ9_max_7cf53 cJ9_max_7cf53 2 (some .int) :: ([])
def wsJ9_min_7cf53 : List Cond := .code yJ9_min_7cf53 cJ9_min_7cf53 2 (some .int) :: ([])
def wsL_law_r1 : List Cond := [Cond.classLink RL 7 RX7, Cond.instantiable RX7 10, Cond.initialized RX7, Cond.classLink RL 10 RX8, Cond.instantiable RX8 26, Cond.initialized RX8, Cond.methodLink RL 9 yX7_init, Cond.instanceMethod yX7_init, Cond.code yX7_init cX7_init 2 none, Cond.methodLink RX7 1 objectInit, Cond.instanceMethod objectInit, Cond.code objectInit ⟨#[0xb1]⟩ 1 none, Cond.classLink RX7 7 RX5, Cond.instantiable RX5 4, Cond.initialized RX5, Cond.fieldLink RX7 10 "RingPages" "text" "LRingPages$Text;", Cond.classLink RX7 16 RX2, Cond.instantiable RX2 3, Cond.initialized RX2, Cond.fieldLink RX7 19 "RingPages" "past" "LRingPages$Past;", Cond.classLink RX7 23 RX0, Cond.instantiable RX0 6, Cond.initialized RX0, Cond.fieldLink RX7 26 "RingPages" "longRun" "LRingPages$LongRun;"]
def wsL_law_r2 : List Cond := [Cond.classLink RX7 30 RX6, Cond.instantiable RX6 1, Cond.initialized RX6, Cond.fieldLink RX7 33 "RingPages" "whereabouts" "LRingPages$Whereabouts;", Cond.classLink RX7 37 RX3, Cond.instantiable RX3 4, Cond.initialized RX3, Cond.fieldLink RX7 40 "RingPages" "rounds" "LRingPages$Rounds;", Cond.classLink RX7 44 RX4, Cond.instantiable RX4 10, Cond.initialized RX4, Cond.fieldLink RX7 47 "RingPages" "walker" "LRingPages$State;", Cond.classLink RX7 51 RX1, Cond.instantiable RX1 12, Cond.initialized RX1, Cond.fieldLink RX7 54 "RingPages" "net" "LRingPages$Net;", Cond.fieldLink RX7 58 "RingPages" "state" "LRingPages$State;", Cond.fieldLink RX7 61 "RingPages" "draftNet" "LRingPages$Net;", Cond.fieldLink RX7 64 "RingPages" "draftState" "LRingPages$State;", Cond.fieldLink RX7 87 "RingPages$Text" "length" "I", Cond.instanceMethod yX5_init, Cond.code yX5_init cX5_init 1 none, Cond.methodLink RX5 3 objectInit, Cond.arrayClass .int]
def wsL_law_r3 : List Cond := [Cond.fieldLink RX5 9 "RingPages$Text" "letters" "[I", Cond.fieldLink RX5 15 "RingPages$Text" "numbers" "[I", Cond.methodLink RX7 18 yX2_init, Cond.instanceMethod yX2_init, Cond.code yX2_init cX2_init 2 none, Cond.methodLink RX2 3 objectInit, Cond.classLink RX2 9 RX4, Cond.fieldLink RX2 11 "RingPages$Past" "kept" "[LRingPages$State;", Cond.instanceMethod yX4_init, Cond.code yX4_init cX4_init 1 none, Cond.methodLink RX4 3 objectInit, Cond.fieldLink RX4 9 "RingPages$State" "stay" "[I", Cond.fieldLink RX4 15 "RingPages$State" "area" "[I", Cond.instanceMethod yX0_init, Cond.code yX0_init cX0_init 1 none, Cond.methodLink RX0 3 objectInit, Cond.arrayClass .long, Cond.fieldLink RX0 9 "RingPages$LongRun" "above" "[J", Cond.fieldLink RX0 15 "RingPages$LongRun" "best" "[I", Cond.fieldLink RX0 19 "RingPages$LongRun" "tried" "[I", Cond.instanceMethod yX6_init, Cond.code yX6_init cX6_init 1 none, Cond.methodLink RX6 3 objectInit, Cond.fieldLink RX6 9 "RingPages$Whereabouts" "reached" "[I"]
def wsL_law_r4 : List Cond := [Cond.instanceMethod yX3_init, Cond.code yX3_init cX3_init 1 none, Cond.methodLink RX3 3 objectInit, Cond.fieldLink RX3 9 "RingPages$Rounds" "row" "[I", Cond.instanceMethod yX1_init, Cond.code yX1_init cX1_init 1 none, Cond.methodLink RX1 3 objectInit, Cond.classLink RX1 9 "[[I", Cond.fieldLink RX1 11 "RingPages$Net" "weight" "[[I", Cond.fieldLink RX1 16 "RingPages$Net" "wide" "[[I", Cond.fieldLink RX1 19 "RingPages$Net" "near" "[I", Cond.fieldLink RX1 23 "RingPages$Net" "out" "[I", Cond.fieldLink RX1 26 "RingPages$Net" "trees" "[J", Cond.fieldLink RX1 30 "RingPages$Net" "minors" "[J", Cond.methodLink RX7 69 yJ0_length_8abf5, Cond.instanceMethod yJ0_length_8abf5, Cond.selects RJ0 yJ0_length_8abf5 yJ0_length_8abf5, Cond.initialized RJ0, Cond.code yJ0_length_8abf5 cJ0_length_8abf5 1 (some .int), Cond.fieldLink RJ0 9 "java/lang/String" "value" "[B", Cond.methodLink RJ0 335 yJ0_coder_7d493, Cond.instanceMethod yJ0_coder_7d493, Cond.selects RJ0 yJ0_coder_7d493 yJ0_coder_7d493, Cond.code yJ0_coder_7d493 cJ0_coder_7d493 1 (some .byte)]
def wsL_law_r5 : List Cond := [Cond.fieldLink RJ0 38 "java/lang/String" "COMPACT_STRINGS" "Z", Cond.fieldLink RJ0 15 "java/lang/String" "coder" "B", Cond.methodLink RX7 75 yJ0_charAt_5068e, Cond.instanceMethod yJ0_charAt_5068e, Cond.selects RJ0 yJ0_charAt_5068e yJ0_charAt_5068e, Cond.code yJ0_charAt_5068e cJ0_charAt_5068e 2 (some .char), Cond.methodLink RJ0 492 yJ0_isLatin1_aae02, Cond.instanceMethod yJ0_isLatin1_aae02, Cond.selects RJ0 yJ0_isLatin1_aae02 yJ0_isLatin1_aae02, Cond.code yJ0_isLatin1_aae02 cJ0_isLatin1_aae02 1 (some .boolean), Cond.methodLink RJ0 495 yJ1_charAt_3b067, Cond.static yJ1_charAt_3b067, Cond.initialized RJ1, Cond.code yJ1_charAt_3b067 cJ1_charAt_3b067 2 (some .char), Cond.methodLink RJ1 9 yJ0_checkIndex_df160, Cond.static yJ0_checkIndex_df160, Cond.code yJ0_checkIndex_df160 cJ0_checkIndex_df160 2 none, Cond.fieldLink RJ0 1053 "jdk/internal/util/Preconditions" "SIOOBE_FORMATTER" "Ljava/util/function/BiFunction;", Cond.methodLink RJ0 1059 yJ3_checkIndex_8e157, Cond.static yJ3_checkIndex_8e157, Cond.initialized RJ3, Cond.code yJ3_checkIndex_8e157 cJ3_checkIndex_8e157 3 (some .int), Cond.methodLink RJ0 498 yJ2_charAt_3b067, Cond.static yJ2_charAt_3b067]
def wsL_law_r6 : List Cond := [Cond.initialized RJ2, Cond.code yJ2_charAt_3b067 cJ2_charAt_3b067 2 (some .char), Cond.methodLink RJ2 67 yJ2_checkIndex_2214a, Cond.static yJ2_checkIndex_2214a, Cond.code yJ2_checkIndex_2214a cJ2_checkIndex_2214a 2 none, Cond.methodLink RJ2 48 yJ2_length_9d52b, Cond.static yJ2_length_9d52b, Cond.code yJ2_length_9d52b cJ2_length_9d52b 1 (some .int), Cond.methodLink RJ2 414 yJ0_checkIndex_df160, Cond.methodLink RJ2 71 yJ2_getChar_3b067, Cond.static yJ2_getChar_3b067, Cond.code yJ2_getChar_3b067 cJ2_getChar_3b067 2 (some .char), Cond.fieldLink RJ2 44 "java/lang/StringUTF16" "$assertionsDisabled" "Z", Cond.fieldLink RJ2 59 "java/lang/StringUTF16" "HI_BYTE_SHIFT" "I", Cond.fieldLink RJ2 63 "java/lang/StringUTF16" "LO_BYTE_SHIFT" "I", Cond.methodLink RX7 79 yX5_append, Cond.instanceMethod yX5_append, Cond.selects RX5 yX5_append yX5_append, Cond.code yX5_append cX5_append 2 (some .boolean), Cond.fieldLink RX5 18 "RingPages$Text" "length" "I", Cond.methodLink RX7 83 yX7_layText, Cond.instanceMethod yX7_layText, Cond.selects RX7 yX7_layText yX7_layText, Cond.code yX7_layText cX7_layText 3 (some .boolean)]
def wsL_law_r7 : List Cond := [Cond.fieldLink RX7 103 "RingPages$Past" "held" "I", Cond.methodLink RX7 90 yX5_readInto, Cond.instanceMethod yX5_readInto, Cond.selects RX5 yX5_readInto yX5_readInto, Cond.code yX5_readInto cX5_readInto 5 (some .int), Cond.fieldLink RX5 32 "RingPages$Text" "place" "I", Cond.methodLink RX5 22 yX1_begin, Cond.instanceMethod yX1_begin, Cond.selects RX1 yX1_begin yX1_begin, Cond.code yX1_begin cX1_begin 4 none, Cond.fieldLink RX1 33 "RingPages$Net" "cells" "I", Cond.fieldLink RX1 37 "RingPages$Net" "joins" "I", Cond.methodLink RX1 40 yX1_price, Cond.instanceMethod yX1_price, Cond.selects RX1 yX1_price yX1_price, Cond.code yX1_price cX1_price 5 none, Cond.fieldLink RX1 44 "RingPages$Net" "mostRounds" "I", Cond.fieldLink RX1 47 "RingPages$Net" "pageCost" "I", Cond.fieldLink RX1 50 "RingPages$Net" "updateCost" "I", Cond.fieldLink RX1 53 "RingPages$Net" "callChance" "I", Cond.methodLink RX5 28 yX4_begin, Cond.instanceMethod yX4_begin, Cond.selects RX4 yX4_begin yX4_begin, Cond.code yX4_begin cX4_begin 2 none]
def wsL_law_r8 : List Cond := [Cond.fieldLink RX4 18 "RingPages$State" "kind" "I", Cond.fieldLink RX4 22 "RingPages$State" "value" "I", Cond.fieldLink RX4 25 "RingPages$State" "cell" "I", Cond.fieldLink RX4 28 "RingPages$State" "updates" "I", Cond.fieldLink RX4 31 "RingPages$State" "paged" "I", Cond.methodLink RX4 34 yX4_register, Cond.instanceMethod yX4_register, Cond.selects RX4 yX4_register yX4_register, Cond.code yX4_register cX4_register 1 none, Cond.fieldLink RX4 43 "RingPages$State" "home" "I", Cond.fieldLink RX4 46 "RingPages$State" "moves" "I", Cond.fieldLink RX4 49 "RingPages$State" "ticks" "I", Cond.methodLink RX5 35 yX5_readItem, Cond.instanceMethod yX5_readItem, Cond.selects RX5 yX5_readItem yX5_readItem, Cond.code yX5_readItem cX5_readItem 5 (some .boolean), Cond.fieldLink RX5 43 "RingPages$Net" "cells" "I", Cond.fieldLink RX5 61 "RingPages$State" "stay" "[I", Cond.fieldLink RX5 68 "RingPages$State" "area" "[I", Cond.methodLink RX5 39 yX5_letterHere, Cond.instanceMethod yX5_letterHere, Cond.selects RX5 yX5_letterHere yX5_letterHere, Cond.code yX5_letterHere cX5_letterHere 1 (some .int), Cond.methodLink RX5 46 yX5_numbersBehind]
def wsL_law_r9 : List Cond := [Cond.instanceMethod yX5_numbersBehind, Cond.selects RX5 yX5_numbersBehind yX5_numbersBehind, Cond.code yX5_numbersBehind cX5_numbersBehind 2 (some .int), Cond.methodLink RX5 50 yX5_readNumbers, Cond.instanceMethod yX5_readNumbers, Cond.selects RX5 yX5_readNumbers yX5_readNumbers, Cond.code yX5_readNumbers cX5_readNumbers 3 (some .boolean), Cond.methodLink RX5 102 yX5_readNumber, Cond.instanceMethod yX5_readNumber, Cond.selects RX5 yX5_readNumber yX5_readNumber, Cond.code yX5_readNumber cX5_readNumber 3 (some .int), Cond.methodLink RX5 105 yX5_figureHere, Cond.instanceMethod yX5_figureHere, Cond.selects RX5 yX5_figureHere yX5_figureHere, Cond.code yX5_figureHere cX5_figureHere 2 (some .int), Cond.methodLink RX5 54 yX5_takeCells, Cond.instanceMethod yX5_takeCells, Cond.selects RX5 yX5_takeCells yX5_takeCells, Cond.code yX5_takeCells cX5_takeCells 2 (some .boolean), Cond.methodLink RX5 58 yX5_takeJoin, Cond.instanceMethod yX5_takeJoin, Cond.selects RX5 yX5_takeJoin yX5_takeJoin, Cond.code yX5_takeJoin cX5_takeJoin 4 (some .boolean), Cond.fieldLink RX5 78 "RingPages$Net" "weight" "[[I"]
def wsL_law_r10 : List Cond := [Cond.methodLink RX5 82 yX5_isWeight, Cond.instanceMethod yX5_isWeight, Cond.selects RX5 yX5_isWeight yX5_isWeight, Cond.code yX5_isWeight cX5_isWeight 2 (some .boolean), Cond.methodLink RX5 85 yX1_join, Cond.instanceMethod yX1_join, Cond.selects RX1 yX1_join yX1_join, Cond.code yX1_join cX1_join 5 none, Cond.methodLink RX1 56 yX1_lead, Cond.instanceMethod yX1_lead, Cond.selects RX1 yX1_lead yX1_lead, Cond.code yX1_lead cX1_lead 4 none, Cond.methodLink RX5 64 yX5_takeCellNumber, Cond.instanceMethod yX5_takeCellNumber, Cond.selects RX5 yX5_takeCellNumber yX5_takeCellNumber, Cond.code yX5_takeCellNumber cX5_takeCellNumber 4 (some .boolean), Cond.methodLink RX5 71 yX5_takeLaw, Cond.instanceMethod yX5_takeLaw, Cond.selects RX5 yX5_takeLaw yX5_takeLaw, Cond.code yX5_takeLaw cX5_takeLaw 2 (some .boolean), Cond.fieldLink RX5 93 "RingPages$State" "kind" "I", Cond.fieldLink RX5 96 "RingPages$State" "value" "I", Cond.static yX7_isLaw, Cond.code yX7_isLaw cX7_isLaw 2 (some .boolean)]
def wsL_law_r11 : List Cond := [Cond.methodLink RX5 75 yX5_takePrices, Cond.instanceMethod yX5_takePrices, Cond.selects RX5 yX5_takePrices yX5_takePrices, Cond.code yX5_takePrices cX5_takePrices 2 (some .boolean), Cond.methodLink RX5 99 yX1_price, Cond.methodLink RX7 97 yX1_isWhole, Cond.instanceMethod yX1_isWhole, Cond.selects RX1 yX1_isWhole yX1_isWhole, Cond.code yX1_isWhole cX1_isWhole 4 (some .boolean), Cond.methodLink RX1 60 Lib.Math.min.name, Cond.static Lib.Math.min.name, Cond.initialized "java/lang/Math", Cond.code Lib.Math.min.name Lib.Math.min.code 2 (some .int), Cond.methodLink RX7 100 yX1_growTrees, Cond.instanceMethod yX1_growTrees, Cond.selects RX1 yX1_growTrees yX1_growTrees, Cond.code yX1_growTrees cX1_growTrees 2 none, Cond.methodLink RX1 66 yX1_treesTo, Cond.instanceMethod yX1_treesTo, Cond.selects RX1 yX1_treesTo yX1_treesTo, Cond.code yX1_treesTo cX1_treesTo 4 (some .long), Cond.methodLink RX1 70 yJ6_bitCount_0f7a4, Cond.static yJ6_bitCount_0f7a4, Cond.initialized RJ6]
def wsL_law_r12 : List Cond := [Cond.code yJ6_bitCount_0f7a4 cJ6_bitCount_0f7a4 1 (some .int), Cond.constant RJ6 265 (1431655765), Cond.constant RJ6 266 (858993459), Cond.constant RJ6 267 (252645135), Cond.methodLink RX1 76 yX1_rowOf, Cond.instanceMethod yX1_rowOf, Cond.selects RX1 yX1_rowOf yX1_rowOf, Cond.code yX1_rowOf cX1_rowOf 3 (some .int), Cond.methodLink RX1 79 yX1_minorOf, Cond.instanceMethod yX1_minorOf, Cond.selects RX1 yX1_minorOf yX1_minorOf, Cond.code yX1_minorOf cX1_minorOf 9 (some .long), Cond.static yX7_holds, Cond.code yX7_holds cX7_holds 2 (some .boolean), Cond.methodLink RX7 106 yX0_reckon, Cond.instanceMethod yX0_reckon, Cond.selects RX0 yX0_reckon yX0_reckon, Cond.code yX0_reckon cX0_reckon 4 none, Cond.fieldLink RX0 22 "RingPages$LongRun" "below" "J", Cond.fieldLink RX0 26 "RingPages$Net" "cells" "I", Cond.fieldLink RX0 32 "RingPages$State" "stay" "[I", Cond.fieldLink RX0 37 "RingPages$Net" "out" "[I", Cond.fieldLink RX0 40 "RingPages$Net" "trees" "[J", Cond.fieldLink RX0 43 "RingPages$LongRun" "bestKnown" "Z"]
def wsL_law_r13 : List Cond := [Cond.methodLink RL 12 yX8_init, Cond.instanceMethod yX8_init, Cond.code yX8_init cX8_init 1 none, Cond.methodLink RX8 1 objectInit, Cond.fieldLink RX8 7 "RingPagesModel" "text" "[I", Cond.fieldLink RX8 13 "RingPagesModel" "weight" "[I", Cond.fieldLink RX8 16 "RingPagesModel" "price" "[I", Cond.fieldLink RX8 19 "RingPagesModel" "now" "[I", Cond.fieldLink RX8 22 "RingPagesModel" "was" "[I", Cond.fieldLink RX8 25 "RingPagesModel" "readWeight" "[I", Cond.fieldLink RX8 28 "RingPagesModel" "readPrice" "[I", Cond.fieldLink RX8 31 "RingPagesModel" "read" "[I", Cond.fieldLink RX8 34 "RingPagesModel" "can" "[I", Cond.fieldLink RX8 37 "RingPagesModel" "next" "[I", Cond.fieldLink RX8 40 "RingPagesModel" "trees" "[J", Cond.fieldLink RX8 44 "RingPagesModel" "table" "[J", Cond.fieldLink RX8 47 "RingPagesModel" "tried" "[I", Cond.fieldLink RX8 50 "RingPagesModel" "best" "[I", Cond.fieldLink RX8 53 "RingPagesModel" "row" "[I", Cond.fieldLink RX8 56 "RingPagesModel" "walker" "[I", Cond.fieldLink RX8 62 "RingPagesModel" "readCells" "I", Cond.methodLink RX8 59 yX8_clears, Cond.instanceMethod yX8_clears, Cond.selects RX8 yX8_clears yX8_clears]
def wsL_law_r14 : List Cond := [Cond.code yX8_clears cX8_clears 2 none, Cond.fieldLink RX8 73 "RingPagesModel" "readJoins" "I", Cond.methodLink RX8 66 yX8_joinOf, Cond.instanceMethod yX8_joinOf, Cond.selects RX8 yX8_joinOf yX8_joinOf, Cond.code yX8_joinOf cX8_joinOf 5 none, Cond.methodLink RX8 70 yX8_takes, Cond.instanceMethod yX8_takes, Cond.selects RX8 yX8_takes yX8_takes, Cond.code yX8_takes cX8_takes 2 none, Cond.fieldLink RX8 76 "RingPagesModel" "cells" "I", Cond.fieldLink RX8 79 "RingPagesModel" "joins" "I", Cond.fieldLink RX8 82 "RingPagesModel" "changes" "I", Cond.methodLink RL 13 yX7_write, Cond.instanceMethod yX7_write, Cond.selects RX7 yX7_write yX7_write, Cond.code yX7_write cX7_write 2 (some .int), Cond.methodLink RL 17 yX8_write, Cond.instanceMethod yX8_write, Cond.selects RX8 yX8_write yX8_write, Cond.code yX8_write cX8_write 2 (some .int), Cond.fieldLink RX8 85 "RingPagesModel" "length" "I", Cond.methodLink RL 18 yX7_wipe, Cond.instanceMethod yX7_wipe]
def wsL_law_r15 : List Cond := [Cond.selects RX7 yX7_wipe yX7_wipe, Cond.code yX7_wipe cX7_wipe 2 (some .int), Cond.methodLink RL 22 yX8_wipe, Cond.instanceMethod yX8_wipe, Cond.selects RX8 yX8_wipe yX8_wipe, Cond.code yX8_wipe cX8_wipe 2 (some .int), Cond.methodLink RL 23 yX7_fault, Cond.instanceMethod yX7_fault, Cond.selects RX7 yX7_fault yX7_fault, Cond.code yX7_fault cX7_fault 1 (some .int), Cond.methodLink RL 26 yX8_fault, Cond.instanceMethod yX8_fault, Cond.selects RX8 yX8_fault yX8_fault, Cond.code yX8_fault cX8_fault 1 (some .int), Cond.methodLink RX8 128 yX8_reads, Cond.instanceMethod yX8_reads, Cond.selects RX8 yX8_reads yX8_reads, Cond.code yX8_reads cX8_reads 2 (some .int), Cond.fieldLink RX8 91 "RingPagesModel" "ends" "I", Cond.methodLink RX8 125 yX8_readsItem, Cond.instanceMethod yX8_readsItem, Cond.selects RX8 yX8_readsItem yX8_readsItem, Cond.code yX8_readsItem cX8_readsItem 4 (some .boolean), Cond.fieldLink RX8 88 "RingPagesModel" "value" "I"]
def wsL_law_r16 : List Cond := [Cond.methodLink RX8 102 yX8_number, Cond.instanceMethod yX8_number, Cond.selects RX8 yX8_number yX8_number, Cond.code yX8_number cX8_number 4 (some .boolean), Cond.methodLink RX8 94 yX8_letterAt, Cond.instanceMethod yX8_letterAt, Cond.selects RX8 yX8_letterAt yX8_letterAt, Cond.code yX8_letterAt cX8_letterAt 2 (some .int), Cond.methodLink RX8 98 yX8_isIn, Cond.static yX8_isIn, Cond.code yX8_isIn cX8_isIn 3 (some .boolean), Cond.methodLink RX8 112 yX8_readsJoin, Cond.instanceMethod yX8_readsJoin, Cond.selects RX8 yX8_readsJoin yX8_readsJoin, Cond.code yX8_readsJoin cX8_readsJoin 5 (some .boolean), Cond.methodLink RX8 105 yX8_more, Cond.instanceMethod yX8_more, Cond.selects RX8 yX8_more yX8_more, Cond.code yX8_more cX8_more 3 (some .boolean), Cond.methodLink RX8 116 yX8_readsCell, Cond.instanceMethod yX8_readsCell, Cond.selects RX8 yX8_readsCell yX8_readsCell, Cond.code yX8_readsCell cX8_readsCell 5 (some .boolean), Cond.methodLink RX8 119 yX8_readsLaw]
def wsL_law_r17 : List Cond := [Cond.instanceMethod yX8_readsLaw, Cond.selects RX8 yX8_readsLaw yX8_readsLaw, Cond.code yX8_readsLaw cX8_readsLaw 4 (some .boolean), Cond.methodLink RX8 109 yX8_isLaw, Cond.static yX8_isLaw, Cond.code yX8_isLaw cX8_isLaw 2 (some .boolean), Cond.methodLink RX8 122 yX8_readsPrice, Cond.instanceMethod yX8_readsPrice, Cond.selects RX8 yX8_readsPrice yX8_readsPrice, Cond.code yX8_readsPrice cX8_readsPrice 5 (some .boolean), Cond.methodLink RL 27 yX7_lay, Cond.instanceMethod yX7_lay, Cond.selects RX7 yX7_lay yX7_lay, Cond.code yX7_lay cX7_lay 1 (some .int), Cond.fieldLink RX7 94 "RingPages$Net" "cells" "I", Cond.methodLink RL 30 yX8_lay, Cond.instanceMethod yX8_lay, Cond.selects RX8 yX8_lay yX8_lay, Cond.code yX8_lay cX8_lay 1 (some .int), Cond.methodLink RX8 132 yX8_hang, Cond.instanceMethod yX8_hang, Cond.selects RX8 yX8_hang yX8_hang, Cond.code yX8_hang cX8_hang 4 (some .boolean), Cond.methodLink RL 31 yX7_set]
def wsL_law_r18 : List Cond := [Cond.instanceMethod yX7_set, Cond.selects RX7 yX7_set yX7_set, Cond.code yX7_set cX7_set 5 (some .int), Cond.fieldLink RX7 113 "RingPages$State" "stay" "[I", Cond.fieldLink RX7 117 "RingPages$State" "area" "[I", Cond.methodLink RX7 110 yX7_isCell, Cond.instanceMethod yX7_isCell, Cond.selects RX7 yX7_isCell yX7_isCell, Cond.code yX7_isCell cX7_isCell 2 (some .boolean), Cond.methodLink RX7 120 yX2_keep, Cond.instanceMethod yX2_keep, Cond.selects RX2 yX2_keep yX2_keep, Cond.code yX2_keep cX2_keep 2 none, Cond.fieldLink RX2 18 "RingPages$Past" "next" "I", Cond.fieldLink RX2 26 "RingPages$Past" "held" "I", Cond.methodLink RX2 29 Lib.Math.min.name, Cond.methodLink RX2 22 yX4_copyFrom, Cond.instanceMethod yX4_copyFrom, Cond.selects RX4 yX4_copyFrom yX4_copyFrom, Cond.code yX4_copyFrom cX4_copyFrom 2 none, Cond.methodLink RX4 37 arraycopyName, Cond.native arraycopyName, Cond.static arraycopyName, Cond.initialized "java/lang/System"]
def wsL_law_r19 : List Cond := [Cond.methodLink RX7 124 yX4_register, Cond.methodLink RL 35 yX8_set, Cond.instanceMethod yX8_set, Cond.selects RX8 yX8_set yX8_set, Cond.code yX8_set cX8_set 5 (some .int), Cond.methodLink RX8 136 yX8_isCell, Cond.instanceMethod yX8_isCell, Cond.selects RX8 yX8_isCell yX8_isCell, Cond.code yX8_isCell cX8_isCell 2 (some .boolean), Cond.methodLink RX8 139 yX8_keeps, Cond.instanceMethod yX8_keeps, Cond.selects RX8 yX8_keeps yX8_keeps, Cond.code yX8_keeps cX8_keeps 2 none, Cond.methodLink RX8 142 yX8_registers, Cond.static yX8_registers, Cond.code yX8_registers cX8_registers 1 none, Cond.methodLink RL 36 yX7_law, Cond.instanceMethod yX7_law, Cond.selects RX7 yX7_law yX7_law, Cond.code yX7_law cX7_law 4 (some .int), Cond.fieldLink RX7 131 "RingPages$State" "kind" "I", Cond.fieldLink RX7 134 "RingPages$State" "value" "I", Cond.methodLink RX7 127 yX7_isLaw, Cond.methodLink RL 40 yX8_law]
def wsL_law_r20 : List Cond := [Cond.instanceMethod yX8_law, Cond.selects RX8 yX8_law yX8_law, Cond.code yX8_law cX8_law 4 (some .int), Cond.methodLink RL 41 yX7_give, Cond.instanceMethod yX7_give, Cond.selects RX7 yX7_give yX7_give, Cond.code yX7_give cX7_give 3 (some .int), Cond.fieldLink RX7 141 "RingPages$LongRun" "best" "[I", Cond.methodLink RX7 137 yX0_findBest, Cond.instanceMethod yX0_findBest, Cond.selects RX0 yX0_findBest yX0_findBest, Cond.code yX0_findBest cX0_findBest 5 none, Cond.fieldLink RX0 79 "RingPages$LongRun" "leastExpense" "J", Cond.methodLink RX0 68 yX0_expense, Cond.instanceMethod yX0_expense, Cond.selects RX0 yX0_expense yX0_expense, Cond.code yX0_expense cX0_expense 6 (some .long), Cond.fieldLink RX0 55 "RingPages$Net" "updateCost" "I", Cond.fieldLink RX0 62 "RingPages$Net" "pageCost" "I", Cond.fieldLink RX0 65 "RingPages$Net" "callChance" "I", Cond.static yX7_sameArea, Cond.code yX7_sameArea cX7_sameArea 5 (some .int), Cond.methodLink RX0 58 yX0_crosses, Cond.instanceMethod yX0_crosses]
def wsL_law_r21 : List Cond := [Cond.selects RX0 yX0_crosses yX0_crosses, Cond.code yX0_crosses cX0_crosses 7 (some .long), Cond.fieldLink RX0 47 "RingPages$Net" "weight" "[[I", Cond.methodLink RX0 71 yX0_takeTried, Cond.instanceMethod yX0_takeTried, Cond.selects RX0 yX0_takeTried yX0_takeTried, Cond.code yX0_takeTried cX0_takeTried 3 none, Cond.methodLink RX0 82 arraycopyName, Cond.methodLink RX0 75 yX0_nextTried, Cond.instanceMethod yX0_nextTried, Cond.selects RX0 yX0_nextTried yX0_nextTried, Cond.code yX0_nextTried cX0_nextTried 3 (some .boolean), Cond.methodLink RX0 88 yX0_highestAhead, Cond.instanceMethod yX0_highestAhead, Cond.selects RX0 yX0_highestAhead yX0_highestAhead, Cond.code yX0_highestAhead cX0_highestAhead 4 (some .int), Cond.methodLink RX0 92 Lib.Math.max.name, Cond.static Lib.Math.max.name, Cond.code Lib.Math.max.name Lib.Math.max.code 2 (some .int), Cond.methodLink RL 44 yX8_give, Cond.instanceMethod yX8_give, Cond.selects RX8 yX8_give yX8_give, Cond.code yX8_give cX8_give 3 (some .int), Cond.methodLink RX8 212 yX8_finds]
def wsL_law_r22 : List Cond := [Cond.instanceMethod yX8_finds, Cond.selects RX8 yX8_finds yX8_finds, Cond.code yX8_finds cX8_finds 6 (some .long), Cond.methodLink RX8 186 yX8_grows, Cond.instanceMethod yX8_grows, Cond.selects RX8 yX8_grows yX8_grows, Cond.code yX8_grows cX8_grows 6 none, Cond.methodLink RX8 146 yX8_out, Cond.instanceMethod yX8_out, Cond.selects RX8 yX8_out yX8_out, Cond.code yX8_out cX8_out 4 (some .int), Cond.methodLink RX8 176 yX8_determinant, Cond.instanceMethod yX8_determinant, Cond.selects RX8 yX8_determinant yX8_determinant, Cond.code yX8_determinant cX8_determinant 7 (some .long), Cond.methodLink RX8 203 yX8_expense, Cond.instanceMethod yX8_expense, Cond.selects RX8 yX8_expense yX8_expense, Cond.code yX8_expense cX8_expense 7 (some .long), Cond.constantLong RX8 197 (100), Cond.methodLink RX8 199 yX8_crossing, Cond.instanceMethod yX8_crossing, Cond.selects RX8 yX8_crossing yX8_crossing, Cond.code yX8_crossing cX8_crossing 8 (some .long)]
def wsL_law_r23 : List Cond := [Cond.methodLink RX8 149 yX8_sum, Cond.instanceMethod yX8_sum, Cond.selects RX8 yX8_sum yX8_sum, Cond.code yX8_sum cX8_sum 2 (some .int), Cond.methodLink RX8 209 yX8_goesOn, Cond.instanceMethod yX8_goesOn, Cond.selects RX8 yX8_goesOn yX8_goesOn, Cond.code yX8_goesOn cX8_goesOn 4 (some .boolean), Cond.methodLink RL 45 yX7_undo, Cond.instanceMethod yX7_undo, Cond.selects RX7 yX7_undo yX7_undo, Cond.code yX7_undo cX7_undo 1 (some .int), Cond.methodLink RX7 144 yX2_bringBack, Cond.instanceMethod yX2_bringBack, Cond.selects RX2 yX2_bringBack yX2_bringBack, Cond.code yX2_bringBack cX2_bringBack 2 (some .boolean), Cond.methodLink RL 48 yX8_undo, Cond.instanceMethod yX8_undo, Cond.selects RX8 yX8_undo yX8_undo, Cond.code yX8_undo cX8_undo 2 (some .int), Cond.methodLink RL 49 yX7_cell, Cond.instanceMethod yX7_cell, Cond.selects RX7 yX7_cell yX7_cell, Cond.code yX7_cell cX7_cell 3 (some .int)]
def wsL_law_r24 : List Cond := [Cond.fieldLink RX7 148 "RingPages$Net" "out" "[I", Cond.fieldLink RX7 151 "RingPages$Net" "near" "[I", Cond.methodLink RX7 154 yX7_sameArea, Cond.methodLink RL 52 yX8_cell, Cond.instanceMethod yX8_cell, Cond.selects RX8 yX8_cell yX8_cell, Cond.code yX8_cell cX8_cell 3 (some .int), Cond.methodLink RX8 152 yX8_joined, Cond.instanceMethod yX8_joined, Cond.selects RX8 yX8_joined yX8_joined, Cond.code yX8_joined cX8_joined 4 (some .int), Cond.methodLink RX8 155 yX8_likeArea, Cond.instanceMethod yX8_likeArea, Cond.selects RX8 yX8_likeArea yX8_likeArea, Cond.code yX8_likeArea cX8_likeArea 4 (some .int), Cond.methodLink RL 53 yX7_weight, Cond.instanceMethod yX7_weight, Cond.selects RX7 yX7_weight yX7_weight, Cond.code yX7_weight cX7_weight 3 (some .int), Cond.fieldLink RX7 158 "RingPages$Net" "weight" "[[I", Cond.methodLink RL 56 yX8_weight, Cond.instanceMethod yX8_weight, Cond.selects RX8 yX8_weight yX8_weight, Cond.code yX8_weight cX8_weight 3 (some .int)]
def wsL_law_r25 : List Cond := [Cond.methodLink RL 57 yX7_wide, Cond.instanceMethod yX7_wide, Cond.selects RX7 yX7_wide yX7_wide, Cond.code yX7_wide cX7_wide 3 (some .int), Cond.fieldLink RX7 162 "RingPages$Net" "wide" "[[I", Cond.methodLink RL 60 yX8_wide, Cond.instanceMethod yX8_wide, Cond.selects RX8 yX8_wide yX8_wide, Cond.code yX8_wide cX8_wide 3 (some .int), Cond.methodLink RX8 158 yX8_far, Cond.instanceMethod yX8_far, Cond.selects RX8 yX8_far yX8_far, Cond.code yX8_far cX8_far 7 (some .int), Cond.methodLink RL 61 yX7_tick, Cond.instanceMethod yX7_tick, Cond.selects RX7 yX7_tick yX7_tick, Cond.code yX7_tick cX7_tick 2 (some .int), Cond.methodLink RX7 165 yX4_canGo, Cond.instanceMethod yX4_canGo, Cond.selects RX4 yX4_canGo yX4_canGo, Cond.code yX4_canGo cX4_canGo 3 (some .boolean), Cond.fieldLink RX4 52 "RingPages$Net" "near" "[I", Cond.methodLink RX7 169 yX4_go, Cond.instanceMethod yX4_go]
def wsL_law_r26 : List Cond := [Cond.selects RX4 yX4_go yX4_go, Cond.code yX4_go cX4_go 3 (some .boolean), Cond.methodLink RX4 61 yX4_isDue, Cond.instanceMethod yX4_isDue, Cond.selects RX4 yX4_isDue yX4_isDue, Cond.code yX4_isDue cX4_isDue 2 (some .boolean), Cond.methodLink RX4 65 yX4_isOutside, Cond.instanceMethod yX4_isOutside, Cond.selects RX4 yX4_isOutside yX4_isOutside, Cond.code yX4_isOutside cX4_isOutside 3 (some .boolean), Cond.fieldLink RX4 69 "RingPages$Net" "wide" "[[I", Cond.methodLink RL 64 yX8_tick, Cond.instanceMethod yX8_tick, Cond.selects RX8 yX8_tick yX8_tick, Cond.code yX8_tick cX8_tick 3 (some .int), Cond.methodLink RX8 166 yX8_goes, Cond.instanceMethod yX8_goes, Cond.selects RX8 yX8_goes yX8_goes, Cond.code yX8_goes cX8_goes 3 (some .int), Cond.methodLink RX8 162 yX8_isDue, Cond.instanceMethod yX8_isDue, Cond.selects RX8 yX8_isDue yX8_isDue, Cond.code yX8_isDue cX8_isDue 2 (some .boolean), Cond.methodLink RL 65 yX7_page]
def wsL_law_r27 : List Cond := [Cond.instanceMethod yX7_page, Cond.selects RX7 yX7_page yX7_page, Cond.code yX7_page cX7_page 4 (some .int), Cond.fieldLink RX7 175 "RingPages$Rounds" "many" "I", Cond.fieldLink RX7 187 "RingPages$State" "cell" "I", Cond.fieldLink RX7 193 "RingPages$State" "paged" "I", Cond.methodLink RX7 172 yX7_seek, Cond.instanceMethod yX7_seek, Cond.selects RX7 yX7_seek yX7_seek, Cond.code yX7_seek cX7_seek 1 none, Cond.fieldLink RX7 217 "RingPages$LongRun" "above" "[J", Cond.fieldLink RX7 225 "RingPages$Net" "mostRounds" "I", Cond.methodLink RX7 214 yX6_find, Cond.instanceMethod yX6_find, Cond.selects RX6 yX6_find yX6_find, Cond.code yX6_find cX6_find 8 (some .int), Cond.fieldLink RX6 15 "RingPages$State" "kind" "I", Cond.fieldLink RX6 21 "RingPages$State" "value" "I", Cond.methodLink RX6 24 Lib.Math.min.name, Cond.fieldLink RX6 34 "RingPages$State" "home" "I", Cond.fieldLink RX6 37 "RingPages$State" "ticks" "I", Cond.methodLink RX6 30 yX6_insideOf, Cond.instanceMethod yX6_insideOf, Cond.selects RX6 yX6_insideOf yX6_insideOf]
def wsL_law_r28 : List Cond := [Cond.code yX6_insideOf cX6_insideOf 5 (some .int), Cond.fieldLink RX6 44 "RingPages$Net" "cells" "I", Cond.methodLink RX6 49 yX4_isOutside, Cond.methodLink RX6 40 yX6_step, Cond.instanceMethod yX6_step, Cond.selects RX6 yX6_step yX6_step, Cond.code yX6_step cX6_step 9 (some .boolean), Cond.methodLink RX6 53 yX6_movers, Cond.instanceMethod yX6_movers, Cond.selects RX6 yX6_movers yX6_movers, Cond.code yX6_movers cX6_movers 5 (some .int), Cond.fieldLink RX6 68 "RingPages$Net" "near" "[I", Cond.methodLink RX6 57 yX6_stayers, Cond.instanceMethod yX6_stayers, Cond.selects RX6 yX6_stayers yX6_stayers, Cond.code yX6_stayers cX6_stayers 6 (some .int), Cond.fieldLink RX6 65 "RingPages$State" "stay" "[I", Cond.methodLink RX7 221 yX3_lineUp, Cond.instanceMethod yX3_lineUp, Cond.selects RX3 yX3_lineUp yX3_lineUp, Cond.code yX3_lineUp cX3_lineUp 5 none, Cond.fieldLink RX3 15 "RingPages$Rounds" "length" "I", Cond.methodLink RX7 228 yX3_split, Cond.instanceMethod yX3_split]
def wsL_law_r29 : List Cond := [Cond.selects RX3 yX3_split yX3_split, Cond.code yX3_split cX3_split 10 none, Cond.constantLong RX3 23 (-1), Cond.fieldLink RX3 25 "RingPages$Rounds" "many" "I", Cond.fieldLink RX3 28 "RingPages$Rounds" "cuts" "I", Cond.methodLink RX3 31 yJ6_bitCount_0f7a4, Cond.methodLink RX3 37 yX3_meanPaged, Cond.instanceMethod yX3_meanPaged, Cond.selects RX3 yX3_meanPaged yX3_meanPaged, Cond.code yX3_meanPaged cX3_meanPaged 7 (some .long), Cond.methodLink RX3 41 yX3_isCutBehind, Cond.instanceMethod yX3_isCutBehind, Cond.selects RX3 yX3_isCutBehind yX3_isCutBehind, Cond.code yX3_isCutBehind cX3_isCutBehind 3 (some .boolean), Cond.methodLink RX7 178 yX3_cellsOf, Cond.instanceMethod yX3_cellsOf, Cond.selects RX3 yX3_cellsOf yX3_cellsOf, Cond.code yX3_cellsOf cX3_cellsOf 5 (some .int), Cond.methodLink RX7 182 yJ6_bitCount_0f7a4, Cond.methodLink RX7 190 yX7_holds, Cond.methodLink RL 68 yX8_page, Cond.instanceMethod yX8_page, Cond.selects RX8 yX8_page yX8_page, Cond.code yX8_page cX8_page 2 (some .int)]
def wsL_law_r30 : List Cond := [Cond.fieldLink RX8 221 "RingPagesModel" "cuts" "I", Cond.methodLink RX8 233 yX8_splits, Cond.instanceMethod yX8_splits, Cond.selects RX8 yX8_splits yX8_splits, Cond.code yX8_splits cX8_splits 8 none, Cond.fieldLink RX8 215 "RingPagesModel" "rows" "I", Cond.methodLink RX8 218 yX8_ranks, Cond.instanceMethod yX8_ranks, Cond.selects RX8 yX8_ranks yX8_ranks, Cond.code yX8_ranks cX8_ranks 4 none, Cond.methodLink RX8 173 yX8_whereIs, Cond.instanceMethod yX8_whereIs, Cond.selects RX8 yX8_whereIs yX8_whereIs, Cond.code yX8_whereIs cX8_whereIs 7 (some .int), Cond.methodLink RX8 170 yX8_allowed, Cond.instanceMethod yX8_allowed, Cond.selects RX8 yX8_allowed yX8_allowed, Cond.code yX8_allowed cX8_allowed 5 (some .int), Cond.methodLink RX8 224 yX8_paged, Cond.instanceMethod yX8_paged, Cond.selects RX8 yX8_paged yX8_paged, Cond.code yX8_paged cX8_paged 6 (some .long), Cond.methodLink RX8 227 yX8_bits, Cond.static yX8_bits]
def wsL_law_r31 : List Cond := [Cond.code yX8_bits cX8_bits 3 (some .int), Cond.methodLink RX8 230 yX8_isFirst, Cond.static yX8_isFirst, Cond.code yX8_isFirst cX8_isFirst 4 (some .boolean), Cond.methodLink RL 69 yX7_handset, Cond.instanceMethod yX7_handset, Cond.selects RX7 yX7_handset yX7_handset, Cond.code yX7_handset cX7_handset 2 (some .int), Cond.fieldLink RX7 196 "RingPages$State" "home" "I", Cond.fieldLink RX7 199 "RingPages$State" "moves" "I", Cond.fieldLink RX7 202 "RingPages$State" "ticks" "I", Cond.fieldLink RX7 205 "RingPages$State" "updates" "I", Cond.fieldLink RX7 208 "RingPages$Net" "pageCost" "I", Cond.fieldLink RX7 211 "RingPages$Net" "updateCost" "I", Cond.methodLink RL 72 yX8_handset, Cond.instanceMethod yX8_handset, Cond.selects RX8 yX8_handset yX8_handset, Cond.code yX8_handset cX8_handset 2 (some .int), Cond.methodLink RL 73 yX7_where, Cond.instanceMethod yX7_where, Cond.selects RX7 yX7_where yX7_where, Cond.code yX7_where cX7_where 1 (some .int), Cond.methodLink RL 76 yX8_where, Cond.instanceMethod yX8_where]
def wsL_law_r32 : List Cond := [Cond.selects RX8 yX8_where yX8_where, Cond.code yX8_where cX8_where 1 (some .int), Cond.methodLink RL 77 yX7_round, Cond.instanceMethod yX7_round, Cond.selects RX7 yX7_round yX7_round, Cond.code yX7_round cX7_round 2 (some .int), Cond.methodLink RL 80 yX8_round, Cond.instanceMethod yX8_round, Cond.selects RX8 yX8_round yX8_round, Cond.code yX8_round cX8_round 5 (some .int), Cond.methodLink RL 81 yX7_chance, Cond.instanceMethod yX7_chance, Cond.selects RX7 yX7_chance yX7_chance, Cond.code yX7_chance cX7_chance 3 (some .long), Cond.constantLong RX7 234 (-1), Cond.fieldLink RX7 236 "RingPages$LongRun" "below" "J", Cond.methodLink RX7 231 yX7_isPart, Cond.static yX7_isPart, Cond.code yX7_isPart cX7_isPart 1 (some .boolean), Cond.methodLink RX7 240 yX7_lowest, Cond.static yX7_lowest, Cond.code yX7_lowest cX7_lowest 7 (some .long), Cond.methodLink RX7 289 yX7_greatestShared, Cond.static yX7_greatestShared]
def wsL_law_r33 : List Cond := [Cond.code yX7_greatestShared cX7_greatestShared 7 (some .long), Cond.methodLink RL 85 yX8_chance, Cond.instanceMethod yX8_chance, Cond.selects RX8 yX8_chance yX8_chance, Cond.code yX8_chance cX8_chance 3 (some .long), Cond.constantLong RX8 184 (-1), Cond.methodLink RX8 189 yX8_below, Cond.instanceMethod yX8_below, Cond.selects RX8 yX8_below yX8_below, Cond.code yX8_below cX8_below 4 (some .long), Cond.methodLink RX8 193 yX8_term, Cond.static yX8_term, Cond.code yX8_term cX8_term 7 (some .long), Cond.methodLink RX8 180 yX8_common, Cond.static yX8_common, Cond.code yX8_common cX8_common 10 (some .long), Cond.methodLink RL 86 yX7_mean, Cond.instanceMethod yX7_mean, Cond.selects RX7 yX7_mean yX7_mean, Cond.code yX7_mean cX7_mean 3 (some .long), Cond.constantLong RX7 259 (100), Cond.methodLink RX7 244 yX0_crosses, Cond.methodLink RX7 248 yX0_movesOn, Cond.instanceMethod yX0_movesOn]
def wsL_law_r34 : List Cond := [Cond.selects RX0 yX0_movesOn yX0_movesOn, Cond.code yX0_movesOn cX0_movesOn 5 (some .long), Cond.methodLink RX7 252 yX7_rate, Cond.instanceMethod yX7_rate, Cond.selects RX7 yX7_rate yX7_rate, Cond.code yX7_rate cX7_rate 2 (some .long), Cond.constantLong RX7 261 (-4), Cond.methodLink RX7 256 yX0_expense, Cond.methodLink RL 89 yX8_mean, Cond.instanceMethod yX8_mean, Cond.selects RX8 yX8_mean yX8_mean, Cond.code yX8_mean cX8_mean 5 (some .long), Cond.constantLong RX8 207 (-4), Cond.methodLink RL 90 yX7_best, Cond.instanceMethod yX7_best, Cond.selects RX7 yX7_best yX7_best, Cond.code yX7_best cX7_best 2 (some .int), Cond.methodLink RL 93 yX8_best, Cond.instanceMethod yX8_best, Cond.selects RX8 yX8_best yX8_best, Cond.code yX8_best cX8_best 2 (some .int), Cond.methodLink RL 94 yX7_least, Cond.instanceMethod yX7_least, Cond.selects RX7 yX7_least yX7_least]
def wsL_law_r35 : List Cond := [Cond.code yX7_least cX7_least 2 (some .long), Cond.fieldLink RX7 263 "RingPages$LongRun" "leastExpense" "J", Cond.methodLink RL 98 yX8_least, Cond.instanceMethod yX8_least, Cond.selects RX8 yX8_least yX8_least, Cond.code yX8_least cX8_least 2 (some .long), Cond.methodLink RL 99 yX7_walk, Cond.instanceMethod yX7_walk, Cond.selects RX7 yX7_walk yX7_walk, Cond.code yX7_walk cX7_walk 8 (some .int), Cond.methodLink RX7 266 yX4_copyFrom, Cond.methodLink RX7 269 yX7_draw, Cond.static yX7_draw, Cond.code yX7_draw cX7_draw 4 (some .int), Cond.constantLong RX7 283 (7919), Cond.constantLong RX7 285 (6151), Cond.constantLong RX7 287 (65521), Cond.methodLink RX7 273 yX4_drawnCell, Cond.instanceMethod yX4_drawnCell, Cond.selects RX4 yX4_drawnCell yX4_drawnCell, Cond.code yX4_drawnCell cX4_drawnCell 7 (some .int), Cond.fieldLink RX4 73 "RingPages$Net" "out" "[I", Cond.fieldLink RX4 76 "RingPages$Net" "cells" "I", Cond.fieldLink RX4 79 "RingPages$Net" "weight" "[[I"]
def wsL_law_r36 : List Cond := [Cond.methodLink RL 102 yX8_walk, Cond.instanceMethod yX8_walk, Cond.selects RX8 yX8_walk yX8_walk, Cond.code yX8_walk cX8_walk 13 (some .int), Cond.constantLong RX8 236 (7919), Cond.constantLong RX8 238 (6151), Cond.constantLong RX8 240 (65521), Cond.methodLink RL 103 yX7_count, Cond.instanceMethod yX7_count, Cond.selects RX7 yX7_count yX7_count, Cond.code yX7_count cX7_count 2 (some .int), Cond.fieldLink RX7 277 "RingPages$Net" "joins" "I", Cond.fieldLink RX7 280 "RingPages$Net" "callChance" "I", Cond.methodLink RL 106 yX8_count, Cond.instanceMethod yX8_count, Cond.selects RX8 yX8_count yX8_count, Cond.code yX8_count cX8_count 2 (some .int)]
def wsL_law : List Cond := (wsL_law_r1 ++ (wsL_law_r2 ++ (wsL_law_r3 ++ (wsL_law_r4 ++ (wsL_law_r5 ++ (wsL_law_r6 ++ (wsL_law_r7 ++ (wsL_law_r8 ++ (wsL_law_r9 ++ (wsL_law_r10 ++ (wsL_law_r11 ++ (wsL_law_r12 ++ (wsL_law_r13 ++ (wsL_law_r14 ++ (wsL_law_r15 ++ (wsL_law_r16 ++ (wsL_law_r17 ++ (wsL_law_r18 ++ (wsL_law_r19 ++ (wsL_law_r20 ++ (wsL_law_r21 ++ (wsL_law_r22 ++ (wsL_law_r23 ++ (wsL_law_r24 ++ (wsL_law_r25 ++ (wsL_law_r26 ++ (wsL_law_r27 ++ (wsL_law_r28 ++ (wsL_law_r29 ++ (wsL_law_r30 ++ (wsL_law_r31 ++ (wsL_law_r32 ++ (wsL_law_r33 ++ (wsL_law_r34 ++ (wsL_law_r35 ++ wsL_law_r36))))))))))))))))))))))))))))))))))) ++ wsX70 ++ wsX80 ++ wsX50 ++ wsX20 ++ wsX00 ++ wsX60 ++ wsX30 ++ wsX40 ++ wsX10 ++ ([] : List Cond)
set_option maxRecDepth 20000 in
theorem wsL_law_in : ∀ w ∈ wsL_law, w ∈ lw_tbl := fun w h => (goodIn_p wsL_law [85, 88, 93, 114, 121, 189, 219, 229, 251, 322, 326, 332, 336, 339, 342, 347, 350, 353, 356, 360, 370, 374, 378, 382, 386, 390, 394, 398, 402, 406, 410, 414, 418, 422, 426, 430, 434, 438, 442, 446, 449, 453, 458, 461, 465, 469, 472, 479, 483, 486, 490, 771, 776, 780, 784, 526, 867, 530, 871, 534, 875, 879, 883, 887, 891, 894, 898, 902, 906, 910, 913, 917, 538, 921, 925, 542, 546, 550, 554, 933, 937, 941, 944, 563, 948, 568, 572, 576, 579, 583, 587, 592, 596, 599, 1065, 1053, 1017, 960, 1021, 1043, 1039, 956, 1057, 603, 607, 929, 611, 952, 964, 968, 616, 972, 620, 976, 980, 624, 628, 633, 637, 641, 984, 988, 992, 645, 649, 653, 658, 663, 667, 672, 676, 681, 687, 691, 695, 1091, 1073, 1077, 1004, 1008, 1081, 1084, 1087, 701, 996, 705, 1000, 709, 1069, 713, 716, 720, 723, 1012, 1025, 1028, 1031, 727, 732, 736, 1035, 743, 1049, 747, 1061, 751, 755, 762, 1095, 766, 1102] (by decide +kernel) (by decide +kernel) w h).1
theorem inlX0 : ∀ w ∈ wsX00, w ∈ wsL_law := fun _ h => List.mem_append_left _ (List.mem_append_left _ (List.mem_append_left _ (List.mem_append_left _ (List.mem_append_left _ (List.mem_append_right _ h)))))
theorem inX0 : ∀ w ∈ wsX00, w ∈ lw_tbl := fun w h => wsL_law_in w (inlX0 w h)
theorem inlX1 : ∀ w ∈ wsX10, w ∈ wsL_law := fun _ h => List.mem_append_left _ (List.mem_append_right _ h)
theorem inX1 : ∀ w ∈ wsX10, w ∈ lw_tbl := fun w h => wsL_law_in w (inlX1 w h)
theorem inlX2 : ∀ w ∈ wsX20, w ∈ wsL_law := fun _ h => List.mem_append_left _ (List.mem_append_left _ (List.mem_append_left _ (List.mem_append_left _ (List.mem_append_left _ (List.mem_append_left _ (List.mem_append_right _ h))))))
theorem inX2 : ∀ w ∈ wsX20, w ∈ lw_tbl := fun w h => wsL_law_in w (inlX2 w h)
theorem inlX3 : ∀ w ∈ wsX30, w ∈ wsL_law := fun _ h => List.mem_append_left _ (List.mem_append_left _ (List.mem_append_left _ (List.mem_append_right _ h)))
theorem inX3 : ∀ w ∈ wsX30, w ∈ lw_tbl := fun w h => wsL_law_in w (inlX3 w h)
theorem inlX4 : ∀ w ∈ wsX40, w ∈ wsL_law := fun _ h => List.mem_append_left _ (List.mem_append_left _ (List.mem_append_right _ h))
theorem inX4 : ∀ w ∈ wsX40, w ∈ lw_tbl := fun w h => wsL_law_in w (inlX4 w h)
theorem inlX5 : ∀ w ∈ wsX50, w ∈ wsL_law := fun _ h => List.mem_append_left _ (List.mem_append_left _ (List.mem_append_left _ (List.mem_append_left _ (List.mem_append_left _ (List.mem_append_left _ (List.mem_append_left _ (List.mem_append_right _ h)))))))
theorem inX5 : ∀ w ∈ wsX50, w ∈ lw_tbl := fun w h => wsL_law_in w (inlX5 w h)
theorem inlX6 : ∀ w ∈ wsX60, w ∈ wsL_law := fun _ h => List.mem_append_left _ (List.mem_append_left _ (List.mem_append_left _ (List.mem_append_left _ (List.mem_append_right _ h))))
theorem inX6 : ∀ w ∈ wsX60, w ∈ lw_tbl := fun w h => wsL_law_in w (inlX6 w h)
theorem inlX7 : ∀ w ∈ wsX70, w ∈ wsL_law := fun _ h => List.mem_append_left _ (List.mem_append_left _ (List.mem_append_left _ (List.mem_append_left _ (List.mem_append_left _ (List.mem_append_left _ (List.mem_append_left _ (List.mem_append_left _ (List.mem_append_left _ (List.mem_append_right _ h)))))))))
theorem inX7 : ∀ w ∈ wsX70, w ∈ lw_tbl := fun w h => wsL_law_in w (inlX7 w h)
theorem inlX8 : ∀ w ∈ wsX80, w ∈ wsL_law := fun _ h => List.mem_append_left _ (List.mem_append_left _ (List.mem_append_left _ (List.mem_append_left _ (List.mem_append_left _ (List.mem_append_left _ (List.mem_append_left _ (List.mem_append_left _ (List.mem_append_right _ h))))))))
theorem inX8 : ∀ w ∈ wsX80, w ∈ lw_tbl := fun w h => wsL_law_in w (inlX8 w h)
theorem inJ6 : ∀ w ∈ wsJ60, w ∈ lw_tbl := by decide +kernel
theorem inJ9 : ∀ w ∈ wsJ90, w ∈ lw_tbl := by decide +kernel
theorem inJ0 : ∀ w ∈ wsJ00, w ∈ lw_tbl := by decide +kernel
theorem inJ1 : ∀ w ∈ wsJ10, w ∈ lw_tbl := by decide +kernel
theorem inJ2 : ∀ w ∈ wsJ20, w ∈ lw_tbl := by decide +kernel
theorem inJ10 : ∀ w ∈ wsJ100, w ∈ lw_tbl := by decide +kernel
theorem inJ3 : ∀ w ∈ wsJ30, w ∈ lw_tbl := by decide +kernel
theorem dX0_init_0 : decode cX0_init 0 = .ok (.aload_n 0, 1) := by decide +kernel
theorem dX0_init_1 : decode cX0_init 1 = .ok (.invokespecial 3, 3) := by decide +kernel
theorem dX0_init_4 : decode cX0_init 4 = .ok (.aload_n 0, 1) := by decide +kernel
theorem dX0_init_5 : decode cX0_init 5 = .ok (.bipush 6, 2) := by decide +kernel
theorem dX0_init_7 : decode cX0_init 7 = .ok (.newarray .long, 2) := by decide +kernel
theorem dX0_init_9 : decode cX0_init 9 = .ok (.putfield 9, 3) := by decide +kernel
theorem dX0_init_12 : decode cX0_init 12 = .ok (.aload_n 0, 1) := by decide +kernel
theorem dX0_init_13 : decode cX0_init 13 = .ok (.bipush 6, 2) := by decide +kernel
theorem dX0_init_15 : decode cX0_init 15 = .ok (.newarray .int, 2) := by decide +kernel
theorem dX0_init_17 : decode cX0_init 17 = .ok (.putfield 15, 3) := by decide +kernel
theorem dX0_init_20 : decode cX0_init 20 = .ok (.aload_n 0, 1) := by decide +kernel
theorem dX0_init_21 : decode cX0_init 21 = .ok (.bipush 6, 2) := by decide +kernel
theorem dX0_init_23 : decode cX0_init 23 = .ok (.newarray .int, 2) := by decide +kernel
theorem dX0_init_25 : decode cX0_init 25 = .ok (.putfield 19, 3) := by decide +kernel
theorem dX0_init_28 : decode cX0_init 28 = .ok (.return_, 1) := by decide +kernel
theorem dX0_reckon_0 : decode cX0_reckon 0 = .ok (.aload_n 0, 1) := by decide +kernel
theorem dX0_reckon_1 : decode cX0_reckon 1 = .ok (.lconst 0, 1) := by decide +kernel
theorem dX0_reckon_2 : decode cX0_reckon 2 = .ok (.putfield 22, 3) := by decide +kernel
theorem dX0_reckon_5 : decode cX0_reckon 5 = .ok (.iconst 0, 1) := by decide +kernel
theorem dX0_reckon_6 : decode cX0_reckon 6 = .ok (.istore_n 3, 1) := by decide +kernel
theorem dX0_reckon_7 : decode cX0_reckon 7 = .ok (.iload_n 3, 1) := by decide +kernel
theorem dX0_reckon_8 : decode cX0_reckon 8 = .ok (.aload_n 1, 1) := by decide +kernel
theorem dX0_reckon_9 : decode cX0_reckon 9 = .ok (.getfield 26, 3) := by decide +kernel
theorem dX0_reckon_12 : decode cX0_reckon 12 = .ok (.if_icmp .ge 51, 3) := by decide +kernel
theorem dX0_reckon_15 : decode cX0_reckon 15 = .ok (.aload_n 0, 1) := by decide +kernel
theorem dX0_reckon_16 : decode cX0_reckon 16 = .ok (.getfield 9, 3) := by decide +kernel
theorem dX0_reckon_19 : decode cX0_reckon 19 = .ok (.iload_n 3, 1) := by decide +kernel
theorem dX0_reckon_20 : decode cX0_reckon 20 = .ok (.aload_n 2, 1) := by decide +kernel
theorem dX0_reckon_21 : decode cX0_reckon 21 = .ok (.getfield 32, 3) := by decide +kernel
theorem dX0_reckon_24 : decode cX0_reckon 24 = .ok (.iload_n 3, 1) := by decide +kernel
theorem dX0_reckon_25 : decode cX0_reckon 25 = .ok (.iaload, 1) := by decide +kernel
theorem dX0_reckon_26 : decode cX0_reckon 26 = .ok (.aload_n 1, 1) := by decide +kernel
theorem dX0_reckon_27 : decode cX0_reckon 27 = .ok (.getfield 37, 3) := by decide +kernel
theorem dX0_reckon_30 : decode cX0_reckon 30 = .ok (.iload_n 3, 1) := by decide +kernel
theorem dX0_reckon_31 : decode cX0_reckon 31 = .ok (.iaload, 1) := by decide +kernel
theorem dX0_reckon_32 : decode cX0_reckon 32 = .ok (.iadd, 1) := by decide +kernel
theorem dX0_reckon_33 : decode cX0_reckon 33 = .ok (.i2l, 1) := by decide +kernel
theorem dX0_reckon_34 : decode cX0_reckon 34 = .ok (.aload_n 1, 1) := by decide +kernel
theorem dX0_reckon_35 : decode cX0_reckon 35 = .ok (.getfield 40, 3) := by decide +kernel
theorem dX0_reckon_38 : decode cX0_reckon 38 = .ok (.iload_n 3, 1) := by decide +kernel
theorem dX0_reckon_39 : decode cX0_reckon 39 = .ok (.laload, 1) := by decide +kernel
theorem dX0_reckon_40 : decode cX0_reckon 40 = .ok (.lmul, 1) := by decide +kernel
theorem dX0_reckon_41 : decode cX0_reckon 41 = .ok (.lastore, 1) := by decide +kernel
theorem dX0_reckon_42 : decode cX0_reckon 42 = .ok (.aload_n 0, 1) := by decide +kernel
theorem dX0_reckon_43 : decode cX0_reckon 43 = .ok (.dup, 1) := by decide +kernel
theorem dX0_reckon_44 : decode cX0_reckon 44 = .ok (.getfield 22, 3) := by decide +kernel
theorem dX0_reckon_47 : decode cX0_reckon 47 = .ok (.aload_n 0, 1) := by decide +kernel
theorem dX0_reckon_48 : decode cX0_reckon 48 = .ok (.getfield 9, 3) := by decide +kernel
theorem dX0_reckon_51 : decode cX0_reckon 51 = .ok (.iload_n 3, 1) := by decide +kernel
theorem dX0_reckon_52 : decode cX0_reckon 52 = .ok (.laload, 1) := by decide +kernel
theorem dX0_reckon_53 : decode cX0_reckon 53 = .ok (.ladd, 1) := by decide +kernel
theorem dX0_reckon_54 : decode cX0_reckon 54 = .ok (.putfield 22, 3) := by decide +kernel
theorem dX0_reckon_57 : decode cX0_reckon 57 = .ok (.iinc 3 1, 3) := by decide +kernel
theorem dX0_reckon_60 : decode cX0_reckon 60 = .ok (.goto (-53), 3) := by decide +kernel
theorem dX0_reckon_63 : decode cX0_reckon 63 = .ok (.aload_n 0, 1) := by decide +kernel
theorem dX0_reckon_64 : decode cX0_reckon 64 = .ok (.iconst 0, 1) := by decide +kernel
theorem dX0_reckon_65 : decode cX0_reckon 65 = .ok (.putfield 43, 3) := by decide +kernel
theorem dX0_reckon_68 : decode cX0_reckon 68 = .ok (.return_, 1) := by decide +kernel
theorem dX0_crosses_0 : decode cX0_crosses 0 = .ok (.lconst 0, 1) := by decide +kernel
theorem dX0_crosses_1 : decode cX0_crosses 1 = .ok (.lstore_n 3, 1) := by decide +kernel
theorem dX0_crosses_2 : decode cX0_crosses 2 = .ok (.iconst 0, 1) := by decide +kernel
theorem dX0_crosses_3 : decode cX0_crosses 3 = .ok (.istore 5, 2) := by decide +kernel
theorem dX0_crosses_5 : decode cX0_crosses 5 = .ok (.iload 5, 2) := by decide +kernel
theorem dX0_crosses_7 : decode cX0_crosses 7 = .ok (.aload_n 1, 1) := by decide +kernel
theorem dX0_crosses_8 : decode cX0_crosses 8 = .ok (.getfield 26, 3) := by decide +kernel
theorem dX0_crosses_11 : decode cX0_crosses 11 = .ok (.if_icmp .ge 60, 3) := by decide +kernel
theorem dX0_crosses_14 : decode cX0_crosses 14 = .ok (.iconst 0, 1) := by decide +kernel
theorem dX0_crosses_15 : decode cX0_crosses 15 = .ok (.istore 6, 2) := by decide +kernel
theorem dX0_crosses_17 : decode cX0_crosses 17 = .ok (.iload 6, 2) := by decide +kernel
theorem dX0_crosses_19 : decode cX0_crosses 19 = .ok (.aload_n 1, 1) := by decide +kernel
theorem dX0_crosses_20 : decode cX0_crosses 20 = .ok (.getfield 26, 3) := by decide +kernel
theorem dX0_crosses_23 : decode cX0_crosses 23 = .ok (.if_icmp .ge 42, 3) := by decide +kernel
theorem dX0_crosses_26 : decode cX0_crosses 26 = .ok (.aload_n 2, 1) := by decide +kernel
theorem dX0_crosses_27 : decode cX0_crosses 27 = .ok (.iload 5, 2) := by decide +kernel
theorem dX0_crosses_29 : decode cX0_crosses 29 = .ok (.iaload, 1) := by decide +kernel
theorem dX0_crosses_30 : decode cX0_crosses 30 = .ok (.aload_n 2, 1) := by decide +kernel
theorem dX0_crosses_31 : decode cX0_crosses 31 = .ok (.iload 6, 2) := by decide +kernel
theorem dX0_crosses_33 : decode cX0_crosses 33 = .ok (.iaload, 1) := by decide +kernel
theorem dX0_crosses_34 : decode cX0_crosses 34 = .ok (.if_icmp .eq 25, 3) := by decide +kernel
theorem dX0_crosses_37 : decode cX0_crosses 37 = .ok (.lload_n 3, 1) := by decide +kernel
theorem dX0_crosses_38 : decode cX0_crosses 38 = .ok (.aload_n 1, 1) := by decide +kernel
theorem dX0_crosses_39 : decode cX0_crosses 39 = .ok (.getfield 40, 3) := by decide +kernel
theorem dX0_crosses_42 : decode cX0_crosses 42 = .ok (.iload 5, 2) := by decide +kernel
theorem dX0_crosses_44 : decode cX0_crosses 44 = .ok (.laload, 1) := by decide +kernel
theorem dX0_crosses_45 : decode cX0_crosses 45 = .ok (.aload_n 1, 1) := by decide +kernel
theorem dX0_crosses_46 : decode cX0_crosses 46 = .ok (.getfield 47, 3) := by decide +kernel
theorem dX0_crosses_49 : decode cX0_crosses 49 = .ok (.iload 5, 2) := by decide +kernel
theorem dX0_crosses_51 : decode cX0_crosses 51 = .ok (.aaload, 1) := by decide +kernel
theorem dX0_crosses_52 : decode cX0_crosses 52 = .ok (.iload 6, 2) := by decide +kernel
theorem dX0_crosses_54 : decode cX0_crosses 54 = .ok (.iaload, 1) := by decide +kernel
theorem dX0_crosses_55 : decode cX0_crosses 55 = .ok (.i2l, 1) := by decide +kernel
theorem dX0_crosses_56 : decode cX0_crosses 56 = .ok (.lmul, 1) := by decide +kernel
theorem dX0_crosses_57 : decode cX0_crosses 57 = .ok (.ladd, 1) := by decide +kernel
theorem dX0_crosses_58 : decode cX0_crosses 58 = .ok (.lstore_n 3, 1) := by decide +kernel
theorem dX0_crosses_59 : decode cX0_crosses 59 = .ok (.iinc 6 1, 3) := by decide +kernel
theorem dX0_crosses_62 : decode cX0_crosses 62 = .ok (.goto (-45), 3) := by decide +kernel
theorem dX0_crosses_65 : decode cX0_crosses 65 = .ok (.iinc 5 1, 3) := by decide +kernel
theorem dX0_crosses_68 : decode cX0_crosses 68 = .ok (.goto (-63), 3) := by decide +kernel
theorem dX0_crosses_71 : decode cX0_crosses 71 = .ok (.lload_n 3, 1) := by decide +kernel
theorem dX0_crosses_72 : decode cX0_crosses 72 = .ok (.lreturn, 1) := by decide +kernel
theorem dX0_movesOn_0 : decode cX0_movesOn 0 = .ok (.lconst 0, 1) := by decide +kernel
theorem dX0_movesOn_1 : decode cX0_movesOn 1 = .ok (.lstore_n 2, 1) := by decide +kernel
theorem dX0_movesOn_2 : decode cX0_movesOn 2 = .ok (.iconst 0, 1) := by decide +kernel
theorem dX0_movesOn_3 : decode cX0_movesOn 3 = .ok (.istore 4, 2) := by decide +kernel
theorem dX0_movesOn_5 : decode cX0_movesOn 5 = .ok (.iload 4, 2) := by decide +kernel
theorem dX0_movesOn_7 : decode cX0_movesOn 7 = .ok (.aload_n 1, 1) := by decide +kernel
theorem dX0_movesOn_8 : decode cX0_movesOn 8 = .ok (.getfield 26, 3) := by decide +kernel
theorem dX0_movesOn_11 : decode cX0_movesOn 11 = .ok (.if_icmp .ge 28, 3) := by decide +kernel
theorem dX0_movesOn_14 : decode cX0_movesOn 14 = .ok (.lload_n 2, 1) := by decide +kernel
theorem dX0_movesOn_15 : decode cX0_movesOn 15 = .ok (.aload_n 1, 1) := by decide +kernel
theorem dX0_movesOn_16 : decode cX0_movesOn 16 = .ok (.getfield 40, 3) := by decide +kernel
theorem dX0_movesOn_19 : decode cX0_movesOn 19 = .ok (.iload 4, 2) := by decide +kernel
theorem dX0_movesOn_21 : decode cX0_movesOn 21 = .ok (.laload, 1) := by decide +kernel
theorem dX0_movesOn_22 : decode cX0_movesOn 22 = .ok (.aload_n 1, 1) := by decide +kernel
theorem dX0_movesOn_23 : decode cX0_movesOn 23 = .ok (.getfield 37, 3) := by decide +kernel
theorem dX0_movesOn_26 : decode cX0_movesOn 26 = .ok (.iload 4, 2) := by decide +kernel
theorem dX0_movesOn_28 : decode cX0_movesOn 28 = .ok (.iaload, 1) := by decide +kernel
theorem dX0_movesOn_29 : decode cX0_movesOn 29 = .ok (.i2l, 1) := by decide +kernel
theorem dX0_movesOn_30 : decode cX0_movesOn 30 = .ok (.lmul, 1) := by decide +kernel
theorem dX0_movesOn_31 : decode cX0_movesOn 31 = .ok (.ladd, 1) := by decide +kernel
theorem dX0_movesOn_32 : decode cX0_movesOn 32 = .ok (.lstore_n 2, 1) := by decide +kernel
theorem dX0_movesOn_33 : decode cX0_movesOn 33 = .ok (.iinc 4 1, 3) := by decide +kernel
theorem dX0_movesOn_36 : decode cX0_movesOn 36 = .ok (.goto (-31), 3) := by decide +kernel
theorem dX0_movesOn_39 : decode cX0_movesOn 39 = .ok (.lload_n 2, 1) := by decide +kernel
theorem dX0_movesOn_40 : decode cX0_movesOn 40 = .ok (.lreturn, 1) := by decide +kernel
set_option maxRecDepth 20000 in
theorem ggX0_expense_X7_sameArea : GoodIn wsX0_expense wsX7_sameArea := goodIn_r _ [8] (by decide +kernel) (by decide +kernel)
set_option maxRecDepth 20000 in
theorem gX0_expense_X7_sameArea_n51 : GoodIn wsX0_expense (wsX7_sameArea) := ggX0_expense_X7_sameArea
set_option maxRecDepth 20000 in
theorem ggX0_expense_X0_crosses : GoodIn wsX0_expense wsX0_crosses := goodIn_r _ [13, 1, 14, 15, 16, 17, 18, 19, 20, 21, 22, 23, 24, 25, 26, 27] (by decide +kernel) (by decide +kernel)
set_option maxRecDepth 20000 in
theorem gX0_expense_X0_crosses : GoodIn wsX0_expense (wsV RX0 58 RX0 yX0_crosses wsX0_crosses) := goodIn_app (goodIn_of _ (by decide +kernel)) ggX0_expense_X0_crosses
theorem dX0_expense_0 : decode cX0_expense 0 = .ok (.lconst 0, 1) := by decide +kernel
theorem dX0_expense_1 : decode cX0_expense 1 = .ok (.lstore_n 3, 1) := by decide +kernel
theorem dX0_expense_2 : decode cX0_expense 2 = .ok (.iconst 0, 1) := by decide +kernel
theorem dX0_expense_3 : decode cX0_expense 3 = .ok (.istore 5, 2) := by decide +kernel
theorem dX0_expense_5 : decode cX0_expense 5 = .ok (.iload 5, 2) := by decide +kernel
theorem dX0_expense_7 : decode cX0_expense 7 = .ok (.aload_n 1, 1) := by decide +kernel
theorem dX0_expense_8 : decode cX0_expense 8 = .ok (.getfield 26, 3) := by decide +kernel
theorem dX0_expense_11 : decode cX0_expense 11 = .ok (.if_icmp .ge 31, 3) := by decide +kernel
theorem dX0_expense_14 : decode cX0_expense 14 = .ok (.lload_n 3, 1) := by decide +kernel
theorem dX0_expense_15 : decode cX0_expense 15 = .ok (.aload_n 0, 1) := by decide +kernel
theorem dX0_expense_16 : decode cX0_expense 16 = .ok (.getfield 9, 3) := by decide +kernel
theorem dX0_expense_19 : decode cX0_expense 19 = .ok (.iload 5, 2) := by decide +kernel
theorem dX0_expense_21 : decode cX0_expense 21 = .ok (.laload, 1) := by decide +kernel
theorem dX0_expense_22 : decode cX0_expense 22 = .ok (.aload_n 1, 1) := by decide +kernel
theorem dX0_expense_23 : decode cX0_expense 23 = .ok (.getfield 26, 3) := by decide +kernel
theorem dX0_expense_26 : decode cX0_expense 26 = .ok (.aload_n 2, 1) := by decide +kernel
theorem dX0_expense_27 : decode cX0_expense 27 = .ok (.iload 5, 2) := by decide +kernel
theorem dX0_expense_29 : decode cX0_expense 29 = .ok (.invokestatic 51, 3) := by decide +kernel
theorem dX0_expense_32 : decode cX0_expense 32 = .ok (.i2l, 1) := by decide +kernel
theorem dX0_expense_33 : decode cX0_expense 33 = .ok (.lmul, 1) := by decide +kernel
theorem dX0_expense_34 : decode cX0_expense 34 = .ok (.ladd, 1) := by decide +kernel
theorem dX0_expense_35 : decode cX0_expense 35 = .ok (.lstore_n 3, 1) := by decide +kernel
theorem dX0_expense_36 : decode cX0_expense 36 = .ok (.iinc 5 1, 3) := by decide +kernel
theorem dX0_expense_39 : decode cX0_expense 39 = .ok (.goto (-34), 3) := by decide +kernel
theorem dX0_expense_42 : decode cX0_expense 42 = .ok (.bipush 100, 2) := by decide +kernel
theorem dX0_expense_44 : decode cX0_expense 44 = .ok (.aload_n 1, 1) := by decide +kernel
theorem dX0_expense_45 : decode cX0_expense 45 = .ok (.getfield 55, 3) := by decide +kernel
theorem dX0_expense_48 : decode cX0_expense 48 = .ok (.imul, 1) := by decide +kernel
theorem dX0_expense_49 : decode cX0_expense 49 = .ok (.i2l, 1) := by decide +kernel
theorem dX0_expense_50 : decode cX0_expense 50 = .ok (.aload_n 0, 1) := by decide +kernel
theorem dX0_expense_51 : decode cX0_expense 51 = .ok (.aload_n 1, 1) := by decide +kernel
theorem dX0_expense_52 : decode cX0_expense 52 = .ok (.aload_n 2, 1) := by decide +kernel
theorem dX0_expense_53 : decode cX0_expense 53 = .ok (.invokevirtual 58, 3) := by decide +kernel
theorem dX0_expense_56 : decode cX0_expense 56 = .ok (.lmul, 1) := by decide +kernel
theorem dX0_expense_57 : decode cX0_expense 57 = .ok (.aload_n 1, 1) := by decide +kernel
theorem dX0_expense_58 : decode cX0_expense 58 = .ok (.getfield 62, 3) := by decide +kernel
theorem dX0_expense_61 : decode cX0_expense 61 = .ok (.aload_n 1, 1) := by decide +kernel
theorem dX0_expense_62 : decode cX0_expense 62 = .ok (.getfield 65, 3) := by decide +kernel
theorem dX0_expense_65 : decode cX0_expense 65 = .ok (.imul, 1) := by decide +kernel
theorem dX0_expense_66 : decode cX0_expense 66 = .ok (.i2l, 1) := by decide +kernel
theorem dX0_expense_67 : decode cX0_expense 67 = .ok (.lload_n 3, 1) := by decide +kernel
theorem dX0_expense_68 : decode cX0_expense 68 = .ok (.lmul, 1) := by decide +kernel
theorem dX0_expense_69 : decode cX0_expense 69 = .ok (.ladd, 1) := by decide +kernel
theorem dX0_expense_70 : decode cX0_expense 70 = .ok (.lreturn, 1) := by decide +kernel
set_option maxRecDepth 20000 in
theorem ggX0_findBest_X0_expense : GoodIn wsX0_findBest wsX0_expense := goodIn_r _ [9, 3, 10, 11, 12, 13, 14, 15, 16, 17, 18, 19, 8, 20, 21, 22, 50, 51, 52, 53, 54, 55, 56, 57, 58, 59, 60, 61, 44, 45, 46, 47, 48, 49] (by decide +kernel) (by decide +kernel)
set_option maxRecDepth 20000 in
theorem gX0_findBest_X0_expense : GoodIn wsX0_findBest (wsV RX0 68 RX0 yX0_expense wsX0_expense) := goodIn_app (goodIn_of _ (by decide +kernel)) ggX0_findBest_X0_expense
set_option maxRecDepth 20000 in
theorem ggX0_findBest_X0_takeTried : GoodIn wsX0_findBest wsX0_takeTried := goodIn_r _ [26, 4, 2, 27, 28, 29, 30, 31, 44, 45, 46, 47, 48, 49] (by decide +kernel) (by decide +kernel)
set_option maxRecDepth 20000 in
theorem gX0_findBest_X0_takeTried : GoodIn wsX0_findBest (wsV RX0 71 RX0 yX0_takeTried wsX0_takeTried) := goodIn_app (goodIn_of _ (by decide +kernel)) ggX0_findBest_X0_takeTried
set_option maxRecDepth 20000 in
theorem ggX0_findBest_X0_nextTried : GoodIn wsX0_findBest wsX0_nextTried := goodIn_r _ [35, 2, 36, 37, 38, 8, 39, 40, 41, 42, 43, 44, 45, 46, 47, 48, 49] (by decide +kernel) (by decide +kernel)
set_option maxRecDepth 20000 in
theorem gX0_findBest_X0_nextTried : GoodIn wsX0_findBest (wsV RX0 75 RX0 yX0_nextTried wsX0_nextTried) := goodIn_app (goodIn_of _ (by decide +kernel)) ggX0_findBest_X0_nextTried
theorem dX0_findBest_0 : decode cX0_findBest 0 = .ok (.aload_n 0, 1) := by decide +kernel
theorem dX0_findBest_1 : decode cX0_findBest 1 = .ok (.getfield 43, 3) := by decide +kernel
theorem dX0_findBest_4 : decode cX0_findBest 4 = .ok (.ifCond .eq 4, 3) := by decide +kernel
theorem dX0_findBest_7 : decode cX0_findBest 7 = .ok (.return_, 1) := by decide +kernel
theorem dX0_findBest_8 : decode cX0_findBest 8 = .ok (.aload_n 0, 1) := by decide +kernel
theorem dX0_findBest_9 : decode cX0_findBest 9 = .ok (.iconst 1, 1) := by decide +kernel
theorem dX0_findBest_10 : decode cX0_findBest 10 = .ok (.putfield 43, 3) := by decide +kernel
theorem dX0_findBest_13 : decode cX0_findBest 13 = .ok (.iconst 0, 1) := by decide +kernel
theorem dX0_findBest_14 : decode cX0_findBest 14 = .ok (.istore_n 2, 1) := by decide +kernel
theorem dX0_findBest_15 : decode cX0_findBest 15 = .ok (.iload_n 2, 1) := by decide +kernel
theorem dX0_findBest_16 : decode cX0_findBest 16 = .ok (.bipush 6, 2) := by decide +kernel
theorem dX0_findBest_18 : decode cX0_findBest 18 = .ok (.if_icmp .ge 16, 3) := by decide +kernel
theorem dX0_findBest_21 : decode cX0_findBest 21 = .ok (.aload_n 0, 1) := by decide +kernel
theorem dX0_findBest_22 : decode cX0_findBest 22 = .ok (.getfield 19, 3) := by decide +kernel
theorem dX0_findBest_25 : decode cX0_findBest 25 = .ok (.iload_n 2, 1) := by decide +kernel
theorem dX0_findBest_26 : decode cX0_findBest 26 = .ok (.iconst 0, 1) := by decide +kernel
theorem dX0_findBest_27 : decode cX0_findBest 27 = .ok (.iastore, 1) := by decide +kernel
theorem dX0_findBest_28 : decode cX0_findBest 28 = .ok (.iinc 2 1, 3) := by decide +kernel
theorem dX0_findBest_31 : decode cX0_findBest 31 = .ok (.goto (-16), 3) := by decide +kernel
theorem dX0_findBest_34 : decode cX0_findBest 34 = .ok (.aload_n 0, 1) := by decide +kernel
theorem dX0_findBest_35 : decode cX0_findBest 35 = .ok (.aload_n 0, 1) := by decide +kernel
theorem dX0_findBest_36 : decode cX0_findBest 36 = .ok (.aload_n 1, 1) := by decide +kernel
theorem dX0_findBest_37 : decode cX0_findBest 37 = .ok (.aload_n 0, 1) := by decide +kernel
theorem dX0_findBest_38 : decode cX0_findBest 38 = .ok (.getfield 19, 3) := by decide +kernel
theorem dX0_findBest_41 : decode cX0_findBest 41 = .ok (.invokevirtual 68, 3) := by decide +kernel
theorem dX0_findBest_44 : decode cX0_findBest 44 = .ok (.invokevirtual 71, 3) := by decide +kernel
theorem dX0_findBest_47 : decode cX0_findBest 47 = .ok (.iconst 0, 1) := by decide +kernel
theorem dX0_findBest_48 : decode cX0_findBest 48 = .ok (.istore_n 2, 1) := by decide +kernel
theorem dX0_findBest_49 : decode cX0_findBest 49 = .ok (.iload_n 2, 1) := by decide +kernel
theorem dX0_findBest_50 : decode cX0_findBest 50 = .ok (.sipush 1000, 3) := by decide +kernel
theorem dX0_findBest_53 : decode cX0_findBest 53 = .ok (.if_icmp .ge 44, 3) := by decide +kernel
theorem dX0_findBest_56 : decode cX0_findBest 56 = .ok (.aload_n 0, 1) := by decide +kernel
theorem dX0_findBest_57 : decode cX0_findBest 57 = .ok (.aload_n 1, 1) := by decide +kernel
theorem dX0_findBest_58 : decode cX0_findBest 58 = .ok (.getfield 26, 3) := by decide +kernel
theorem dX0_findBest_61 : decode cX0_findBest 61 = .ok (.invokevirtual 75, 3) := by decide +kernel
theorem dX0_findBest_64 : decode cX0_findBest 64 = .ok (.ifCond .eq 33, 3) := by decide +kernel
theorem dX0_findBest_67 : decode cX0_findBest 67 = .ok (.aload_n 0, 1) := by decide +kernel
theorem dX0_findBest_68 : decode cX0_findBest 68 = .ok (.aload_n 1, 1) := by decide +kernel
theorem dX0_findBest_69 : decode cX0_findBest 69 = .ok (.aload_n 0, 1) := by decide +kernel
theorem dX0_findBest_70 : decode cX0_findBest 70 = .ok (.getfield 19, 3) := by decide +kernel
theorem dX0_findBest_73 : decode cX0_findBest 73 = .ok (.invokevirtual 68, 3) := by decide +kernel
theorem dX0_findBest_76 : decode cX0_findBest 76 = .ok (.lstore_n 3, 1) := by decide +kernel
theorem dX0_findBest_77 : decode cX0_findBest 77 = .ok (.lload_n 3, 1) := by decide +kernel
theorem dX0_findBest_78 : decode cX0_findBest 78 = .ok (.aload_n 0, 1) := by decide +kernel
theorem dX0_findBest_79 : decode cX0_findBest 79 = .ok (.getfield 79, 3) := by decide +kernel
theorem dX0_findBest_82 : decode cX0_findBest 82 = .ok (.lcmp, 1) := by decide +kernel
theorem dX0_findBest_83 : decode cX0_findBest 83 = .ok (.ifCond .ge 8, 3) := by decide +kernel
theorem dX0_findBest_86 : decode cX0_findBest 86 = .ok (.aload_n 0, 1) := by decide +kernel
theorem dX0_findBest_87 : decode cX0_findBest 87 = .ok (.lload_n 3, 1) := by decide +kernel
theorem dX0_findBest_88 : decode cX0_findBest 88 = .ok (.invokevirtual 71, 3) := by decide +kernel
theorem dX0_findBest_91 : decode cX0_findBest 91 = .ok (.iinc 2 1, 3) := by decide +kernel
theorem dX0_findBest_94 : decode cX0_findBest 94 = .ok (.goto (-45), 3) := by decide +kernel
theorem dX0_findBest_97 : decode cX0_findBest 97 = .ok (.return_, 1) := by decide +kernel
theorem dX0_takeTried_0 : decode cX0_takeTried 0 = .ok (.aload_n 0, 1) := by decide +kernel
theorem dX0_takeTried_1 : decode cX0_takeTried 1 = .ok (.lload_n 1, 1) := by decide +kernel
theorem dX0_takeTried_2 : decode cX0_takeTried 2 = .ok (.putfield 79, 3) := by decide +kernel
theorem dX0_takeTried_5 : decode cX0_takeTried 5 = .ok (.aload_n 0, 1) := by decide +kernel
theorem dX0_takeTried_6 : decode cX0_takeTried 6 = .ok (.getfield 19, 3) := by decide +kernel
theorem dX0_takeTried_9 : decode cX0_takeTried 9 = .ok (.iconst 0, 1) := by decide +kernel
theorem dX0_takeTried_10 : decode cX0_takeTried 10 = .ok (.aload_n 0, 1) := by decide +kernel
theorem dX0_takeTried_11 : decode cX0_takeTried 11 = .ok (.getfield 15, 3) := by decide +kernel
theorem dX0_takeTried_14 : decode cX0_takeTried 14 = .ok (.iconst 0, 1) := by decide +kernel
theorem dX0_takeTried_15 : decode cX0_takeTried 15 = .ok (.bipush 6, 2) := by decide +kernel
theorem dX0_takeTried_17 : decode cX0_takeTried 17 = .ok (.invokestatic 82, 3) := by decide +kernel
theorem dX0_takeTried_20 : decode cX0_takeTried 20 = .ok (.return_, 1) := by decide +kernel
set_option maxRecDepth 20000 in
theorem ggX0_nextTried_X0_highestAhead : GoodIn wsX0_nextTried wsX0_highestAhead := goodIn_r _ [6, 1, 7, 8, 9, 10, 11, 12, 13, 14, 15, 16] (by decide +kernel) (by decide +kernel)
set_option maxRecDepth 20000 in
theorem gX0_nextTried_X0_highestAhead : GoodIn wsX0_nextTried (wsV RX0 88 RX0 yX0_highestAhead wsX0_highestAhead) := goodIn_app (goodIn_of _ (by decide +kernel)) ggX0_nextTried_X0_highestAhead
theorem dX0_nextTried_0 : decode cX0_nextTried 0 = .ok (.iload_n 1, 1) := by decide +kernel
theorem dX0_nextTried_1 : decode cX0_nextTried 1 = .ok (.iconst 1, 1) := by decide +kernel
theorem dX0_nextTried_2 : decode cX0_nextTried 2 = .ok (.isub, 1) := by decide +kernel
theorem dX0_nextTried_3 : decode cX0_nextTried 3 = .ok (.istore_n 2, 1) := by decide +kernel
theorem dX0_nextTried_4 : decode cX0_nextTried 4 = .ok (.iload_n 2, 1) := by decide +kernel
theorem dX0_nextTried_5 : decode cX0_nextTried 5 = .ok (.ifCond .le 42, 3) := by decide +kernel
theorem dX0_nextTried_8 : decode cX0_nextTried 8 = .ok (.aload_n 0, 1) := by decide +kernel
theorem dX0_nextTried_9 : decode cX0_nextTried 9 = .ok (.getfield 19, 3) := by decide +kernel
theorem dX0_nextTried_12 : decode cX0_nextTried 12 = .ok (.iload_n 2, 1) := by decide +kernel
theorem dX0_nextTried_13 : decode cX0_nextTried 13 = .ok (.iaload, 1) := by decide +kernel
theorem dX0_nextTried_14 : decode cX0_nextTried 14 = .ok (.aload_n 0, 1) := by decide +kernel
theorem dX0_nextTried_15 : decode cX0_nextTried 15 = .ok (.iload_n 2, 1) := by decide +kernel
theorem dX0_nextTried_16 : decode cX0_nextTried 16 = .ok (.invokevirtual 88, 3) := by decide +kernel
theorem dX0_nextTried_19 : decode cX0_nextTried 19 = .ok (.if_icmp .gt 15, 3) := by decide +kernel
theorem dX0_nextTried_22 : decode cX0_nextTried 22 = .ok (.aload_n 0, 1) := by decide +kernel
theorem dX0_nextTried_23 : decode cX0_nextTried 23 = .ok (.getfield 19, 3) := by decide +kernel
theorem dX0_nextTried_26 : decode cX0_nextTried 26 = .ok (.iload_n 2, 1) := by decide +kernel
theorem dX0_nextTried_27 : decode cX0_nextTried 27 = .ok (.dup2, 1) := by decide +kernel
theorem dX0_nextTried_28 : decode cX0_nextTried 28 = .ok (.iaload, 1) := by decide +kernel
theorem dX0_nextTried_29 : decode cX0_nextTried 29 = .ok (.iconst 1, 1) := by decide +kernel
theorem dX0_nextTried_30 : decode cX0_nextTried 30 = .ok (.iadd, 1) := by decide +kernel
theorem dX0_nextTried_31 : decode cX0_nextTried 31 = .ok (.iastore, 1) := by decide +kernel
theorem dX0_nextTried_32 : decode cX0_nextTried 32 = .ok (.iconst 1, 1) := by decide +kernel
theorem dX0_nextTried_33 : decode cX0_nextTried 33 = .ok (.ireturn, 1) := by decide +kernel
theorem dX0_nextTried_34 : decode cX0_nextTried 34 = .ok (.aload_n 0, 1) := by decide +kernel
theorem dX0_nextTried_35 : decode cX0_nextTried 35 = .ok (.getfield 19, 3) := by decide +kernel
theorem dX0_nextTried_38 : decode cX0_nextTried 38 = .ok (.iload_n 2, 1) := by decide +kernel
theorem dX0_nextTried_39 : decode cX0_nextTried 39 = .ok (.iconst 0, 1) := by decide +kernel
theorem dX0_nextTried_40 : decode cX0_nextTried 40 = .ok (.iastore, 1) := by decide +kernel
theorem dX0_nextTried_41 : decode cX0_nextTried 41 = .ok (.iinc 2 (-1), 3) := by decide +kernel
theorem dX0_nextTried_44 : decode cX0_nextTried 44 = .ok (.goto (-40), 3) := by decide +kernel
theorem dX0_nextTried_47 : decode cX0_nextTried 47 = .ok (.iconst 0, 1) := by decide +kernel
theorem dX0_nextTried_48 : decode cX0_nextTried 48 = .ok (.ireturn, 1) := by decide +kernel
theorem dX0_highestAhead_0 : decode cX0_highestAhead 0 = .ok (.iconst 0, 1) := by decide +kernel
theorem dX0_highestAhead_1 : decode cX0_highestAhead 1 = .ok (.istore_n 2, 1) := by decide +kernel
theorem dX0_highestAhead_2 : decode cX0_highestAhead 2 = .ok (.iconst 0, 1) := by decide +kernel
theorem dX0_highestAhead_3 : decode cX0_highestAhead 3 = .ok (.istore_n 3, 1) := by decide +kernel
theorem dX0_highestAhead_4 : decode cX0_highestAhead 4 = .ok (.iload_n 3, 1) := by decide +kernel
theorem dX0_highestAhead_5 : decode cX0_highestAhead 5 = .ok (.iload_n 1, 1) := by decide +kernel
theorem dX0_highestAhead_6 : decode cX0_highestAhead 6 = .ok (.if_icmp .ge 20, 3) := by decide +kernel
theorem dX0_highestAhead_9 : decode cX0_highestAhead 9 = .ok (.iload_n 2, 1) := by decide +kernel
theorem dX0_highestAhead_10 : decode cX0_highestAhead 10 = .ok (.aload_n 0, 1) := by decide +kernel
theorem dX0_highestAhead_11 : decode cX0_highestAhead 11 = .ok (.getfield 19, 3) := by decide +kernel
theorem dX0_highestAhead_14 : decode cX0_highestAhead 14 = .ok (.iload_n 3, 1) := by decide +kernel
theorem dX0_highestAhead_15 : decode cX0_highestAhead 15 = .ok (.iaload, 1) := by decide +kernel
theorem dX0_highestAhead_16 : decode cX0_highestAhead 16 = .ok (.invokestatic 92, 3) := by decide +kernel
theorem dX0_highestAhead_19 : decode cX0_highestAhead 19 = .ok (.istore_n 2, 1) := by decide +kernel
theorem dX0_highestAhead_20 : decode cX0_highestAhead 20 = .ok (.iinc 3 1, 3) := by decide +kernel
theorem dX0_highestAhead_23 : decode cX0_highestAhead 23 = .ok (.goto (-19), 3) := by decide +kernel
theorem dX0_highestAhead_26 : decode cX0_highestAhead 26 = .ok (.iload_n 2, 1) := by decide +kernel
theorem dX0_highestAhead_27 : decode cX0_highestAhead 27 = .ok (.ireturn, 1) := by decide +kernel
theorem dX1_init_0 : decode cX1_init 0 = .ok (.aload_n 0, 1) := by decide +kernel
theorem dX1_init_1 : decode cX1_init 1 = .ok (.invokespecial 3, 3) := by decide +kernel
theorem dX1_init_4 : decode cX1_init 4 = .ok (.aload_n 0, 1) := by decide +kernel
theorem dX1_init_5 : decode cX1_init 5 = .ok (.bipush 6, 2) := by decide +kernel
theorem dX1_init_7 : decode cX1_init 7 = .ok (.bipush 6, 2) := by decide +kernel
theorem dX1_init_9 : decode cX1_init 9 = .ok (.multianewarray 9 2, 4) := by decide +kernel
theorem dX1_init_13 : decode cX1_init 13 = .ok (.putfield 11, 3) := by decide +kernel
theorem dX1_init_16 : decode cX1_init 16 = .ok (.aload_n 0, 1) := by decide +kernel
theorem dX1_init_17 : decode cX1_init 17 = .ok (.bipush 6, 2) := by decide +kernel
theorem dX1_init_19 : decode cX1_init 19 = .ok (.bipush 6, 2) := by decide +kernel
theorem dX1_init_21 : decode cX1_init 21 = .ok (.multianewarray 9 2, 4) := by decide +kernel
theorem dX1_init_25 : decode cX1_init 25 = .ok (.putfield 16, 3) := by decide +kernel
theorem dX1_init_28 : decode cX1_init 28 = .ok (.aload_n 0, 1) := by decide +kernel
theorem dX1_init_29 : decode cX1_init 29 = .ok (.bipush 6, 2) := by decide +kernel
theorem dX1_init_31 : decode cX1_init 31 = .ok (.newarray .int, 2) := by decide +kernel
theorem dX1_init_33 : decode cX1_init 33 = .ok (.putfield 19, 3) := by decide +kernel
theorem dX1_init_36 : decode cX1_init 36 = .ok (.aload_n 0, 1) := by decide +kernel
theorem dX1_init_37 : decode cX1_init 37 = .ok (.bipush 6, 2) := by decide +kernel
theorem dX1_init_39 : decode cX1_init 39 = .ok (.newarray .int, 2) := by decide +kernel
theorem dX1_init_41 : decode cX1_init 41 = .ok (.putfield 23, 3) := by decide +kernel
theorem dX1_init_44 : decode cX1_init 44 = .ok (.aload_n 0, 1) := by decide +kernel
theorem dX1_init_45 : decode cX1_init 45 = .ok (.bipush 6, 2) := by decide +kernel
theorem dX1_init_47 : decode cX1_init 47 = .ok (.newarray .long, 2) := by decide +kernel
theorem dX1_init_49 : decode cX1_init 49 = .ok (.putfield 26, 3) := by decide +kernel
theorem dX1_init_52 : decode cX1_init 52 = .ok (.aload_n 0, 1) := by decide +kernel
theorem dX1_init_53 : decode cX1_init 53 = .ok (.bipush 64, 2) := by decide +kernel
theorem dX1_init_55 : decode cX1_init 55 = .ok (.newarray .long, 2) := by decide +kernel
theorem dX1_init_57 : decode cX1_init 57 = .ok (.putfield 30, 3) := by decide +kernel
theorem dX1_init_60 : decode cX1_init 60 = .ok (.return_, 1) := by decide +kernel
set_option maxRecDepth 20000 in
theorem ggX1_begin_X1_price : GoodIn wsX1_begin wsX1_price := goodIn_r _ [11, 12, 13, 14, 15, 16, 17, 18, 19, 20, 21, 22, 23, 24, 25, 26, 27] (by decide +kernel) (by decide +kernel)
set_option maxRecDepth 20000 in
theorem gX1_begin_X1_price : GoodIn wsX1_begin (wsV RX1 40 RX1 yX1_price wsX1_price) := goodIn_app (goodIn_of _ (by decide +kernel)) ggX1_begin_X1_price
theorem dX1_begin_0 : decode cX1_begin 0 = .ok (.aload_n 0, 1) := by decide +kernel
theorem dX1_begin_1 : decode cX1_begin 1 = .ok (.iload_n 1, 1) := by decide +kernel
theorem dX1_begin_2 : decode cX1_begin 2 = .ok (.putfield 33, 3) := by decide +kernel
theorem dX1_begin_5 : decode cX1_begin 5 = .ok (.aload_n 0, 1) := by decide +kernel
theorem dX1_begin_6 : decode cX1_begin 6 = .ok (.iconst 0, 1) := by decide +kernel
theorem dX1_begin_7 : decode cX1_begin 7 = .ok (.putfield 37, 3) := by decide +kernel
theorem dX1_begin_10 : decode cX1_begin 10 = .ok (.iconst 0, 1) := by decide +kernel
theorem dX1_begin_11 : decode cX1_begin 11 = .ok (.istore_n 2, 1) := by decide +kernel
theorem dX1_begin_12 : decode cX1_begin 12 = .ok (.iload_n 2, 1) := by decide +kernel
theorem dX1_begin_13 : decode cX1_begin 13 = .ok (.bipush 6, 2) := by decide +kernel
theorem dX1_begin_15 : decode cX1_begin 15 = .ok (.if_icmp .ge 65, 3) := by decide +kernel
theorem dX1_begin_18 : decode cX1_begin 18 = .ok (.aload_n 0, 1) := by decide +kernel
theorem dX1_begin_19 : decode cX1_begin 19 = .ok (.getfield 19, 3) := by decide +kernel
theorem dX1_begin_22 : decode cX1_begin 22 = .ok (.iload_n 2, 1) := by decide +kernel
theorem dX1_begin_23 : decode cX1_begin 23 = .ok (.iconst 0, 1) := by decide +kernel
theorem dX1_begin_24 : decode cX1_begin 24 = .ok (.iastore, 1) := by decide +kernel
theorem dX1_begin_25 : decode cX1_begin 25 = .ok (.aload_n 0, 1) := by decide +kernel
theorem dX1_begin_26 : decode cX1_begin 26 = .ok (.getfield 23, 3) := by decide +kernel
theorem dX1_begin_29 : decode cX1_begin 29 = .ok (.iload_n 2, 1) := by decide +kernel
theorem dX1_begin_30 : decode cX1_begin 30 = .ok (.iconst 0, 1) := by decide +kernel
theorem dX1_begin_31 : decode cX1_begin 31 = .ok (.iastore, 1) := by decide +kernel
theorem dX1_begin_32 : decode cX1_begin 32 = .ok (.iconst 0, 1) := by decide +kernel
theorem dX1_begin_33 : decode cX1_begin 33 = .ok (.istore_n 3, 1) := by decide +kernel
theorem dX1_begin_34 : decode cX1_begin 34 = .ok (.iload_n 3, 1) := by decide +kernel
theorem dX1_begin_35 : decode cX1_begin 35 = .ok (.bipush 6, 2) := by decide +kernel
theorem dX1_begin_37 : decode cX1_begin 37 = .ok (.if_icmp .ge 37, 3) := by decide +kernel
theorem dX1_begin_40 : decode cX1_begin 40 = .ok (.aload_n 0, 1) := by decide +kernel
theorem dX1_begin_41 : decode cX1_begin 41 = .ok (.getfield 11, 3) := by decide +kernel
theorem dX1_begin_44 : decode cX1_begin 44 = .ok (.iload_n 2, 1) := by decide +kernel
theorem dX1_begin_45 : decode cX1_begin 45 = .ok (.aaload, 1) := by decide +kernel
theorem dX1_begin_46 : decode cX1_begin 46 = .ok (.iload_n 3, 1) := by decide +kernel
theorem dX1_begin_47 : decode cX1_begin 47 = .ok (.iconst 0, 1) := by decide +kernel
theorem dX1_begin_48 : decode cX1_begin 48 = .ok (.iastore, 1) := by decide +kernel
theorem dX1_begin_49 : decode cX1_begin 49 = .ok (.aload_n 0, 1) := by decide +kernel
theorem dX1_begin_50 : decode cX1_begin 50 = .ok (.getfield 16, 3) := by decide +kernel
theorem dX1_begin_53 : decode cX1_begin 53 = .ok (.iload_n 2, 1) := by decide +kernel
theorem dX1_begin_54 : decode cX1_begin 54 = .ok (.aaload, 1) := by decide +kernel
theorem dX1_begin_55 : decode cX1_begin 55 = .ok (.iload_n 3, 1) := by decide +kernel
theorem dX1_begin_56 : decode cX1_begin 56 = .ok (.iload_n 2, 1) := by decide +kernel
theorem dX1_begin_57 : decode cX1_begin 57 = .ok (.iload_n 3, 1) := by decide +kernel
theorem dX1_begin_58 : decode cX1_begin 58 = .ok (.if_icmp .ne 7, 3) := by decide +kernel
theorem dX1_begin_61 : decode cX1_begin 61 = .ok (.iconst 0, 1) := by decide +kernel
theorem dX1_begin_62 : decode cX1_begin 62 = .ok (.goto 5, 3) := by decide +kernel
theorem dX1_begin_65 : decode cX1_begin 65 = .ok (.bipush 99, 2) := by decide +kernel
theorem dX1_begin_67 : decode cX1_begin 67 = .ok (.iastore, 1) := by decide +kernel
theorem dX1_begin_68 : decode cX1_begin 68 = .ok (.iinc 3 1, 3) := by decide +kernel
theorem dX1_begin_71 : decode cX1_begin 71 = .ok (.goto (-37), 3) := by decide +kernel
theorem dX1_begin_74 : decode cX1_begin 74 = .ok (.iinc 2 1, 3) := by decide +kernel
theorem dX1_begin_77 : decode cX1_begin 77 = .ok (.goto (-65), 3) := by decide +kernel
theorem dX1_begin_80 : decode cX1_begin 80 = .ok (.aload_n 0, 1) := by decide +kernel
theorem dX1_begin_81 : decode cX1_begin 81 = .ok (.iconst 2, 1) := by decide +kernel
theorem dX1_begin_82 : decode cX1_begin 82 = .ok (.iconst 1, 1) := by decide +kernel
theorem dX1_begin_83 : decode cX1_begin 83 = .ok (.iconst 5, 1) := by decide +kernel
theorem dX1_begin_84 : decode cX1_begin 84 = .ok (.bipush 10, 2) := by decide +kernel
theorem dX1_begin_86 : decode cX1_begin 86 = .ok (.invokevirtual 40, 3) := by decide +kernel
theorem dX1_begin_89 : decode cX1_begin 89 = .ok (.return_, 1) := by decide +kernel
theorem dX1_price_0 : decode cX1_price 0 = .ok (.aload_n 0, 1) := by decide +kernel
theorem dX1_price_1 : decode cX1_price 1 = .ok (.iload_n 1, 1) := by decide +kernel
theorem dX1_price_2 : decode cX1_price 2 = .ok (.putfield 44, 3) := by decide +kernel
theorem dX1_price_5 : decode cX1_price 5 = .ok (.aload_n 0, 1) := by decide +kernel
theorem dX1_price_6 : decode cX1_price 6 = .ok (.iload_n 2, 1) := by decide +kernel
theorem dX1_price_7 : decode cX1_price 7 = .ok (.putfield 47, 3) := by decide +kernel
theorem dX1_price_10 : decode cX1_price 10 = .ok (.aload_n 0, 1) := by decide +kernel
theorem dX1_price_11 : decode cX1_price 11 = .ok (.iload_n 3, 1) := by decide +kernel
theorem dX1_price_12 : decode cX1_price 12 = .ok (.putfield 50, 3) := by decide +kernel
theorem dX1_price_15 : decode cX1_price 15 = .ok (.aload_n 0, 1) := by decide +kernel
theorem dX1_price_16 : decode cX1_price 16 = .ok (.iload 4, 2) := by decide +kernel
theorem dX1_price_18 : decode cX1_price 18 = .ok (.putfield 53, 3) := by decide +kernel
theorem dX1_price_21 : decode cX1_price 21 = .ok (.return_, 1) := by decide +kernel
set_option maxRecDepth 20000 in
theorem ggX1_join_X1_lead : GoodIn wsX1_join wsX1_lead := goodIn_r _ [6, 7, 8, 9, 10, 11, 12, 13, 14, 15, 16, 17, 18, 19, 20, 21, 22] (by decide +kernel) (by decide +kernel)
set_option maxRecDepth 20000 in
theorem gX1_join_X1_lead : GoodIn wsX1_join (wsV RX1 56 RX1 yX1_lead wsX1_lead) := goodIn_app (goodIn_of _ (by decide +kernel)) ggX1_join_X1_lead
theorem dX1_join_0 : decode cX1_join 0 = .ok (.aload_n 0, 1) := by decide +kernel
theorem dX1_join_1 : decode cX1_join 1 = .ok (.dup, 1) := by decide +kernel
theorem dX1_join_2 : decode cX1_join 2 = .ok (.getfield 37, 3) := by decide +kernel
theorem dX1_join_5 : decode cX1_join 5 = .ok (.iconst 1, 1) := by decide +kernel
theorem dX1_join_6 : decode cX1_join 6 = .ok (.iadd, 1) := by decide +kernel
theorem dX1_join_7 : decode cX1_join 7 = .ok (.putfield 37, 3) := by decide +kernel
theorem dX1_join_10 : decode cX1_join 10 = .ok (.aload_n 0, 1) := by decide +kernel
theorem dX1_join_11 : decode cX1_join 11 = .ok (.iload_n 1, 1) := by decide +kernel
theorem dX1_join_12 : decode cX1_join 12 = .ok (.iload_n 2, 1) := by decide +kernel
theorem dX1_join_13 : decode cX1_join 13 = .ok (.iload_n 3, 1) := by decide +kernel
theorem dX1_join_14 : decode cX1_join 14 = .ok (.invokevirtual 56, 3) := by decide +kernel
theorem dX1_join_17 : decode cX1_join 17 = .ok (.aload_n 0, 1) := by decide +kernel
theorem dX1_join_18 : decode cX1_join 18 = .ok (.iload_n 2, 1) := by decide +kernel
theorem dX1_join_19 : decode cX1_join 19 = .ok (.iload_n 1, 1) := by decide +kernel
theorem dX1_join_20 : decode cX1_join 20 = .ok (.iload 4, 2) := by decide +kernel
theorem dX1_join_22 : decode cX1_join 22 = .ok (.invokevirtual 56, 3) := by decide +kernel
theorem dX1_join_25 : decode cX1_join 25 = .ok (.return_, 1) := by decide +kernel
theorem dX1_lead_0 : decode cX1_lead 0 = .ok (.aload_n 0, 1) := by decide +kernel
theorem dX1_lead_1 : decode cX1_lead 1 = .ok (.getfield 11, 3) := by decide +kernel
theorem dX1_lead_4 : decode cX1_lead 4 = .ok (.iload_n 1, 1) := by decide +kernel
theorem dX1_lead_5 : decode cX1_lead 5 = .ok (.aaload, 1) := by decide +kernel
theorem dX1_lead_6 : decode cX1_lead 6 = .ok (.iload_n 2, 1) := by decide +kernel
theorem dX1_lead_7 : decode cX1_lead 7 = .ok (.iload_n 3, 1) := by decide +kernel
theorem dX1_lead_8 : decode cX1_lead 8 = .ok (.iastore, 1) := by decide +kernel
theorem dX1_lead_9 : decode cX1_lead 9 = .ok (.aload_n 0, 1) := by decide +kernel
theorem dX1_lead_10 : decode cX1_lead 10 = .ok (.getfield 16, 3) := by decide +kernel
theorem dX1_lead_13 : decode cX1_lead 13 = .ok (.iload_n 1, 1) := by decide +kernel
theorem dX1_lead_14 : decode cX1_lead 14 = .ok (.aaload, 1) := by decide +kernel
theorem dX1_lead_15 : decode cX1_lead 15 = .ok (.iload_n 2, 1) := by decide +kernel
theorem dX1_lead_16 : decode cX1_lead 16 = .ok (.iconst 1, 1) := by decide +kernel
theorem dX1_lead_17 : decode cX1_lead 17 = .ok (.iastore, 1) := by decide +kernel
theorem dX1_lead_18 : decode cX1_lead 18 = .ok (.aload_n 0, 1) := by decide +kernel
theorem dX1_lead_19 : decode cX1_lead 19 = .ok (.getfield 19, 3) := by decide +kernel
theorem dX1_lead_22 : decode cX1_lead 22 = .ok (.iload_n 1, 1) := by decide +kernel
theorem dX1_lead_23 : decode cX1_lead 23 = .ok (.dup2, 1) := by decide +kernel
theorem dX1_lead_24 : decode cX1_lead 24 = .ok (.iaload, 1) := by decide +kernel
theorem dX1_lead_25 : decode cX1_lead 25 = .ok (.iconst 1, 1) := by decide +kernel
theorem dX1_lead_26 : decode cX1_lead 26 = .ok (.iload_n 2, 1) := by decide +kernel
theorem dX1_lead_27 : decode cX1_lead 27 = .ok (.ishl, 1) := by decide +kernel
theorem dX1_lead_28 : decode cX1_lead 28 = .ok (.ior, 1) := by decide +kernel
theorem dX1_lead_29 : decode cX1_lead 29 = .ok (.iastore, 1) := by decide +kernel
theorem dX1_lead_30 : decode cX1_lead 30 = .ok (.aload_n 0, 1) := by decide +kernel
theorem dX1_lead_31 : decode cX1_lead 31 = .ok (.getfield 23, 3) := by decide +kernel
theorem dX1_lead_34 : decode cX1_lead 34 = .ok (.iload_n 1, 1) := by decide +kernel
theorem dX1_lead_35 : decode cX1_lead 35 = .ok (.dup2, 1) := by decide +kernel
theorem dX1_lead_36 : decode cX1_lead 36 = .ok (.iaload, 1) := by decide +kernel
theorem dX1_lead_37 : decode cX1_lead 37 = .ok (.iload_n 3, 1) := by decide +kernel
theorem dX1_lead_38 : decode cX1_lead 38 = .ok (.iadd, 1) := by decide +kernel
theorem dX1_lead_39 : decode cX1_lead 39 = .ok (.iastore, 1) := by decide +kernel
theorem dX1_lead_40 : decode cX1_lead 40 = .ok (.return_, 1) := by decide +kernel
theorem dX1_isWhole_0 : decode cX1_isWhole 0 = .ok (.iconst 0, 1) := by decide +kernel
theorem dX1_isWhole_1 : decode cX1_isWhole 1 = .ok (.istore_n 1, 1) := by decide +kernel
theorem dX1_isWhole_2 : decode cX1_isWhole 2 = .ok (.iload_n 1, 1) := by decide +kernel
theorem dX1_isWhole_3 : decode cX1_isWhole 3 = .ok (.aload_n 0, 1) := by decide +kernel
theorem dX1_isWhole_4 : decode cX1_isWhole 4 = .ok (.getfield 33, 3) := by decide +kernel
theorem dX1_isWhole_7 : decode cX1_isWhole 7 = .ok (.if_icmp .ge 77, 3) := by decide +kernel
theorem dX1_isWhole_10 : decode cX1_isWhole 10 = .ok (.iconst 0, 1) := by decide +kernel
theorem dX1_isWhole_11 : decode cX1_isWhole 11 = .ok (.istore_n 2, 1) := by decide +kernel
theorem dX1_isWhole_12 : decode cX1_isWhole 12 = .ok (.iload_n 2, 1) := by decide +kernel
theorem dX1_isWhole_13 : decode cX1_isWhole 13 = .ok (.aload_n 0, 1) := by decide +kernel
theorem dX1_isWhole_14 : decode cX1_isWhole 14 = .ok (.getfield 33, 3) := by decide +kernel
theorem dX1_isWhole_17 : decode cX1_isWhole 17 = .ok (.if_icmp .ge 61, 3) := by decide +kernel
theorem dX1_isWhole_20 : decode cX1_isWhole 20 = .ok (.iconst 0, 1) := by decide +kernel
theorem dX1_isWhole_21 : decode cX1_isWhole 21 = .ok (.istore_n 3, 1) := by decide +kernel
theorem dX1_isWhole_22 : decode cX1_isWhole 22 = .ok (.iload_n 3, 1) := by decide +kernel
theorem dX1_isWhole_23 : decode cX1_isWhole 23 = .ok (.aload_n 0, 1) := by decide +kernel
theorem dX1_isWhole_24 : decode cX1_isWhole 24 = .ok (.getfield 33, 3) := by decide +kernel
theorem dX1_isWhole_27 : decode cX1_isWhole 27 = .ok (.if_icmp .ge 45, 3) := by decide +kernel
theorem dX1_isWhole_30 : decode cX1_isWhole 30 = .ok (.aload_n 0, 1) := by decide +kernel
theorem dX1_isWhole_31 : decode cX1_isWhole 31 = .ok (.getfield 16, 3) := by decide +kernel
theorem dX1_isWhole_34 : decode cX1_isWhole 34 = .ok (.iload_n 2, 1) := by decide +kernel
theorem dX1_isWhole_35 : decode cX1_isWhole 35 = .ok (.aaload, 1) := by decide +kernel
theorem dX1_isWhole_36 : decode cX1_isWhole 36 = .ok (.iload_n 3, 1) := by decide +kernel
theorem dX1_isWhole_37 : decode cX1_isWhole 37 = .ok (.aload_n 0, 1) := by decide +kernel
theorem dX1_isWhole_38 : decode cX1_isWhole 38 = .ok (.getfield 16, 3) := by decide +kernel
theorem dX1_isWhole_41 : decode cX1_isWhole 41 = .ok (.iload_n 2, 1) := by decide +kernel
theorem dX1_isWhole_42 : decode cX1_isWhole 42 = .ok (.aaload, 1) := by decide +kernel
theorem dX1_isWhole_43 : decode cX1_isWhole 43 = .ok (.iload_n 3, 1) := by decide +kernel
theorem dX1_isWhole_44 : decode cX1_isWhole 44 = .ok (.iaload, 1) := by decide +kernel
theorem dX1_isWhole_45 : decode cX1_isWhole 45 = .ok (.aload_n 0, 1) := by decide +kernel
theorem dX1_isWhole_46 : decode cX1_isWhole 46 = .ok (.getfield 16, 3) := by decide +kernel
theorem dX1_isWhole_49 : decode cX1_isWhole 49 = .ok (.iload_n 2, 1) := by decide +kernel
theorem dX1_isWhole_50 : decode cX1_isWhole 50 = .ok (.aaload, 1) := by decide +kernel
theorem dX1_isWhole_51 : decode cX1_isWhole 51 = .ok (.iload_n 1, 1) := by decide +kernel
theorem dX1_isWhole_52 : decode cX1_isWhole 52 = .ok (.iaload, 1) := by decide +kernel
theorem dX1_isWhole_53 : decode cX1_isWhole 53 = .ok (.aload_n 0, 1) := by decide +kernel
theorem dX1_isWhole_54 : decode cX1_isWhole 54 = .ok (.getfield 16, 3) := by decide +kernel
theorem dX1_isWhole_57 : decode cX1_isWhole 57 = .ok (.iload_n 1, 1) := by decide +kernel
theorem dX1_isWhole_58 : decode cX1_isWhole 58 = .ok (.aaload, 1) := by decide +kernel
theorem dX1_isWhole_59 : decode cX1_isWhole 59 = .ok (.iload_n 3, 1) := by decide +kernel
theorem dX1_isWhole_60 : decode cX1_isWhole 60 = .ok (.iaload, 1) := by decide +kernel
theorem dX1_isWhole_61 : decode cX1_isWhole 61 = .ok (.iadd, 1) := by decide +kernel
theorem dX1_isWhole_62 : decode cX1_isWhole 62 = .ok (.invokestatic 60, 3) := by decide +kernel
theorem dX1_isWhole_65 : decode cX1_isWhole 65 = .ok (.iastore, 1) := by decide +kernel
theorem dX1_isWhole_66 : decode cX1_isWhole 66 = .ok (.iinc 3 1, 3) := by decide +kernel
theorem dX1_isWhole_69 : decode cX1_isWhole 69 = .ok (.goto (-47), 3) := by decide +kernel
theorem dX1_isWhole_72 : decode cX1_isWhole 72 = .ok (.iinc 2 1, 3) := by decide +kernel
theorem dX1_isWhole_75 : decode cX1_isWhole 75 = .ok (.goto (-63), 3) := by decide +kernel
theorem dX1_isWhole_78 : decode cX1_isWhole 78 = .ok (.iinc 1 1, 3) := by decide +kernel
theorem dX1_isWhole_81 : decode cX1_isWhole 81 = .ok (.goto (-79), 3) := by decide +kernel
theorem dX1_isWhole_84 : decode cX1_isWhole 84 = .ok (.iconst 1, 1) := by decide +kernel
theorem dX1_isWhole_85 : decode cX1_isWhole 85 = .ok (.istore_n 1, 1) := by decide +kernel
theorem dX1_isWhole_86 : decode cX1_isWhole 86 = .ok (.iload_n 1, 1) := by decide +kernel
theorem dX1_isWhole_87 : decode cX1_isWhole 87 = .ok (.aload_n 0, 1) := by decide +kernel
theorem dX1_isWhole_88 : decode cX1_isWhole 88 = .ok (.getfield 33, 3) := by decide +kernel
theorem dX1_isWhole_91 : decode cX1_isWhole 91 = .ok (.if_icmp .ge 24, 3) := by decide +kernel
theorem dX1_isWhole_94 : decode cX1_isWhole 94 = .ok (.aload_n 0, 1) := by decide +kernel
theorem dX1_isWhole_95 : decode cX1_isWhole 95 = .ok (.getfield 16, 3) := by decide +kernel
theorem dX1_isWhole_98 : decode cX1_isWhole 98 = .ok (.iconst 0, 1) := by decide +kernel
theorem dX1_isWhole_99 : decode cX1_isWhole 99 = .ok (.aaload, 1) := by decide +kernel
theorem dX1_isWhole_100 : decode cX1_isWhole 100 = .ok (.iload_n 1, 1) := by decide +kernel
theorem dX1_isWhole_101 : decode cX1_isWhole 101 = .ok (.iaload, 1) := by decide +kernel
theorem dX1_isWhole_102 : decode cX1_isWhole 102 = .ok (.bipush 99, 2) := by decide +kernel
theorem dX1_isWhole_104 : decode cX1_isWhole 104 = .ok (.if_icmp .lt 5, 3) := by decide +kernel
theorem dX1_isWhole_107 : decode cX1_isWhole 107 = .ok (.iconst 0, 1) := by decide +kernel
theorem dX1_isWhole_108 : decode cX1_isWhole 108 = .ok (.ireturn, 1) := by decide +kernel
theorem dX1_isWhole_109 : decode cX1_isWhole 109 = .ok (.iinc 1 1, 3) := by decide +kernel
theorem dX1_isWhole_112 : decode cX1_isWhole 112 = .ok (.goto (-26), 3) := by decide +kernel
theorem dX1_isWhole_115 : decode cX1_isWhole 115 = .ok (.aload_n 0, 1) := by decide +kernel
theorem dX1_isWhole_116 : decode cX1_isWhole 116 = .ok (.getfield 33, 3) := by decide +kernel
theorem dX1_isWhole_119 : decode cX1_isWhole 119 = .ok (.iconst 2, 1) := by decide +kernel
theorem dX1_isWhole_120 : decode cX1_isWhole 120 = .ok (.if_icmp .lt 7, 3) := by decide +kernel
theorem dX1_isWhole_123 : decode cX1_isWhole 123 = .ok (.iconst 1, 1) := by decide +kernel
theorem dX1_isWhole_124 : decode cX1_isWhole 124 = .ok (.goto 4, 3) := by decide +kernel
theorem dX1_isWhole_127 : decode cX1_isWhole 127 = .ok (.iconst 0, 1) := by decide +kernel
theorem dX1_isWhole_128 : decode cX1_isWhole 128 = .ok (.ireturn, 1) := by decide +kernel
set_option maxRecDepth 20000 in
theorem ggX1_growTrees_X1_treesTo : GoodIn wsX1_growTrees wsX1_treesTo := goodIn_r _ [7, 1, 8, 9, 10, 11, 12, 13, 14, 15, 16, 17, 18, 6, 19, 20, 21, 22, 23, 24, 25, 26, 27, 28, 29, 30, 31, 32, 33, 34, 35, 36, 37, 38, 39, 40] (by decide +kernel) (by decide +kernel)
set_option maxRecDepth 20000 in
theorem gX1_growTrees_X1_treesTo : GoodIn wsX1_growTrees (wsV RX1 66 RX1 yX1_treesTo wsX1_treesTo) := goodIn_app (goodIn_of _ (by decide +kernel)) ggX1_growTrees_X1_treesTo
theorem dX1_growTrees_0 : decode cX1_growTrees 0 = .ok (.iconst 0, 1) := by decide +kernel
theorem dX1_growTrees_1 : decode cX1_growTrees 1 = .ok (.istore_n 1, 1) := by decide +kernel
theorem dX1_growTrees_2 : decode cX1_growTrees 2 = .ok (.iload_n 1, 1) := by decide +kernel
theorem dX1_growTrees_3 : decode cX1_growTrees 3 = .ok (.aload_n 0, 1) := by decide +kernel
theorem dX1_growTrees_4 : decode cX1_growTrees 4 = .ok (.getfield 33, 3) := by decide +kernel
theorem dX1_growTrees_7 : decode cX1_growTrees 7 = .ok (.if_icmp .ge 20, 3) := by decide +kernel
theorem dX1_growTrees_10 : decode cX1_growTrees 10 = .ok (.aload_n 0, 1) := by decide +kernel
theorem dX1_growTrees_11 : decode cX1_growTrees 11 = .ok (.getfield 26, 3) := by decide +kernel
theorem dX1_growTrees_14 : decode cX1_growTrees 14 = .ok (.iload_n 1, 1) := by decide +kernel
theorem dX1_growTrees_15 : decode cX1_growTrees 15 = .ok (.aload_n 0, 1) := by decide +kernel
theorem dX1_growTrees_16 : decode cX1_growTrees 16 = .ok (.iload_n 1, 1) := by decide +kernel
theorem dX1_growTrees_17 : decode cX1_growTrees 17 = .ok (.invokevirtual 66, 3) := by decide +kernel
theorem dX1_growTrees_20 : decode cX1_growTrees 20 = .ok (.lastore, 1) := by decide +kernel
theorem dX1_growTrees_21 : decode cX1_growTrees 21 = .ok (.iinc 1 1, 3) := by decide +kernel
theorem dX1_growTrees_24 : decode cX1_growTrees 24 = .ok (.goto (-22), 3) := by decide +kernel
theorem dX1_growTrees_27 : decode cX1_growTrees 27 = .ok (.return_, 1) := by decide +kernel
set_option maxRecDepth 20000 in
theorem ggX1_treesTo_J6_bitCount_0f7a4 : GoodIn wsX1_treesTo wsJ6_bitCount_0f7a4 := goodIn_r _ [6, 7, 8, 9] (by decide +kernel) (by decide +kernel)
set_option maxRecDepth 20000 in
theorem gX1_treesTo_J6_bitCount_0f7a4 : GoodIn wsX1_treesTo (va_wsS RX1 70 yJ6_bitCount_0f7a4 wsJ6_bitCount_0f7a4) := goodIn_app (goodIn_of _ (by decide +kernel)) ggX1_treesTo_J6_bitCount_0f7a4
set_option maxRecDepth 20000 in
theorem ggX1_treesTo_X1_rowOf : GoodIn wsX1_treesTo wsX1_rowOf := goodIn_r _ [14] (by decide +kernel) (by decide +kernel)
set_option maxRecDepth 20000 in
theorem gX1_treesTo_X1_rowOf : GoodIn wsX1_treesTo (wsV RX1 76 RX1 yX1_rowOf wsX1_rowOf) := goodIn_app (goodIn_of _ (by decide +kernel)) ggX1_treesTo_X1_rowOf
set_option maxRecDepth 20000 in
theorem ggX1_treesTo_X1_minorOf : GoodIn wsX1_treesTo wsX1_minorOf := goodIn_r _ [18, 1, 19, 20, 2, 21, 22, 23, 3, 4, 5, 6, 7, 8, 9, 24, 25, 26, 27, 28, 29, 30, 31, 32, 33, 34, 35] (by decide +kernel) (by decide +kernel)
set_option maxRecDepth 20000 in
theorem gX1_treesTo_X1_minorOf : GoodIn wsX1_treesTo (wsV RX1 79 RX1 yX1_minorOf wsX1_minorOf) := goodIn_app (goodIn_of _ (by decide +kernel)) ggX1_treesTo_X1_minorOf
theorem dX1_treesTo_0 : decode cX1_treesTo 0 = .ok (.iconst 1, 1) := by decide +kernel
theorem dX1_treesTo_1 : decode cX1_treesTo 1 = .ok (.aload_n 0, 1) := by decide +kernel
theorem dX1_treesTo_2 : decode cX1_treesTo 2 = .ok (.getfield 33, 3) := by decide +kernel
theorem dX1_treesTo_5 : decode cX1_treesTo 5 = .ok (.ishl, 1) := by decide +kernel
theorem dX1_treesTo_6 : decode cX1_treesTo 6 = .ok (.iconst 1, 1) := by decide +kernel
theorem dX1_treesTo_7 : decode cX1_treesTo 7 = .ok (.isub, 1) := by decide +kernel
theorem dX1_treesTo_8 : decode cX1_treesTo 8 = .ok (.iconst 1, 1) := by decide +kernel
theorem dX1_treesTo_9 : decode cX1_treesTo 9 = .ok (.iload_n 1, 1) := by decide +kernel
theorem dX1_treesTo_10 : decode cX1_treesTo 10 = .ok (.ishl, 1) := by decide +kernel
theorem dX1_treesTo_11 : decode cX1_treesTo 11 = .ok (.iconst (-1), 1) := by decide +kernel
theorem dX1_treesTo_12 : decode cX1_treesTo 12 = .ok (.ixor, 1) := by decide +kernel
theorem dX1_treesTo_13 : decode cX1_treesTo 13 = .ok (.iand, 1) := by decide +kernel
theorem dX1_treesTo_14 : decode cX1_treesTo 14 = .ok (.istore_n 2, 1) := by decide +kernel
theorem dX1_treesTo_15 : decode cX1_treesTo 15 = .ok (.aload_n 0, 1) := by decide +kernel
theorem dX1_treesTo_16 : decode cX1_treesTo 16 = .ok (.getfield 30, 3) := by decide +kernel
theorem dX1_treesTo_19 : decode cX1_treesTo 19 = .ok (.iconst 0, 1) := by decide +kernel
theorem dX1_treesTo_20 : decode cX1_treesTo 20 = .ok (.lconst 1, 1) := by decide +kernel
theorem dX1_treesTo_21 : decode cX1_treesTo 21 = .ok (.lastore, 1) := by decide +kernel
theorem dX1_treesTo_22 : decode cX1_treesTo 22 = .ok (.iconst 1, 1) := by decide +kernel
theorem dX1_treesTo_23 : decode cX1_treesTo 23 = .ok (.istore_n 3, 1) := by decide +kernel
theorem dX1_treesTo_24 : decode cX1_treesTo 24 = .ok (.iload_n 3, 1) := by decide +kernel
theorem dX1_treesTo_25 : decode cX1_treesTo 25 = .ok (.iload_n 2, 1) := by decide +kernel
theorem dX1_treesTo_26 : decode cX1_treesTo 26 = .ok (.if_icmp .gt 39, 3) := by decide +kernel
theorem dX1_treesTo_29 : decode cX1_treesTo 29 = .ok (.iload_n 3, 1) := by decide +kernel
theorem dX1_treesTo_30 : decode cX1_treesTo 30 = .ok (.iload_n 2, 1) := by decide +kernel
theorem dX1_treesTo_31 : decode cX1_treesTo 31 = .ok (.iconst (-1), 1) := by decide +kernel
theorem dX1_treesTo_32 : decode cX1_treesTo 32 = .ok (.ixor, 1) := by decide +kernel
theorem dX1_treesTo_33 : decode cX1_treesTo 33 = .ok (.iand, 1) := by decide +kernel
theorem dX1_treesTo_34 : decode cX1_treesTo 34 = .ok (.ifCond .ne 25, 3) := by decide +kernel
theorem dX1_treesTo_37 : decode cX1_treesTo 37 = .ok (.aload_n 0, 1) := by decide +kernel
theorem dX1_treesTo_38 : decode cX1_treesTo 38 = .ok (.getfield 30, 3) := by decide +kernel
theorem dX1_treesTo_41 : decode cX1_treesTo 41 = .ok (.iload_n 3, 1) := by decide +kernel
theorem dX1_treesTo_42 : decode cX1_treesTo 42 = .ok (.aload_n 0, 1) := by decide +kernel
theorem dX1_treesTo_43 : decode cX1_treesTo 43 = .ok (.iload_n 3, 1) := by decide +kernel
theorem dX1_treesTo_44 : decode cX1_treesTo 44 = .ok (.aload_n 0, 1) := by decide +kernel
theorem dX1_treesTo_45 : decode cX1_treesTo 45 = .ok (.iload_n 3, 1) := by decide +kernel
theorem dX1_treesTo_46 : decode cX1_treesTo 46 = .ok (.invokestatic 70, 3) := by decide +kernel
theorem dX1_treesTo_49 : decode cX1_treesTo 49 = .ok (.iconst 1, 1) := by decide +kernel
theorem dX1_treesTo_50 : decode cX1_treesTo 50 = .ok (.isub, 1) := by decide +kernel
theorem dX1_treesTo_51 : decode cX1_treesTo 51 = .ok (.iload_n 1, 1) := by decide +kernel
theorem dX1_treesTo_52 : decode cX1_treesTo 52 = .ok (.invokevirtual 76, 3) := by decide +kernel
theorem dX1_treesTo_55 : decode cX1_treesTo 55 = .ok (.invokevirtual 79, 3) := by decide +kernel
theorem dX1_treesTo_58 : decode cX1_treesTo 58 = .ok (.lastore, 1) := by decide +kernel
theorem dX1_treesTo_59 : decode cX1_treesTo 59 = .ok (.iinc 3 1, 3) := by decide +kernel
theorem dX1_treesTo_62 : decode cX1_treesTo 62 = .ok (.goto (-38), 3) := by decide +kernel
theorem dX1_treesTo_65 : decode cX1_treesTo 65 = .ok (.aload_n 0, 1) := by decide +kernel
theorem dX1_treesTo_66 : decode cX1_treesTo 66 = .ok (.getfield 30, 3) := by decide +kernel
theorem dX1_treesTo_69 : decode cX1_treesTo 69 = .ok (.iload_n 2, 1) := by decide +kernel
theorem dX1_treesTo_70 : decode cX1_treesTo 70 = .ok (.laload, 1) := by decide +kernel
theorem dX1_treesTo_71 : decode cX1_treesTo 71 = .ok (.lreturn, 1) := by decide +kernel
theorem dX1_rowOf_0 : decode cX1_rowOf 0 = .ok (.iload_n 1, 1) := by decide +kernel
theorem dX1_rowOf_1 : decode cX1_rowOf 1 = .ok (.iload_n 2, 1) := by decide +kernel
theorem dX1_rowOf_2 : decode cX1_rowOf 2 = .ok (.if_icmp .ge 7, 3) := by decide +kernel
theorem dX1_rowOf_5 : decode cX1_rowOf 5 = .ok (.iload_n 1, 1) := by decide +kernel
theorem dX1_rowOf_6 : decode cX1_rowOf 6 = .ok (.goto 6, 3) := by decide +kernel
theorem dX1_rowOf_9 : decode cX1_rowOf 9 = .ok (.iload_n 1, 1) := by decide +kernel
theorem dX1_rowOf_10 : decode cX1_rowOf 10 = .ok (.iconst 1, 1) := by decide +kernel
theorem dX1_rowOf_11 : decode cX1_rowOf 11 = .ok (.iadd, 1) := by decide +kernel
theorem dX1_rowOf_12 : decode cX1_rowOf 12 = .ok (.ireturn, 1) := by decide +kernel
set_option maxRecDepth 20000 in
theorem ggX1_minorOf_X7_holds : GoodIn wsX1_minorOf wsX7_holds := goodIn_r _ [7] (by decide +kernel) (by decide +kernel)
set_option maxRecDepth 20000 in
theorem gX1_minorOf_X7_holds_n83 : GoodIn wsX1_minorOf (wsX7_holds) := ggX1_minorOf_X7_holds
set_option maxRecDepth 20000 in
theorem ggX1_minorOf_J6_bitCount_0f7a4 : GoodIn wsX1_minorOf wsJ6_bitCount_0f7a4 := goodIn_r _ [11, 12, 13, 14] (by decide +kernel) (by decide +kernel)
set_option maxRecDepth 20000 in
theorem gX1_minorOf_J6_bitCount_0f7a4 : GoodIn wsX1_minorOf (va_wsS RX1 70 yJ6_bitCount_0f7a4 wsJ6_bitCount_0f7a4) := goodIn_app (goodIn_of _ (by decide +kernel)) ggX1_minorOf_J6_bitCount_0f7a4
theorem dX1_minorOf_0 : decode cX1_minorOf 0 = .ok (.lconst 0, 1) := by decide +kernel
theorem dX1_minorOf_1 : decode cX1_minorOf 1 = .ok (.lstore_n 3, 1) := by decide +kernel
theorem dX1_minorOf_2 : decode cX1_minorOf 2 = .ok (.iconst 0, 1) := by decide +kernel
theorem dX1_minorOf_3 : decode cX1_minorOf 3 = .ok (.istore 5, 2) := by decide +kernel
theorem dX1_minorOf_5 : decode cX1_minorOf 5 = .ok (.iload 5, 2) := by decide +kernel
theorem dX1_minorOf_7 : decode cX1_minorOf 7 = .ok (.aload_n 0, 1) := by decide +kernel
theorem dX1_minorOf_8 : decode cX1_minorOf 8 = .ok (.getfield 33, 3) := by decide +kernel
theorem dX1_minorOf_11 : decode cX1_minorOf 11 = .ok (.if_icmp .ge 99, 3) := by decide +kernel
theorem dX1_minorOf_14 : decode cX1_minorOf 14 = .ok (.iload_n 1, 1) := by decide +kernel
theorem dX1_minorOf_15 : decode cX1_minorOf 15 = .ok (.iload 5, 2) := by decide +kernel
theorem dX1_minorOf_17 : decode cX1_minorOf 17 = .ok (.invokestatic 83, 3) := by decide +kernel
theorem dX1_minorOf_20 : decode cX1_minorOf 20 = .ok (.ifCond .eq 84, 3) := by decide +kernel
theorem dX1_minorOf_23 : decode cX1_minorOf 23 = .ok (.iload_n 2, 1) := by decide +kernel
theorem dX1_minorOf_24 : decode cX1_minorOf 24 = .ok (.iload 5, 2) := by decide +kernel
theorem dX1_minorOf_26 : decode cX1_minorOf 26 = .ok (.if_icmp .ne 13, 3) := by decide +kernel
theorem dX1_minorOf_29 : decode cX1_minorOf 29 = .ok (.aload_n 0, 1) := by decide +kernel
theorem dX1_minorOf_30 : decode cX1_minorOf 30 = .ok (.getfield 23, 3) := by decide +kernel
theorem dX1_minorOf_33 : decode cX1_minorOf 33 = .ok (.iload_n 2, 1) := by decide +kernel
theorem dX1_minorOf_34 : decode cX1_minorOf 34 = .ok (.iaload, 1) := by decide +kernel
theorem dX1_minorOf_35 : decode cX1_minorOf 35 = .ok (.i2l, 1) := by decide +kernel
theorem dX1_minorOf_36 : decode cX1_minorOf 36 = .ok (.goto 14, 3) := by decide +kernel
theorem dX1_minorOf_39 : decode cX1_minorOf 39 = .ok (.aload_n 0, 1) := by decide +kernel
theorem dX1_minorOf_40 : decode cX1_minorOf 40 = .ok (.getfield 11, 3) := by decide +kernel
theorem dX1_minorOf_43 : decode cX1_minorOf 43 = .ok (.iload_n 2, 1) := by decide +kernel
theorem dX1_minorOf_44 : decode cX1_minorOf 44 = .ok (.aaload, 1) := by decide +kernel
theorem dX1_minorOf_45 : decode cX1_minorOf 45 = .ok (.iload 5, 2) := by decide +kernel
theorem dX1_minorOf_47 : decode cX1_minorOf 47 = .ok (.iaload, 1) := by decide +kernel
theorem dX1_minorOf_48 : decode cX1_minorOf 48 = .ok (.ineg, 1) := by decide +kernel
theorem dX1_minorOf_49 : decode cX1_minorOf 49 = .ok (.i2l, 1) := by decide +kernel
theorem dX1_minorOf_50 : decode cX1_minorOf 50 = .ok (.lstore 6, 2) := by decide +kernel
theorem dX1_minorOf_52 : decode cX1_minorOf 52 = .ok (.iload_n 1, 1) := by decide +kernel
theorem dX1_minorOf_53 : decode cX1_minorOf 53 = .ok (.iload 5, 2) := by decide +kernel
theorem dX1_minorOf_55 : decode cX1_minorOf 55 = .ok (.iconst 1, 1) := by decide +kernel
theorem dX1_minorOf_56 : decode cX1_minorOf 56 = .ok (.iadd, 1) := by decide +kernel
theorem dX1_minorOf_57 : decode cX1_minorOf 57 = .ok (.ishr, 1) := by decide +kernel
theorem dX1_minorOf_58 : decode cX1_minorOf 58 = .ok (.invokestatic 70, 3) := by decide +kernel
theorem dX1_minorOf_61 : decode cX1_minorOf 61 = .ok (.iconst 1, 1) := by decide +kernel
theorem dX1_minorOf_62 : decode cX1_minorOf 62 = .ok (.iand, 1) := by decide +kernel
theorem dX1_minorOf_63 : decode cX1_minorOf 63 = .ok (.iconst 1, 1) := by decide +kernel
theorem dX1_minorOf_64 : decode cX1_minorOf 64 = .ok (.if_icmp .ne 7, 3) := by decide +kernel
theorem dX1_minorOf_67 : decode cX1_minorOf 67 = .ok (.iconst 1, 1) := by decide +kernel
theorem dX1_minorOf_68 : decode cX1_minorOf 68 = .ok (.goto 4, 3) := by decide +kernel
theorem dX1_minorOf_71 : decode cX1_minorOf 71 = .ok (.iconst 0, 1) := by decide +kernel
theorem dX1_minorOf_72 : decode cX1_minorOf 72 = .ok (.istore 8, 2) := by decide +kernel
theorem dX1_minorOf_74 : decode cX1_minorOf 74 = .ok (.lload_n 3, 1) := by decide +kernel
theorem dX1_minorOf_75 : decode cX1_minorOf 75 = .ok (.iload 8, 2) := by decide +kernel
theorem dX1_minorOf_77 : decode cX1_minorOf 77 = .ok (.ifCond .eq 9, 3) := by decide +kernel
theorem dX1_minorOf_80 : decode cX1_minorOf 80 = .ok (.lload 6, 2) := by decide +kernel
theorem dX1_minorOf_82 : decode cX1_minorOf 82 = .ok (.lneg, 1) := by decide +kernel
theorem dX1_minorOf_83 : decode cX1_minorOf 83 = .ok (.goto 5, 3) := by decide +kernel
theorem dX1_minorOf_86 : decode cX1_minorOf 86 = .ok (.lload 6, 2) := by decide +kernel
theorem dX1_minorOf_88 : decode cX1_minorOf 88 = .ok (.aload_n 0, 1) := by decide +kernel
theorem dX1_minorOf_89 : decode cX1_minorOf 89 = .ok (.getfield 30, 3) := by decide +kernel
theorem dX1_minorOf_92 : decode cX1_minorOf 92 = .ok (.iload_n 1, 1) := by decide +kernel
theorem dX1_minorOf_93 : decode cX1_minorOf 93 = .ok (.iconst 1, 1) := by decide +kernel
theorem dX1_minorOf_94 : decode cX1_minorOf 94 = .ok (.iload 5, 2) := by decide +kernel
theorem dX1_minorOf_96 : decode cX1_minorOf 96 = .ok (.ishl, 1) := by decide +kernel
theorem dX1_minorOf_97 : decode cX1_minorOf 97 = .ok (.iconst (-1), 1) := by decide +kernel
theorem dX1_minorOf_98 : decode cX1_minorOf 98 = .ok (.ixor, 1) := by decide +kernel
theorem dX1_minorOf_99 : decode cX1_minorOf 99 = .ok (.iand, 1) := by decide +kernel
theorem dX1_minorOf_100 : decode cX1_minorOf 100 = .ok (.laload, 1) := by decide +kernel
theorem dX1_minorOf_101 : decode cX1_minorOf 101 = .ok (.lmul, 1) := by decide +kernel
theorem dX1_minorOf_102 : decode cX1_minorOf 102 = .ok (.ladd, 1) := by decide +kernel
theorem dX1_minorOf_103 : decode cX1_minorOf 103 = .ok (.lstore_n 3, 1) := by decide +kernel
theorem dX1_minorOf_104 : decode cX1_minorOf 104 = .ok (.iinc 5 1, 3) := by decide +kernel
theorem dX1_minorOf_107 : decode cX1_minorOf 107 = .ok (.goto (-102), 3) := by decide +kernel
theorem dX1_minorOf_110 : decode cX1_minorOf 110 = .ok (.lload_n 3, 1) := by decide +kernel
theorem dX1_minorOf_111 : decode cX1_minorOf 111 = .ok (.lreturn, 1) := by decide +kernel
set_option maxRecDepth 20000 in
theorem ggX2_init_X4_init : GoodIn wsX2_init wsX4_init := goodIn_r _ [9, 10, 2, 3, 11, 12, 13, 17, 18, 19, 20, 21, 22, 23, 24, 25, 26] (by decide +kernel) (by decide +kernel)
set_option maxRecDepth 20000 in
theorem gX2_init_X4_init_n17 : GoodIn wsX2_init (wsX4_init) := ggX2_init_X4_init
theorem dX2_init_0 : decode cX2_init 0 = .ok (.aload_n 0, 1) := by decide +kernel
theorem dX2_init_1 : decode cX2_init 1 = .ok (.invokespecial 3, 3) := by decide +kernel
theorem dX2_init_4 : decode cX2_init 4 = .ok (.aload_n 0, 1) := by decide +kernel
theorem dX2_init_5 : decode cX2_init 5 = .ok (.bipush 6, 2) := by decide +kernel
theorem dX2_init_7 : decode cX2_init 7 = .ok (.anewarray 9, 3) := by decide +kernel
theorem dX2_init_10 : decode cX2_init 10 = .ok (.putfield 11, 3) := by decide +kernel
theorem dX2_init_13 : decode cX2_init 13 = .ok (.iconst 0, 1) := by decide +kernel
theorem dX2_init_14 : decode cX2_init 14 = .ok (.istore_n 1, 1) := by decide +kernel
theorem dX2_init_15 : decode cX2_init 15 = .ok (.iload_n 1, 1) := by decide +kernel
theorem dX2_init_16 : decode cX2_init 16 = .ok (.bipush 6, 2) := by decide +kernel
theorem dX2_init_18 : decode cX2_init 18 = .ok (.if_icmp .ge 22, 3) := by decide +kernel
theorem dX2_init_21 : decode cX2_init 21 = .ok (.aload_n 0, 1) := by decide +kernel
theorem dX2_init_22 : decode cX2_init 22 = .ok (.getfield 11, 3) := by decide +kernel
theorem dX2_init_25 : decode cX2_init 25 = .ok (.iload_n 1, 1) := by decide +kernel
theorem dX2_init_26 : decode cX2_init 26 = .ok (.new 9, 3) := by decide +kernel
theorem dX2_init_29 : decode cX2_init 29 = .ok (.dup, 1) := by decide +kernel
theorem dX2_init_30 : decode cX2_init 30 = .ok (.invokespecial 17, 3) := by decide +kernel
theorem dX2_init_33 : decode cX2_init 33 = .ok (.aastore, 1) := by decide +kernel
theorem dX2_init_34 : decode cX2_init 34 = .ok (.iinc 1 1, 3) := by decide +kernel
theorem dX2_init_37 : decode cX2_init 37 = .ok (.goto (-22), 3) := by decide +kernel
theorem dX2_init_40 : decode cX2_init 40 = .ok (.return_, 1) := by decide +kernel
set_option maxRecDepth 20000 in
theorem ggX2_keep_X4_copyFrom : GoodIn wsX2_keep wsX4_copyFrom := goodIn_r _ [12, 13, 14, 15, 16, 17, 18, 19, 20, 21, 22, 23, 24, 25, 26, 30, 31, 32, 33, 34, 35, 36, 37, 38, 39] (by decide +kernel) (by decide +kernel)
set_option maxRecDepth 20000 in
theorem gX2_keep_X4_copyFrom : GoodIn wsX2_keep (wsV RX2 22 RX4 yX4_copyFrom wsX4_copyFrom) := goodIn_app (goodIn_of _ (by decide +kernel)) ggX2_keep_X4_copyFrom
theorem dX2_keep_0 : decode cX2_keep 0 = .ok (.aload_n 0, 1) := by decide +kernel
theorem dX2_keep_1 : decode cX2_keep 1 = .ok (.getfield 11, 3) := by decide +kernel
theorem dX2_keep_4 : decode cX2_keep 4 = .ok (.aload_n 0, 1) := by decide +kernel
theorem dX2_keep_5 : decode cX2_keep 5 = .ok (.getfield 18, 3) := by decide +kernel
theorem dX2_keep_8 : decode cX2_keep 8 = .ok (.aaload, 1) := by decide +kernel
theorem dX2_keep_9 : decode cX2_keep 9 = .ok (.aload_n 1, 1) := by decide +kernel
theorem dX2_keep_10 : decode cX2_keep 10 = .ok (.invokevirtual 22, 3) := by decide +kernel
theorem dX2_keep_13 : decode cX2_keep 13 = .ok (.aload_n 0, 1) := by decide +kernel
theorem dX2_keep_14 : decode cX2_keep 14 = .ok (.aload_n 0, 1) := by decide +kernel
theorem dX2_keep_15 : decode cX2_keep 15 = .ok (.getfield 18, 3) := by decide +kernel
theorem dX2_keep_18 : decode cX2_keep 18 = .ok (.iconst 1, 1) := by decide +kernel
theorem dX2_keep_19 : decode cX2_keep 19 = .ok (.iadd, 1) := by decide +kernel
theorem dX2_keep_20 : decode cX2_keep 20 = .ok (.bipush 6, 2) := by decide +kernel
theorem dX2_keep_22 : decode cX2_keep 22 = .ok (.if_icmp .ge 12, 3) := by decide +kernel
theorem dX2_keep_25 : decode cX2_keep 25 = .ok (.aload_n 0, 1) := by decide +kernel
theorem dX2_keep_26 : decode cX2_keep 26 = .ok (.getfield 18, 3) := by decide +kernel
theorem dX2_keep_29 : decode cX2_keep 29 = .ok (.iconst 1, 1) := by decide +kernel
theorem dX2_keep_30 : decode cX2_keep 30 = .ok (.iadd, 1) := by decide +kernel
theorem dX2_keep_31 : decode cX2_keep 31 = .ok (.goto 4, 3) := by decide +kernel
theorem dX2_keep_34 : decode cX2_keep 34 = .ok (.iconst 0, 1) := by decide +kernel
theorem dX2_keep_35 : decode cX2_keep 35 = .ok (.putfield 18, 3) := by decide +kernel
theorem dX2_keep_38 : decode cX2_keep 38 = .ok (.aload_n 0, 1) := by decide +kernel
theorem dX2_keep_39 : decode cX2_keep 39 = .ok (.aload_n 0, 1) := by decide +kernel
theorem dX2_keep_40 : decode cX2_keep 40 = .ok (.getfield 26, 3) := by decide +kernel
theorem dX2_keep_43 : decode cX2_keep 43 = .ok (.iconst 1, 1) := by decide +kernel
theorem dX2_keep_44 : decode cX2_keep 44 = .ok (.iadd, 1) := by decide +kernel
theorem dX2_keep_45 : decode cX2_keep 45 = .ok (.bipush 6, 2) := by decide +kernel
theorem dX2_keep_47 : decode cX2_keep 47 = .ok (.invokestatic 29, 3) := by decide +kernel
theorem dX2_keep_50 : decode cX2_keep 50 = .ok (.putfield 26, 3) := by decide +kernel
theorem dX2_keep_53 : decode cX2_keep 53 = .ok (.return_, 1) := by decide +kernel
set_option maxRecDepth 20000 in
theorem ggX2_bringBack_X4_copyFrom : GoodIn wsX2_bringBack wsX4_copyFrom := goodIn_r _ [8, 9, 10, 11, 12, 13, 14, 15, 16, 17, 18, 19, 20, 21, 22, 26, 27, 28, 29, 30, 31, 32, 33, 34, 35] (by decide +kernel) (by decide +kernel)
set_option maxRecDepth 20000 in
theorem gX2_bringBack_X4_copyFrom : GoodIn wsX2_bringBack (wsV RX2 22 RX4 yX4_copyFrom wsX4_copyFrom) := goodIn_app (goodIn_of _ (by decide +kernel)) ggX2_bringBack_X4_copyFrom
theorem dX2_bringBack_0 : decode cX2_bringBack 0 = .ok (.aload_n 0, 1) := by decide +kernel
theorem dX2_bringBack_1 : decode cX2_bringBack 1 = .ok (.getfield 26, 3) := by decide +kernel
theorem dX2_bringBack_4 : decode cX2_bringBack 4 = .ok (.ifCond .ne 5, 3) := by decide +kernel
theorem dX2_bringBack_7 : decode cX2_bringBack 7 = .ok (.iconst 0, 1) := by decide +kernel
theorem dX2_bringBack_8 : decode cX2_bringBack 8 = .ok (.ireturn, 1) := by decide +kernel
theorem dX2_bringBack_9 : decode cX2_bringBack 9 = .ok (.aload_n 0, 1) := by decide +kernel
theorem dX2_bringBack_10 : decode cX2_bringBack 10 = .ok (.aload_n 0, 1) := by decide +kernel
theorem dX2_bringBack_11 : decode cX2_bringBack 11 = .ok (.getfield 18, 3) := by decide +kernel
theorem dX2_bringBack_14 : decode cX2_bringBack 14 = .ok (.ifCond .le 12, 3) := by decide +kernel
theorem dX2_bringBack_17 : decode cX2_bringBack 17 = .ok (.aload_n 0, 1) := by decide +kernel
theorem dX2_bringBack_18 : decode cX2_bringBack 18 = .ok (.getfield 18, 3) := by decide +kernel
theorem dX2_bringBack_21 : decode cX2_bringBack 21 = .ok (.iconst 1, 1) := by decide +kernel
theorem dX2_bringBack_22 : decode cX2_bringBack 22 = .ok (.isub, 1) := by decide +kernel
theorem dX2_bringBack_23 : decode cX2_bringBack 23 = .ok (.goto 4, 3) := by decide +kernel
theorem dX2_bringBack_26 : decode cX2_bringBack 26 = .ok (.iconst 5, 1) := by decide +kernel
theorem dX2_bringBack_27 : decode cX2_bringBack 27 = .ok (.putfield 18, 3) := by decide +kernel
theorem dX2_bringBack_30 : decode cX2_bringBack 30 = .ok (.aload_n 0, 1) := by decide +kernel
theorem dX2_bringBack_31 : decode cX2_bringBack 31 = .ok (.dup, 1) := by decide +kernel
theorem dX2_bringBack_32 : decode cX2_bringBack 32 = .ok (.getfield 26, 3) := by decide +kernel
theorem dX2_bringBack_35 : decode cX2_bringBack 35 = .ok (.iconst 1, 1) := by decide +kernel
theorem dX2_bringBack_36 : decode cX2_bringBack 36 = .ok (.isub, 1) := by decide +kernel
theorem dX2_bringBack_37 : decode cX2_bringBack 37 = .ok (.putfield 26, 3) := by decide +kernel
theorem dX2_bringBack_40 : decode cX2_bringBack 40 = .ok (.aload_n 1, 1) := by decide +kernel
theorem dX2_bringBack_41 : decode cX2_bringBack 41 = .ok (.aload_n 0, 1) := by decide +kernel
theorem dX2_bringBack_42 : decode cX2_bringBack 42 = .ok (.getfield 11, 3) := by decide +kernel
theorem dX2_bringBack_45 : decode cX2_bringBack 45 = .ok (.aload_n 0, 1) := by decide +kernel
theorem dX2_bringBack_46 : decode cX2_bringBack 46 = .ok (.getfield 18, 3) := by decide +kernel
theorem dX2_bringBack_49 : decode cX2_bringBack 49 = .ok (.aaload, 1) := by decide +kernel
theorem dX2_bringBack_50 : decode cX2_bringBack 50 = .ok (.invokevirtual 22, 3) := by decide +kernel
theorem dX2_bringBack_53 : decode cX2_bringBack 53 = .ok (.iconst 1, 1) := by decide +kernel
theorem dX2_bringBack_54 : decode cX2_bringBack 54 = .ok (.ireturn, 1) := by decide +kernel
theorem dX3_init_0 : decode cX3_init 0 = .ok (.aload_n 0, 1) := by decide +kernel
theorem dX3_init_1 : decode cX3_init 1 = .ok (.invokespecial 3, 3) := by decide +kernel
theorem dX3_init_4 : decode cX3_init 4 = .ok (.aload_n 0, 1) := by decide +kernel
theorem dX3_init_5 : decode cX3_init 5 = .ok (.bipush 6, 2) := by decide +kernel
theorem dX3_init_7 : decode cX3_init 7 = .ok (.newarray .int, 2) := by decide +kernel
theorem dX3_init_9 : decode cX3_init 9 = .ok (.putfield 9, 3) := by decide +kernel
theorem dX3_init_12 : decode cX3_init 12 = .ok (.return_, 1) := by decide +kernel
set_option maxRecDepth 20000 in
theorem ggX3_lineUp_X7_holds : GoodIn wsX3_lineUp wsX7_holds := goodIn_r _ [5] (by decide +kernel) (by decide +kernel)
set_option maxRecDepth 20000 in
theorem gX3_lineUp_X7_holds_n19 : GoodIn wsX3_lineUp (wsX7_holds) := ggX3_lineUp_X7_holds
theorem dX3_lineUp_0 : decode cX3_lineUp 0 = .ok (.aload_n 0, 1) := by decide +kernel
theorem dX3_lineUp_1 : decode cX3_lineUp 1 = .ok (.iconst 0, 1) := by decide +kernel
theorem dX3_lineUp_2 : decode cX3_lineUp 2 = .ok (.putfield 15, 3) := by decide +kernel
theorem dX3_lineUp_5 : decode cX3_lineUp 5 = .ok (.iconst 0, 1) := by decide +kernel
theorem dX3_lineUp_6 : decode cX3_lineUp 6 = .ok (.istore_n 3, 1) := by decide +kernel
theorem dX3_lineUp_7 : decode cX3_lineUp 7 = .ok (.iload_n 3, 1) := by decide +kernel
theorem dX3_lineUp_8 : decode cX3_lineUp 8 = .ok (.bipush 6, 2) := by decide +kernel
theorem dX3_lineUp_10 : decode cX3_lineUp 10 = .ok (.if_icmp .ge 86, 3) := by decide +kernel
theorem dX3_lineUp_13 : decode cX3_lineUp 13 = .ok (.iload_n 1, 1) := by decide +kernel
theorem dX3_lineUp_14 : decode cX3_lineUp 14 = .ok (.iload_n 3, 1) := by decide +kernel
theorem dX3_lineUp_15 : decode cX3_lineUp 15 = .ok (.invokestatic 19, 3) := by decide +kernel
theorem dX3_lineUp_18 : decode cX3_lineUp 18 = .ok (.ifCond .eq 72, 3) := by decide +kernel
theorem dX3_lineUp_21 : decode cX3_lineUp 21 = .ok (.aload_n 0, 1) := by decide +kernel
theorem dX3_lineUp_22 : decode cX3_lineUp 22 = .ok (.getfield 15, 3) := by decide +kernel
theorem dX3_lineUp_25 : decode cX3_lineUp 25 = .ok (.istore 4, 2) := by decide +kernel
theorem dX3_lineUp_27 : decode cX3_lineUp 27 = .ok (.iload 4, 2) := by decide +kernel
theorem dX3_lineUp_29 : decode cX3_lineUp 29 = .ok (.ifCond .le 43, 3) := by decide +kernel
theorem dX3_lineUp_32 : decode cX3_lineUp 32 = .ok (.aload_n 2, 1) := by decide +kernel
theorem dX3_lineUp_33 : decode cX3_lineUp 33 = .ok (.aload_n 0, 1) := by decide +kernel
theorem dX3_lineUp_34 : decode cX3_lineUp 34 = .ok (.getfield 9, 3) := by decide +kernel
theorem dX3_lineUp_37 : decode cX3_lineUp 37 = .ok (.iload 4, 2) := by decide +kernel
theorem dX3_lineUp_39 : decode cX3_lineUp 39 = .ok (.iconst 1, 1) := by decide +kernel
theorem dX3_lineUp_40 : decode cX3_lineUp 40 = .ok (.isub, 1) := by decide +kernel
theorem dX3_lineUp_41 : decode cX3_lineUp 41 = .ok (.iaload, 1) := by decide +kernel
theorem dX3_lineUp_42 : decode cX3_lineUp 42 = .ok (.laload, 1) := by decide +kernel
theorem dX3_lineUp_43 : decode cX3_lineUp 43 = .ok (.aload_n 2, 1) := by decide +kernel
theorem dX3_lineUp_44 : decode cX3_lineUp 44 = .ok (.iload_n 3, 1) := by decide +kernel
theorem dX3_lineUp_45 : decode cX3_lineUp 45 = .ok (.laload, 1) := by decide +kernel
theorem dX3_lineUp_46 : decode cX3_lineUp 46 = .ok (.lcmp, 1) := by decide +kernel
theorem dX3_lineUp_47 : decode cX3_lineUp 47 = .ok (.ifCond .ge 25, 3) := by decide +kernel
theorem dX3_lineUp_50 : decode cX3_lineUp 50 = .ok (.aload_n 0, 1) := by decide +kernel
theorem dX3_lineUp_51 : decode cX3_lineUp 51 = .ok (.getfield 9, 3) := by decide +kernel
theorem dX3_lineUp_54 : decode cX3_lineUp 54 = .ok (.iload 4, 2) := by decide +kernel
theorem dX3_lineUp_56 : decode cX3_lineUp 56 = .ok (.aload_n 0, 1) := by decide +kernel
theorem dX3_lineUp_57 : decode cX3_lineUp 57 = .ok (.getfield 9, 3) := by decide +kernel
theorem dX3_lineUp_60 : decode cX3_lineUp 60 = .ok (.iload 4, 2) := by decide +kernel
theorem dX3_lineUp_62 : decode cX3_lineUp 62 = .ok (.iconst 1, 1) := by decide +kernel
theorem dX3_lineUp_63 : decode cX3_lineUp 63 = .ok (.isub, 1) := by decide +kernel
theorem dX3_lineUp_64 : decode cX3_lineUp 64 = .ok (.iaload, 1) := by decide +kernel
theorem dX3_lineUp_65 : decode cX3_lineUp 65 = .ok (.iastore, 1) := by decide +kernel
theorem dX3_lineUp_66 : decode cX3_lineUp 66 = .ok (.iinc 4 (-1), 3) := by decide +kernel
theorem dX3_lineUp_69 : decode cX3_lineUp 69 = .ok (.goto (-42), 3) := by decide +kernel
theorem dX3_lineUp_72 : decode cX3_lineUp 72 = .ok (.aload_n 0, 1) := by decide +kernel
theorem dX3_lineUp_73 : decode cX3_lineUp 73 = .ok (.getfield 9, 3) := by decide +kernel
theorem dX3_lineUp_76 : decode cX3_lineUp 76 = .ok (.iload 4, 2) := by decide +kernel
theorem dX3_lineUp_78 : decode cX3_lineUp 78 = .ok (.iload_n 3, 1) := by decide +kernel
theorem dX3_lineUp_79 : decode cX3_lineUp 79 = .ok (.iastore, 1) := by decide +kernel
theorem dX3_lineUp_80 : decode cX3_lineUp 80 = .ok (.aload_n 0, 1) := by decide +kernel
theorem dX3_lineUp_81 : decode cX3_lineUp 81 = .ok (.dup, 1) := by decide +kernel
theorem dX3_lineUp_82 : decode cX3_lineUp 82 = .ok (.getfield 15, 3) := by decide +kernel
theorem dX3_lineUp_85 : decode cX3_lineUp 85 = .ok (.iconst 1, 1) := by decide +kernel
theorem dX3_lineUp_86 : decode cX3_lineUp 86 = .ok (.iadd, 1) := by decide +kernel
theorem dX3_lineUp_87 : decode cX3_lineUp 87 = .ok (.putfield 15, 3) := by decide +kernel
theorem dX3_lineUp_90 : decode cX3_lineUp 90 = .ok (.iinc 3 1, 3) := by decide +kernel
theorem dX3_lineUp_93 : decode cX3_lineUp 93 = .ok (.goto (-86), 3) := by decide +kernel
theorem dX3_lineUp_96 : decode cX3_lineUp 96 = .ok (.return_, 1) := by decide +kernel
set_option maxRecDepth 20000 in
theorem ggX3_split_J6_bitCount_0f7a4 : GoodIn wsX3_split wsJ6_bitCount_0f7a4 := goodIn_r _ [8, 9, 10, 11] (by decide +kernel) (by decide +kernel)
set_option maxRecDepth 20000 in
theorem gX3_split_J6_bitCount_0f7a4 : GoodIn wsX3_split (va_wsS RX3 31 yJ6_bitCount_0f7a4 wsJ6_bitCount_0f7a4) := goodIn_app (goodIn_of _ (by decide +kernel)) ggX3_split_J6_bitCount_0f7a4
set_option maxRecDepth 20000 in
theorem ggX3_split_X3_meanPaged : GoodIn wsX3_split wsX3_meanPaged := goodIn_r _ [16, 4, 17, 18, 19, 20, 15, 21, 22, 23, 24, 25, 26, 27, 28] (by decide +kernel) (by decide +kernel)
set_option maxRecDepth 20000 in
theorem gX3_split_X3_meanPaged : GoodIn wsX3_split (wsV RX3 37 RX3 yX3_meanPaged wsX3_meanPaged) := goodIn_app (goodIn_of _ (by decide +kernel)) ggX3_split_X3_meanPaged
theorem dX3_split_0 : decode cX3_split 0 = .ok (.ldc2_w 23, 3) := by decide +kernel
theorem dX3_split_3 : decode cX3_split 3 = .ok (.lstore_n 3, 1) := by decide +kernel
theorem dX3_split_4 : decode cX3_split 4 = .ok (.aload_n 0, 1) := by decide +kernel
theorem dX3_split_5 : decode cX3_split 5 = .ok (.iconst 0, 1) := by decide +kernel
theorem dX3_split_6 : decode cX3_split 6 = .ok (.putfield 25, 3) := by decide +kernel
theorem dX3_split_9 : decode cX3_split 9 = .ok (.aload_n 0, 1) := by decide +kernel
theorem dX3_split_10 : decode cX3_split 10 = .ok (.iconst 0, 1) := by decide +kernel
theorem dX3_split_11 : decode cX3_split 11 = .ok (.putfield 28, 3) := by decide +kernel
theorem dX3_split_14 : decode cX3_split 14 = .ok (.aload_n 0, 1) := by decide +kernel
theorem dX3_split_15 : decode cX3_split 15 = .ok (.getfield 15, 3) := by decide +kernel
theorem dX3_split_18 : decode cX3_split 18 = .ok (.ifCond .le 16, 3) := by decide +kernel
theorem dX3_split_21 : decode cX3_split 21 = .ok (.iconst 1, 1) := by decide +kernel
theorem dX3_split_22 : decode cX3_split 22 = .ok (.aload_n 0, 1) := by decide +kernel
theorem dX3_split_23 : decode cX3_split 23 = .ok (.getfield 15, 3) := by decide +kernel
theorem dX3_split_26 : decode cX3_split 26 = .ok (.iconst 1, 1) := by decide +kernel
theorem dX3_split_27 : decode cX3_split 27 = .ok (.isub, 1) := by decide +kernel
theorem dX3_split_28 : decode cX3_split 28 = .ok (.ishl, 1) := by decide +kernel
theorem dX3_split_29 : decode cX3_split 29 = .ok (.iconst 1, 1) := by decide +kernel
theorem dX3_split_30 : decode cX3_split 30 = .ok (.isub, 1) := by decide +kernel
theorem dX3_split_31 : decode cX3_split 31 = .ok (.goto 4, 3) := by decide +kernel
theorem dX3_split_34 : decode cX3_split 34 = .ok (.iconst (-1), 1) := by decide +kernel
theorem dX3_split_35 : decode cX3_split 35 = .ok (.istore 5, 2) := by decide +kernel
theorem dX3_split_37 : decode cX3_split 37 = .ok (.iload 5, 2) := by decide +kernel
theorem dX3_split_39 : decode cX3_split 39 = .ok (.istore 6, 2) := by decide +kernel
theorem dX3_split_41 : decode cX3_split 41 = .ok (.iload 6, 2) := by decide +kernel
theorem dX3_split_43 : decode cX3_split 43 = .ok (.ifCond .lt 90, 3) := by decide +kernel
theorem dX3_split_46 : decode cX3_split 46 = .ok (.iload 6, 2) := by decide +kernel
theorem dX3_split_48 : decode cX3_split 48 = .ok (.invokestatic 31, 3) := by decide +kernel
theorem dX3_split_51 : decode cX3_split 51 = .ok (.iconst 1, 1) := by decide +kernel
theorem dX3_split_52 : decode cX3_split 52 = .ok (.iadd, 1) := by decide +kernel
theorem dX3_split_53 : decode cX3_split 53 = .ok (.istore 7, 2) := by decide +kernel
theorem dX3_split_55 : decode cX3_split 55 = .ok (.iload 7, 2) := by decide +kernel
theorem dX3_split_57 : decode cX3_split 57 = .ok (.iload_n 1, 1) := by decide +kernel
theorem dX3_split_58 : decode cX3_split 58 = .ok (.if_icmp .gt 13, 3) := by decide +kernel
theorem dX3_split_61 : decode cX3_split 61 = .ok (.aload_n 0, 1) := by decide +kernel
theorem dX3_split_62 : decode cX3_split 62 = .ok (.iload 6, 2) := by decide +kernel
theorem dX3_split_64 : decode cX3_split 64 = .ok (.aload_n 2, 1) := by decide +kernel
theorem dX3_split_65 : decode cX3_split 65 = .ok (.invokevirtual 37, 3) := by decide +kernel
theorem dX3_split_68 : decode cX3_split 68 = .ok (.goto 6, 3) := by decide +kernel
theorem dX3_split_71 : decode cX3_split 71 = .ok (.ldc2_w 23, 3) := by decide +kernel
theorem dX3_split_74 : decode cX3_split 74 = .ok (.lstore 8, 2) := by decide +kernel
theorem dX3_split_76 : decode cX3_split 76 = .ok (.lload 8, 2) := by decide +kernel
theorem dX3_split_78 : decode cX3_split 78 = .ok (.lconst 0, 1) := by decide +kernel
theorem dX3_split_79 : decode cX3_split 79 = .ok (.lcmp, 1) := by decide +kernel
theorem dX3_split_80 : decode cX3_split 80 = .ok (.ifCond .lt 47, 3) := by decide +kernel
theorem dX3_split_83 : decode cX3_split 83 = .ok (.lload_n 3, 1) := by decide +kernel
theorem dX3_split_84 : decode cX3_split 84 = .ok (.lconst 0, 1) := by decide +kernel
theorem dX3_split_85 : decode cX3_split 85 = .ok (.lcmp, 1) := by decide +kernel
theorem dX3_split_86 : decode cX3_split 86 = .ok (.ifCond .lt 26, 3) := by decide +kernel
theorem dX3_split_89 : decode cX3_split 89 = .ok (.lload 8, 2) := by decide +kernel
theorem dX3_split_91 : decode cX3_split 91 = .ok (.lload_n 3, 1) := by decide +kernel
theorem dX3_split_92 : decode cX3_split 92 = .ok (.lcmp, 1) := by decide +kernel
theorem dX3_split_93 : decode cX3_split 93 = .ok (.ifCond .lt 19, 3) := by decide +kernel
theorem dX3_split_96 : decode cX3_split 96 = .ok (.lload 8, 2) := by decide +kernel
theorem dX3_split_98 : decode cX3_split 98 = .ok (.lload_n 3, 1) := by decide +kernel
theorem dX3_split_99 : decode cX3_split 99 = .ok (.lcmp, 1) := by decide +kernel
theorem dX3_split_100 : decode cX3_split 100 = .ok (.ifCond .ne 27, 3) := by decide +kernel
theorem dX3_split_103 : decode cX3_split 103 = .ok (.iload 7, 2) := by decide +kernel
theorem dX3_split_105 : decode cX3_split 105 = .ok (.aload_n 0, 1) := by decide +kernel
theorem dX3_split_106 : decode cX3_split 106 = .ok (.getfield 25, 3) := by decide +kernel
theorem dX3_split_109 : decode cX3_split 109 = .ok (.if_icmp .ge 18, 3) := by decide +kernel
theorem dX3_split_112 : decode cX3_split 112 = .ok (.lload 8, 2) := by decide +kernel
theorem dX3_split_114 : decode cX3_split 114 = .ok (.lstore_n 3, 1) := by decide +kernel
theorem dX3_split_115 : decode cX3_split 115 = .ok (.aload_n 0, 1) := by decide +kernel
theorem dX3_split_116 : decode cX3_split 116 = .ok (.iload 6, 2) := by decide +kernel
theorem dX3_split_118 : decode cX3_split 118 = .ok (.putfield 28, 3) := by decide +kernel
theorem dX3_split_121 : decode cX3_split 121 = .ok (.aload_n 0, 1) := by decide +kernel
theorem dX3_split_122 : decode cX3_split 122 = .ok (.iload 7, 2) := by decide +kernel
theorem dX3_split_124 : decode cX3_split 124 = .ok (.putfield 25, 3) := by decide +kernel
theorem dX3_split_127 : decode cX3_split 127 = .ok (.iinc 6 (-1), 3) := by decide +kernel
theorem dX3_split_130 : decode cX3_split 130 = .ok (.goto (-89), 3) := by decide +kernel
theorem dX3_split_133 : decode cX3_split 133 = .ok (.return_, 1) := by decide +kernel
set_option maxRecDepth 20000 in
theorem ggX3_isCutBehind_X7_holds : GoodIn wsX3_isCutBehind wsX7_holds := goodIn_r _ [4] (by decide +kernel) (by decide +kernel)
set_option maxRecDepth 20000 in
theorem gX3_isCutBehind_X7_holds_n19 : GoodIn wsX3_isCutBehind (wsX7_holds) := ggX3_isCutBehind_X7_holds
theorem dX3_isCutBehind_0 : decode cX3_isCutBehind 0 = .ok (.iload_n 2, 1) := by decide +kernel
theorem dX3_isCutBehind_1 : decode cX3_isCutBehind 1 = .ok (.aload_n 0, 1) := by decide +kernel
theorem dX3_isCutBehind_2 : decode cX3_isCutBehind 2 = .ok (.getfield 15, 3) := by decide +kernel
theorem dX3_isCutBehind_5 : decode cX3_isCutBehind 5 = .ok (.iconst 1, 1) := by decide +kernel
theorem dX3_isCutBehind_6 : decode cX3_isCutBehind 6 = .ok (.isub, 1) := by decide +kernel
theorem dX3_isCutBehind_7 : decode cX3_isCutBehind 7 = .ok (.if_icmp .ge 22, 3) := by decide +kernel
theorem dX3_isCutBehind_10 : decode cX3_isCutBehind 10 = .ok (.iload_n 1, 1) := by decide +kernel
theorem dX3_isCutBehind_11 : decode cX3_isCutBehind 11 = .ok (.aload_n 0, 1) := by decide +kernel
theorem dX3_isCutBehind_12 : decode cX3_isCutBehind 12 = .ok (.getfield 15, 3) := by decide +kernel
theorem dX3_isCutBehind_15 : decode cX3_isCutBehind 15 = .ok (.iconst 2, 1) := by decide +kernel
theorem dX3_isCutBehind_16 : decode cX3_isCutBehind 16 = .ok (.isub, 1) := by decide +kernel
theorem dX3_isCutBehind_17 : decode cX3_isCutBehind 17 = .ok (.iload_n 2, 1) := by decide +kernel
theorem dX3_isCutBehind_18 : decode cX3_isCutBehind 18 = .ok (.isub, 1) := by decide +kernel
theorem dX3_isCutBehind_19 : decode cX3_isCutBehind 19 = .ok (.invokestatic 19, 3) := by decide +kernel
theorem dX3_isCutBehind_22 : decode cX3_isCutBehind 22 = .ok (.ifCond .eq 7, 3) := by decide +kernel
theorem dX3_isCutBehind_25 : decode cX3_isCutBehind 25 = .ok (.iconst 1, 1) := by decide +kernel
theorem dX3_isCutBehind_26 : decode cX3_isCutBehind 26 = .ok (.goto 4, 3) := by decide +kernel
theorem dX3_isCutBehind_29 : decode cX3_isCutBehind 29 = .ok (.iconst 0, 1) := by decide +kernel
theorem dX3_isCutBehind_30 : decode cX3_isCutBehind 30 = .ok (.ireturn, 1) := by decide +kernel
set_option maxRecDepth 20000 in
theorem ggX3_meanPaged_X3_isCutBehind : GoodIn wsX3_meanPaged wsX3_isCutBehind := goodIn_r _ [7, 1, 8, 9, 10, 11, 12, 13, 14] (by decide +kernel) (by decide +kernel)
set_option maxRecDepth 20000 in
theorem gX3_meanPaged_X3_isCutBehind : GoodIn wsX3_meanPaged (wsV RX3 41 RX3 yX3_isCutBehind wsX3_isCutBehind) := goodIn_app (goodIn_of _ (by decide +kernel)) ggX3_meanPaged_X3_isCutBehind
theorem dX3_meanPaged_0 : decode cX3_meanPaged 0 = .ok (.lconst 0, 1) := by decide +kernel
theorem dX3_meanPaged_1 : decode cX3_meanPaged 1 = .ok (.lstore_n 3, 1) := by decide +kernel
theorem dX3_meanPaged_2 : decode cX3_meanPaged 2 = .ok (.aload_n 0, 1) := by decide +kernel
theorem dX3_meanPaged_3 : decode cX3_meanPaged 3 = .ok (.getfield 15, 3) := by decide +kernel
theorem dX3_meanPaged_6 : decode cX3_meanPaged 6 = .ok (.istore 5, 2) := by decide +kernel
theorem dX3_meanPaged_8 : decode cX3_meanPaged 8 = .ok (.aload_n 0, 1) := by decide +kernel
theorem dX3_meanPaged_9 : decode cX3_meanPaged 9 = .ok (.getfield 15, 3) := by decide +kernel
theorem dX3_meanPaged_12 : decode cX3_meanPaged 12 = .ok (.iconst 1, 1) := by decide +kernel
theorem dX3_meanPaged_13 : decode cX3_meanPaged 13 = .ok (.isub, 1) := by decide +kernel
theorem dX3_meanPaged_14 : decode cX3_meanPaged 14 = .ok (.istore 6, 2) := by decide +kernel
theorem dX3_meanPaged_16 : decode cX3_meanPaged 16 = .ok (.iload 6, 2) := by decide +kernel
theorem dX3_meanPaged_18 : decode cX3_meanPaged 18 = .ok (.ifCond .lt 41, 3) := by decide +kernel
theorem dX3_meanPaged_21 : decode cX3_meanPaged 21 = .ok (.aload_n 0, 1) := by decide +kernel
theorem dX3_meanPaged_22 : decode cX3_meanPaged 22 = .ok (.iload_n 1, 1) := by decide +kernel
theorem dX3_meanPaged_23 : decode cX3_meanPaged 23 = .ok (.iload 6, 2) := by decide +kernel
theorem dX3_meanPaged_25 : decode cX3_meanPaged 25 = .ok (.invokevirtual 41, 3) := by decide +kernel
theorem dX3_meanPaged_28 : decode cX3_meanPaged 28 = .ok (.ifCond .eq 9, 3) := by decide +kernel
theorem dX3_meanPaged_31 : decode cX3_meanPaged 31 = .ok (.iload 6, 2) := by decide +kernel
theorem dX3_meanPaged_33 : decode cX3_meanPaged 33 = .ok (.iconst 1, 1) := by decide +kernel
theorem dX3_meanPaged_34 : decode cX3_meanPaged 34 = .ok (.iadd, 1) := by decide +kernel
theorem dX3_meanPaged_35 : decode cX3_meanPaged 35 = .ok (.istore 5, 2) := by decide +kernel
theorem dX3_meanPaged_37 : decode cX3_meanPaged 37 = .ok (.lload_n 3, 1) := by decide +kernel
theorem dX3_meanPaged_38 : decode cX3_meanPaged 38 = .ok (.iload 5, 2) := by decide +kernel
theorem dX3_meanPaged_40 : decode cX3_meanPaged 40 = .ok (.i2l, 1) := by decide +kernel
