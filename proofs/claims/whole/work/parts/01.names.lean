/-! ===== BEGIN words of one list among another's, by their places ===== -/
theorem goodIn_r {big : List Cond} (ws : List Cond) (ps : List Nat) (hp : ws = ps.filterMap (fun i => big[i]?)) (h : ws.all goodWord = true) : GoodIn big ws := by
  intro w hw
  have h1 := List.all_eq_true.mp h w hw
  rw [hp] at hw
  obtain ⟨i, -, hi⟩ := List.mem_filterMap.mp hw
  have hm : w ∈ big := by first | exact List.mem_of_getElem? hi | exact List.getElem?_mem hi
  exact ⟨hm, good_of_word h1⟩
theorem goodIn_app {big a b : List Cond} (ha : GoodIn big a) (hb : GoodIn big b) : GoodIn big (a ++ b) := fun w h => (List.mem_append.mp h).elim (ha w) (hb w)
theorem goodIn_ca {big a b : List Cond} {c : Cond} (ha : GoodIn big (c :: a)) (hb : GoodIn big b) : GoodIn big (c :: (a ++ b)) := fun w h => (List.mem_cons.mp h).elim (fun e => ha w (List.mem_cons.mpr (Or.inl e))) (fun h => (List.mem_append.mp h).elim (fun h => ha w (List.mem_cons.mpr (Or.inr h))) (hb w))
theorem goodIn_sub {big ws : List Cond} (hm : ∀ w ∈ ws, w ∈ big) (h : ws.all goodWord = true) : GoodIn big ws := fun w hw => ⟨hm w hw, good_of_word (List.all_eq_true.mp h w hw)⟩
/-! ===== END ===== -/

/-! ===== BEGIN new T[n][m]: the outer array a place, the inner ones among the pooled ===== -/
/-- f, but v at every address of l -/
def vr_up {α : Type} (f : Nat → α) (l : List Nat) (v : α) : Nat → α := fun a => if a ∈ l then v else f a
theorem vr_up_in {α : Type} {f : Nat → α} {l : List Nat} {v : α} {a : Nat} (h : a ∈ l) : vr_up f l v a = v := if_pos h
theorem vr_up_ne {α : Type} {f : Nat → α} {l : List Nat} {v : α} {a : Nat} (h : a ∉ l) : vr_up f l v a = f a := if_neg h
theorem vr_rows {L l : List Nat} {f : Nat → va_E} {e : va_E} (h : ∀ a, a ∈ l → a ∉ L) : va_pl L f ++ l.map (fun a => (a, e)) = va_pl (L ++ l) (vr_up f l e) := by
  unfold va_pl
  rw [List.map_append]
  congr 1
  · apply List.map_congr_left
    intro a ha
    rw [vr_up_ne (fun q => h a q ha)]
  · apply List.map_congr_left
    intro a ha
    rw [vr_up_in ha]
theorem vr_lay {X rows : va_W} {x : Nat × va_E} {pl : va_W} {D : va_G} {cl : List vw_C} {H : Heap} (hP : va_P D cl (((X ++ pl) ++ [x]) ++ rows) H) : va_P D cl ((X ++ [x]) ++ (pl ++ rows)) H := by
  rw [List.append_assoc (X ++ pl)] at hP
  have h := va_P.swap hP
  rw [← List.append_assoc X] at h
  have h2 := va_P.swap h
  rw [List.append_assoc (X ++ [x])] at h2
  exact h2
theorem vr_layD {X rows : va_W} {x : Nat × va_E} {pl : va_W} {A : Nat → Prop} (hD : va_D A (((X ++ pl) ++ [x]) ++ rows)) : va_D A ((X ++ [x]) ++ (pl ++ rows)) := by
  rw [List.append_assoc (X ++ pl)] at hD
  have h := va_D.swap hD
  rw [← List.append_assoc X] at h
  have h2 := va_D.swap h
  rw [List.append_assoc (X ++ [x])] at h2
  exact h2
theorem vr_outer (c : ClassId) (N h0 : Nat) : ∀ i : Nat, Jvm.Free.Multi.outerC c N h0 i = arrV c N (fun j => va_rf (if j < i then some (h0 + 1 + j) else none))
  | 0 => by
    show ({ cls := c, slots := Array.replicate N .null, vm := .none } : Cell) = _
    rw [arrV_new]
    refine congrArg (arrV c N) (funext fun j => ?_)
    simp [va_rf]
  | i + 1 => by
    show (Jvm.Free.Multi.outerC c N h0 i).setSlot i (.ref (h0 + 1 + i)) = _
    rw [vr_outer c N h0 i, arrV_store]
    refine congrArg (arrV c N) (funext fun j => ?_)
    by_cases e : j = i
    · subst e
      simp [updV, va_rf]
    · by_cases h : j < i
      · simp [updV, e, h, Nat.lt_succ_of_lt h]
      · simp [updV, e, h, show ¬ j < i + 1 by omega]
def va_AOA (ty : FieldType) (U : State) : Prop := (Cond.arrayOver (.array ty)).before #[] U = true
theorem va_AOA.use {ty : FieldType} {A : Array Value} {U : State} (h : va_AOA ty U) : (Cond.arrayOver (.array ty)).before A U = true := h
section VGM
variable {p : Program} {l : Launch} {e : Env} {R : Room} {s : State} {m : MethodId} {args : Array Value} {below : List Frame} {meth : Method} {c : Code} {H : Heap} {locs : List Loc} {cells slots : Nat} {Q : State → Prop}
variable {cc : ByteArray} {pc : Nat} {ls : Array Slot} {rest : List Value} {D : va_G} {cl : List vw_C} {A : Nat → Prop} {a : Nat} {tys : List (ClassId × FieldType)} {ws : va_W} {H0 : Heap}
theorem va_mna {X : va_W} {L : List Nat} {f : Nat → va_E} {cc : ByteArray} (hexec : p.tables.exec = Jvm.exec) (hb : c.code = cc) {own : String} {index : Nat} {ty : FieldType} {cy : ClassId} (hown : s.vm.findClass own = some m.cls) (hclink : (Cond.classLink own index ("[" ++ (FieldType.array ty).toString)).before args s = true) (hover : va_AOA ty s) (harr : (Cond.arrayClass ty).before args s = true) (hcy : s.vm.findClass (FieldType.array ty).toString = some cy)
    (hK : va_K D cl tys s) (hP : va_P D cl (X ++ va_pl L f) H) (hD : va_D A (X ++ va_pl L f)) (hS : va_S A H0 H locs) (hA : ∀ q, H0.size ≤ q → A q) {n k : Int32} {N' K' : Nat} {z : vp_A} (hn : ¬ n < 0) (hk : ¬ k < 0) (hN : n.toNatClampNeg = N') (hM : k.toNatClampNeg = K')
    (hb1 : N' * 4 ≤ 536870912) (hb2 : K' * componentBytes ty ≤ 536870912) (hb3 : K' ≤ 536870912) (hdf : fits ty (defaultValue ty) = true) (hdd : (defaultValue ty).isDefault = true) (hcells : cells + (1 + N') ≤ R.cells) (hslots : slots + (N' + N' * K') ≤ R.slots) (hz : ∀ c : ClassId, Jvm.Free.Multi.innerC c K' (defaultValue ty) = vp_cell c z) (hdg : decode cc pc = .ok (.multianewarray index 2, 4))
    (kk : ∀ (q : Nat) (r : Nat → Nat) (cA : ClassId) (H1 : Heap), (∀ i j : Nat, i < N' → j < N' → r i = r j → i = j) → (∀ i : Nat, i < N' → r i ∉ L) → va_K D cl (tys ++ [(cA, .array ty)]) s →
      va_P D cl ((X ++ [(q, .inl (cA, N', .inr (.inr (.inr (.inr (fun i => if i < N' then some (r i) else none))))))]) ++ va_pl (L ++ (List.range N').map r) (vr_up f ((List.range N').map r) (.inl (cy, z)))) H1 → va_D A ((X ++ [(q, .inl (cA, N', .inr (.inr (.inr (.inr (fun i => if i < N' then some (r i) else none))))))]) ++ va_pl (L ++ (List.range N').map r) (vr_up f ((List.range N').map r) (.inl (cy, z)))) → va_S A H0 H1 locs →
      W p l e R s m args below meth c H1 locs (cells + 1 + N') (slots + N' + N' * K') Q (F0 m (pc + 4) ls (.ref q :: rest))) : W p l e R s m args below meth c H locs cells slots Q (F0 m pc ls (.int k :: .int n :: rest)) := by
  subst hN
  subst hM
  intro T hT Xs
  obtain ⟨vm₁, cA, comp, -, fA, fC, hO, -, X', step⟩ := Xs.multianewarray2F hexec hown hclink (va_AOA.use hover) harr (g := F0 m pc ls (.int k :: .int n :: rest)) rfl (by rw [hb]; exact hdg) rfl hn hk hb1 hb2 hb3 hdf hdd hcells hslots
  have ec : some cy = some comp := hcy.symm.trans fC
  cases ec
  generalize hF : Jvm.Free.Multi.fill (T.setVm vm₁) cA cy n.toNatClampNeg k.toNatClampNeg (defaultValue ty) n.toNatClampNeg = F at X' step
  have hTh : (T.setVm vm₁).heap = H := hT
  obtain ⟨f1, f2, -, -⟩ := Jvm.Free.Multi.fill_facts (T.setVm vm₁) cA cy n.toNatClampNeg k.toNatClampNeg (defaultValue ty) n.toNatClampNeg
  rw [hF, hTh] at f1 f2
  have hold : ∀ x : Nat, x < H.size → F.heap[x]? = H[x]? := fun x hx => by
    have := Jvm.Free.Multi.fill_old (T.setVm vm₁) cA cy n.toNatClampNeg k.toNatClampNeg (defaultValue ty) (a := x) (by rw [hTh]; exact hx) n.toNatClampNeg
    rw [hF, hTh] at this
    exact this
  have hrow : ∀ j : Nat, j < n.toNatClampNeg → F.heap[H.size + 1 + j]? = some (vp_cell cy z) := fun j hj => by
    have := Jvm.Free.Multi.fill_inner (T.setVm vm₁) cA cy n.toNatClampNeg k.toNatClampNeg (defaultValue ty) n.toNatClampNeg j hj
    rw [hF, hTh, hz] at this
    exact this
  have hout : Jvm.Free.Multi.outerC cA n.toNatClampNeg H.size n.toNatClampNeg = vp_cell cA (n.toNatClampNeg, .inr (.inr (.inr (.inr (fun i => if i < n.toNatClampNeg then some (H.size + 1 + i) else none))))) := by
    rw [vp_cell_q]
    exact vr_outer cA n.toNatClampNeg H.size n.toNatClampNeg
  rw [hout] at f2
  have hlt : ∀ a, a ∈ L → a < H.size := fun a ha => by
    obtain ⟨k9, hk9⟩ := va_pl_get (X := X) (f := f) ha
    exact (hP k9 _ hk9).lt
  have hnl : ∀ i : Nat, i < n.toNatClampNeg → H.size + 1 + i ∉ L := fun i _ h => by
    have := hlt _ h
    omega
  have hnm : ∀ a, a ∈ (List.range n.toNatClampNeg).map (fun i => H.size + 1 + i) → a ∉ L := fun a ha h => by
    obtain ⟨i, -, rfl⟩ := List.mem_map.mp ha
    have := hlt _ h
    omega
  have hP0 : va_P D cl (X ++ va_pl L f) F.heap := hP.kept (fun k9 x hx => hold x.1 ((hP k9 x hx).lt))
  have hP1 : va_P D cl ((X ++ va_pl L f) ++ [(H.size, .inl (cA, n.toNatClampNeg, .inr (.inr (.inr (.inr (fun i => if i < n.toNatClampNeg then some (H.size + 1 + i) else none))))))]) F.heap := hP0.app (fun k9 x hx => by
    have h0 : k9 < 1 := (List.getElem?_eq_some_iff.mp hx).1
    rw [show k9 = 0 by omega] at hx
    cases hx
    exact f2)
  have hP2 : va_P D cl (((X ++ va_pl L f) ++ [(H.size, .inl (cA, n.toNatClampNeg, .inr (.inr (.inr (.inr (fun i => if i < n.toNatClampNeg then some (H.size + 1 + i) else none))))))]) ++ ((List.range n.toNatClampNeg).map (fun i => H.size + 1 + i)).map (fun a => (a, .inl (cy, z)))) F.heap := hP1.app (fun k9 x hx => by
    obtain ⟨a, ha, rfl⟩ := List.mem_map.mp (List.mem_of_getElem? hx)
    obtain ⟨i, hi, rfl⟩ := List.mem_map.mp ha
    exact hrow i (List.mem_range.mp hi))
  have hD2 : va_D A (((X ++ va_pl L f) ++ [(H.size, .inl (cA, n.toNatClampNeg, .inr (.inr (.inr (.inr (fun i => if i < n.toNatClampNeg then some (H.size + 1 + i) else none))))))]) ++ ((List.range n.toNatClampNeg).map (fun i => H.size + 1 + i)).map (fun a => (a, .inl (cy, z)))) := by
    have hD1 := hD.push (e := .inl (cA, n.toNatClampNeg, .inr (.inr (.inr (.inr (fun i => if i < n.toNatClampNeg then some (H.size + 1 + i) else none)))))) hP rfl (hA _ hS.1)
    generalize hW1 : (X ++ va_pl L f) ++ [(H.size, .inl (cA, n.toNatClampNeg, .inr (.inr (.inr (.inr (fun i => if i < n.toNatClampNeg then some (H.size + 1 + i) else none))))))] = W1 at hD1 hP1 ⊢
    have hle : ∀ (k9 : Nat) (x : Nat × va_E), W1[k9]? = some x → x.1 ≤ H.size := fun k9 x hx => by
      rw [← hW1] at hx
      by_cases hl : k9 < (X ++ va_pl L f).length
      · rw [List.getElem?_append_left hl] at hx
        exact Nat.le_of_lt ((hP k9 x hx).lt)
      · rw [List.getElem?_append_right (by omega)] at hx
        have h0 : k9 - (X ++ va_pl L f).length < 1 := (List.getElem?_eq_some_iff.mp hx).1
        rw [show k9 - (X ++ va_pl L f).length = 0 by omega] at hx
        cases hx
        exact Nat.le_refl _
    have hr : ∀ (k9 : Nat) (x : Nat × va_E), (((List.range n.toNatClampNeg).map (fun i => H.size + 1 + i)).map (fun a => ((a, .inl (cy, z)) : Nat × va_E)))[k9]? = some x → x.1 = H.size + 1 + k9 := fun k9 x hx => by
      rw [List.getElem?_map, List.getElem?_map] at hx
      by_cases h9 : k9 < n.toNatClampNeg
      · rw [List.getElem?_range h9] at hx
        cases hx
        rfl
      · have hn0 : (List.range n.toNatClampNeg)[k9]? = none := List.getElem?_eq_none (by rw [List.length_range]; omega)
        rw [hn0] at hx
        cases hx
    refine ⟨fun i j x y hi hj hxy => ?_, fun k9 x hx => ?_⟩
    · by_cases h1 : i < W1.length <;> by_cases h2 : j < W1.length
      · rw [List.getElem?_append_left h1] at hi
        rw [List.getElem?_append_left h2] at hj
        exact hD1.1 i j x y hi hj hxy
      · rw [List.getElem?_append_left h1] at hi
        rw [List.getElem?_append_right (by omega)] at hj
        have := hle _ _ hi
        have := hr _ _ hj
        omega
      · rw [List.getElem?_append_right (by omega)] at hi
        rw [List.getElem?_append_left h2] at hj
        have := hle _ _ hj
        have := hr _ _ hi
        omega
      · rw [List.getElem?_append_right (by omega)] at hi hj
        have := hr _ _ hi
        have := hr _ _ hj
        omega
    · by_cases h1 : k9 < W1.length
      · rw [List.getElem?_append_left h1] at hx
        exact hD1.2 k9 x hx
      · rw [List.getElem?_append_right (by omega)] at hx
        have := hr _ _ hx
        exact hA _ (by have := hS.1; omega)
  have hAr : ArrOfT s cA (.array ty) := fun N9 z9 => by
    obtain ⟨-, k9, hk9, cm9, hkk9⟩ := (hO 0 0 0).1
    exact ⟨(fun q hq => by cases hq), k9, hk9, cm9, hkk9⟩
  have hK2 : va_K D cl (tys ++ [(cA, .array ty)]) s := ⟨hK.1, fun k9 x hx => by
    by_cases hl : k9 < tys.length
    · rw [List.getElem?_append_left hl] at hx
      exact hK.2 k9 x hx
    · rw [List.getElem?_append_right (by omega)] at hx
      have h0 : k9 - tys.length < 1 := (List.getElem?_eq_some_iff.mp hx).1
      rw [show k9 - tys.length = 0 by omega] at hx
      cases hx
      exact ⟨hAr, fA⟩⟩
  obtain ⟨t, a1, b1⟩ := kk H.size (fun i => H.size + 1 + i) cA F.heap (fun i j _ _ h => by have h9 : H.size + 1 + i = H.size + 1 + j := h; omega) hnl hK2 (by rw [← vr_rows hnm]; exact vr_lay hP2) (by rw [← vr_rows hnm]; exact vr_layD hD2) ⟨by rw [f1]; have := hS.1; omega, fun x h1 h2 => (hold x (Nat.lt_of_lt_of_le h1 hS.1)).trans (hS.2.1 x h1 h2), hS.2.2⟩ F rfl X'
  refine ⟨t, step t ?_, b1⟩
  have e : T.heap.size = H.size := by rw [hT]
  rw [e]
  exact a1
end VGM
/-! ===== END ===== -/

/-! ===== BEGIN printed: names, fields, word lists, decode rows ===== -/
def RX0 : String := "PullAndPush$Solver"
def TX0 : u_T := fun k => match k with
  | 0 => ("PullAndPush$Solver", "lower", "J", false)
  | 1 => ("PullAndPush$Solver", "places", "[J", true)
  | 2 => ("PullAndPush$Solver", "rows", "I", false)
  | 3 => ("PullAndPush$Solver", "columns", "I", false)
  | 4 => ("PullAndPush$Solver", "rowLine", "[I", true)
  | 5 => ("PullAndPush$Solver", "rowSide", "[I", true)
  | 6 => ("PullAndPush$Solver", "columnLine", "[I", true)
  | 7 => ("PullAndPush$Solver", "rest", "[J", true)
  | 8 => ("PullAndPush$Solver", "cell", "[[J", true)
  | 9 => ("PullAndPush$Solver", "stayOf", "[I", true)
  | 10 => ("PullAndPush$Solver", "level", "[I", true)
  | 11 => ("PullAndPush$Solver", "above", "[I", true)
  | 12 => ("PullAndPush$Solver", "below", "[I", true)
  | 13 => ("PullAndPush$Solver", "growth", "[J", true)
  | 14 => ("PullAndPush$Solver", "enteringColumn", "I", false)
  | _ => ("PullAndPush$Solver", "enteringWay", "I", false)
def tyX0 : Nat → FieldType := fun k => match k with
  | 0 => .long
  | 1 => .array .long
  | 2 => .int
  | 3 => .int
  | 4 => .array .int
  | 5 => .array .int
  | 6 => .array .int
  | 7 => .array .long
  | 8 => .array (.array .long)
  | 9 => .array .int
  | 10 => .array .int
  | 11 => .array .int
  | 12 => .array .int
  | 13 => .array .long
  | 14 => .int
  | _ => .int
abbrev wsX00 : List Cond := u_ws RX0 TX0 16
theorem nmX0 : ∀ a, a < 16 → ∀ b, b < 16 → a ≠ b → (TX0 a).2.1 ≠ (TX0 b).2.1 := by decide +kernel
theorem tyX0_ok : ∀ k, k < 16 → parseFieldDescriptor (TX0 k).2.2.1 = some (tyX0 k) := by decide +kernel
abbrev cX0_init : ByteArray := prog_2_method_1_code
def yX0_init : MethodName := ⟨RX0, "<init>", "()V"⟩
abbrev cX0_load : ByteArray := prog_2_method_2_code
def yX0_load : MethodName := ⟨RX0, "load", "([LPullAndPush$Wish;I[II)V"⟩
abbrev cX0_addRow : ByteArray := prog_2_method_3_code
def yX0_addRow : MethodName := ⟨RX0, "addRow", "(ILPullAndPush$Wish;)V"⟩
abbrev cX0_copy : ByteArray := prog_2_method_4_code
def yX0_copy : MethodName := ⟨RX0, "copy", "(LPullAndPush$Solver;)V"⟩
abbrev cX0_drop : ByteArray := prog_2_method_5_code
def yX0_drop : MethodName := ⟨RX0, "drop", "(I)V"⟩
abbrev cX0_areMustsMet : ByteArray := prog_2_method_6_code
def yX0_areMustsMet : MethodName := ⟨RX0, "areMustsMet", "()Z"⟩
abbrev cX0_solve : ByteArray := prog_2_method_7_code
def yX0_solve : MethodName := ⟨RX0, "solve", "()V"⟩
abbrev cX0_missOf : ByteArray := prog_2_method_8_code
def yX0_missOf : MethodName := ⟨RX0, "missOf", "(LPullAndPush$Wish;)J"⟩
abbrev cX0_lessenCost : ByteArray := prog_2_method_9_code
def yX0_lessenCost : MethodName := ⟨RX0, "lessenCost", "(I)V"⟩
abbrev cX0_findGrowth : ByteArray := prog_2_method_10_code
def yX0_findGrowth : MethodName := ⟨RX0, "findGrowth", "(I)V"⟩
abbrev cX0_slopeOf : ByteArray := prog_2_method_11_code
def yX0_slopeOf : MethodName := ⟨RX0, "slopeOf", "(I)J"⟩
abbrev cX0_findEntering : ByteArray := prog_2_method_12_code
def yX0_findEntering : MethodName := ⟨RX0, "findEntering", "(I)Z"⟩
abbrev cX0_lessens : ByteArray := prog_2_method_13_code
def yX0_lessens : MethodName := ⟨RX0, "lessens", "(III)Z"⟩
abbrev cX0_findLeaving : ByteArray := prog_2_method_14_code
def yX0_findLeaving : MethodName := ⟨RX0, "findLeaving", "(I)I"⟩
abbrev cX0_firstAtZero : ByteArray := prog_2_method_15_code
def yX0_firstAtZero : MethodName := ⟨RX0, "firstAtZero", "()I"⟩
abbrev cX0_pass : ByteArray := prog_2_method_16_code
def yX0_pass : MethodName := ⟨RX0, "pass", "(I)V"⟩
abbrev cX0_swap : ByteArray := prog_2_method_17_code
def yX0_swap : MethodName := ⟨RX0, "swap", "(I)V"⟩
abbrev cX0_putIn : ByteArray := prog_2_method_18_code
def yX0_putIn : MethodName := ⟨RX0, "putIn", "(IIJJ)V"⟩
def RX1 : String := "PullAndPush$Wish"
def TX1 : u_T := fun k => match k with
  | 0 => ("PullAndPush$Wish", "there", "Z", false)
  | 1 => ("PullAndPush$Wish", "hidden", "Z", false)
  | 2 => ("PullAndPush$Wish", "relation", "I", false)
  | 3 => ("PullAndPush$Wish", "level", "I", false)
  | 4 => ("PullAndPush$Wish", "weight", "I", false)
  | 5 => ("PullAndPush$Wish", "number", "I", false)
  | _ => ("PullAndPush$Wish", "factors", "[I", true)
def tyX1 : Nat → FieldType := fun k => match k with
  | 0 => .boolean
  | 1 => .boolean
  | 2 => .int
  | 3 => .int
  | 4 => .int
  | 5 => .int
  | _ => .array .int
abbrev wsX10 : List Cond := u_ws RX1 TX1 7
theorem nmX1 : ∀ a, a < 7 → ∀ b, b < 7 → a ≠ b → (TX1 a).2.1 ≠ (TX1 b).2.1 := by decide +kernel
theorem tyX1_ok : ∀ k, k < 7 → parseFieldDescriptor (TX1 k).2.2.1 = some (tyX1 k) := by decide +kernel
abbrev cX1_init : ByteArray := prog_3_method_1_code
def yX1_init : MethodName := ⟨RX1, "<init>", "()V"⟩
abbrev cX1_become : ByteArray := prog_3_method_2_code
def yX1_become : MethodName := ⟨RX1, "become", "([IIIII)V"⟩
abbrev cX1_counts : ByteArray := prog_3_method_3_code
def yX1_counts : MethodName := ⟨RX1, "counts", "()Z"⟩
abbrev cX1_costAbove : ByteArray := prog_3_method_4_code
def yX1_costAbove : MethodName := ⟨RX1, "costAbove", "()I"⟩
abbrev cX1_costBelow : ByteArray := prog_3_method_5_code
def yX1_costBelow : MethodName := ⟨RX1, "costBelow", "()I"⟩
def RX2 : String := "PullAndPush"
def TX2 : u_T := fun k => match k with
  | 0 => ("PullAndPush", "stays", "[I", true)
  | 1 => ("PullAndPush", "nextFactors", "[I", true)
  | 2 => ("PullAndPush", "sideFactors", "[I", true)
  | 3 => ("PullAndPush", "pixels", "[J", true)
  | 4 => ("PullAndPush", "wishes", "[LPullAndPush$Wish;", true)
  | 5 => ("PullAndPush", "edges", "I", false)
  | 6 => ("PullAndPush", "latestQuarrel", "I", false)
  | 7 => ("PullAndPush", "setting", "LPullAndPush$Solver;", false)
  | 8 => ("PullAndPush", "trial", "LPullAndPush$Solver;", false)
  | _ => ("PullAndPush", "isSet", "Z", false)
def tyX2 : Nat → FieldType := fun k => match k with
  | 0 => .array .int
  | 1 => .array .int
  | 2 => .array .int
  | 3 => .array .long
  | 4 => .array (.object "PullAndPush$Wish")
  | 5 => .int
  | 6 => .int
  | 7 => .object "PullAndPush$Solver"
  | 8 => .object "PullAndPush$Solver"
  | _ => .boolean
abbrev wsX20 : List Cond := u_ws RX2 TX2 10
theorem nmX2 : ∀ a, a < 10 → ∀ b, b < 10 → a ≠ b → (TX2 a).2.1 ≠ (TX2 b).2.1 := by decide +kernel
theorem tyX2_ok : ∀ k, k < 10 → parseFieldDescriptor (TX2 k).2.2.1 = some (tyX2 k) := by decide +kernel
abbrev cX2_init : ByteArray := prog_1_method_1_code
def yX2_init : MethodName := ⟨RX2, "<init>", "()V"⟩
abbrev cX2_edge : ByteArray := prog_1_method_2_code
def yX2_edge : MethodName := ⟨RX2, "edge", "(I)I"⟩
abbrev cX2_factor : ByteArray := prog_1_method_3_code
def yX2_factor : MethodName := ⟨RX2, "factor", "(II)I"⟩
abbrev cX2_wish : ByteArray := prog_1_method_4_code
def yX2_wish : MethodName := ⟨RX2, "wish", "(IIII)I"⟩
abbrev cX2_side : ByteArray := prog_1_method_5_code
def yX2_side : MethodName := ⟨RX2, "side", "(IIIIII)I"⟩
abbrev cX2_take : ByteArray := prog_1_method_6_code
def yX2_take : MethodName := ⟨RX2, "take", "(I)I"⟩
abbrev cX2_hide : ByteArray := prog_1_method_7_code
def yX2_hide : MethodName := ⟨RX2, "hide", "(IZ)I"⟩
abbrev cX2_drag : ByteArray := prog_1_method_8_code
def yX2_drag : MethodName := ⟨RX2, "drag", "(II)I"⟩
abbrev cX2_strength : ByteArray := prog_1_method_9_code
def yX2_strength : MethodName := ⟨RX2, "strength", "(III)I"⟩
abbrev cX2_told : ByteArray := prog_1_method_10_code
def yX2_told : MethodName := ⟨RX2, "told", "(II)I"⟩
abbrev cX2_count : ByteArray := prog_1_method_11_code
def yX2_count : MethodName := ⟨RX2, "count", "(I)I"⟩
abbrev cX2_quarrel : ByteArray := prog_1_method_12_code
def yX2_quarrel : MethodName := ⟨RX2, "quarrel", "()I"⟩
abbrev cX2_at : ByteArray := prog_1_method_13_code
def yX2_at : MethodName := ⟨RX2, "at", "(II)I"⟩
abbrev cX2_pixel : ByteArray := prog_1_method_14_code
def yX2_pixel : MethodName := ⟨RX2, "pixel", "(I)I"⟩
abbrev cX2_off : ByteArray := prog_1_method_15_code
def yX2_off : MethodName := ⟨RX2, "off", "(II)J"⟩
abbrev cX2_cost : ByteArray := prog_1_method_16_code
def yX2_cost : MethodName := ⟨RX2, "cost", "(II)J"⟩
abbrev cX2_why : ByteArray := prog_1_method_17_code
def yX2_why : MethodName := ⟨RX2, "why", "(I)I"⟩
abbrev cX2_stay : ByteArray := prog_1_method_18_code
def yX2_stay : MethodName := ⟨RX2, "stay", "(I)I"⟩
abbrev cX2_move : ByteArray := prog_1_method_19_code
def yX2_move : MethodName := ⟨RX2, "move", "(II)I"⟩
abbrev cX2_settle : ByteArray := prog_1_method_20_code
def yX2_settle : MethodName := ⟨RX2, "settle", "()I"⟩
abbrev cX2_isWithin : ByteArray := prog_1_method_21_code
def yX2_isWithin : MethodName := ⟨RX2, "isWithin", "(II)Z"⟩
abbrev cX2_isStrength : ByteArray := prog_1_method_22_code
def yX2_isStrength : MethodName := ⟨RX2, "isStrength", "(II)Z"⟩
abbrev cX2_isPart : ByteArray := prog_1_method_23_code
def yX2_isPart : MethodName := ⟨RX2, "isPart", "(I)Z"⟩
abbrev cX2_isEdge : ByteArray := prog_1_method_24_code
def yX2_isEdge : MethodName := ⟨RX2, "isEdge", "(I)Z"⟩
abbrev cX2_isWish : ByteArray := prog_1_method_25_code
def yX2_isWish : MethodName := ⟨RX2, "isWish", "(I)Z"⟩
abbrev cX2_areAllZero : ByteArray := prog_1_method_26_code
def yX2_areAllZero : MethodName := ⟨RX2, "areAllZero", "([II)Z"⟩
abbrev cX2_addWish : ByteArray := prog_1_method_27_code
def yX2_addWish : MethodName := ⟨RX2, "addWish", "([IIIII)I"⟩
abbrev cX2_freeWish : ByteArray := prog_1_method_28_code
def yX2_freeWish : MethodName := ⟨RX2, "freeWish", "()I"⟩
abbrev cX2_countWishes : ByteArray := prog_1_method_29_code
def yX2_countWishes : MethodName := ⟨RX2, "countWishes", "()I"⟩
abbrev cX2_countUnmet : ByteArray := prog_1_method_30_code
def yX2_countUnmet : MethodName := ⟨RX2, "countUnmet", "()I"⟩
abbrev cX2_countingWishes : ByteArray := prog_1_method_31_code
def yX2_countingWishes : MethodName := ⟨RX2, "countingWishes", "(I)I"⟩
abbrev cX2_findSetting : ByteArray := prog_1_method_32_code
def yX2_findSetting : MethodName := ⟨RX2, "findSetting", "()V"⟩
abbrev cX2_clashes : ByteArray := prog_1_method_33_code
def yX2_clashes : MethodName := ⟨RX2, "clashes", "(LPullAndPush$Wish;)Z"⟩
abbrev cX2_leastQuarrel : ByteArray := prog_1_method_34_code
def yX2_leastQuarrel : MethodName := ⟨RX2, "leastQuarrel", "()I"⟩
abbrev cX2_isNearerWithout : ByteArray := prog_1_method_35_code
def yX2_isNearerWithout : MethodName := ⟨RX2, "isNearerWithout", "(LPullAndPush$Wish;I)Z"⟩
abbrev cX2_pixelOf : ByteArray := prog_1_method_36_code
def yX2_pixelOf : MethodName := ⟨RX2, "pixelOf", "(I)J"⟩
abbrev cX2_inLeastTerms : ByteArray := prog_1_method_37_code
def yX2_inLeastTerms : MethodName := ⟨RX2, "inLeastTerms", "(JJI)J"⟩
abbrev cX2_greatestDivisor : ByteArray := prog_1_method_38_code
def yX2_greatestDivisor : MethodName := ⟨RX2, "greatestDivisor", "(JJ)J"⟩
def RX3 : String := "PullAndPushModel"
def TX3 : u_T := fun k => match k with
  | 0 => ("PullAndPushModel", "edges", "I", false)
  | 1 => ("PullAndPushModel", "stays", "[I", true)
  | 2 => ("PullAndPushModel", "factors", "[I", true)
  | 3 => ("PullAndPushModel", "isThere", "[Z", true)
  | 4 => ("PullAndPushModel", "relation", "[I", true)
  | 5 => ("PullAndPushModel", "level", "[I", true)
  | 6 => ("PullAndPushModel", "weight", "[I", true)
  | 7 => ("PullAndPushModel", "number", "[I", true)
  | 8 => ("PullAndPushModel", "isHidden", "[Z", true)
  | 9 => ("PullAndPushModel", "factorOf", "[I", true)
  | 10 => ("PullAndPushModel", "wishes", "I", false)
  | 11 => ("PullAndPushModel", "quarrel", "I", false)
  | 12 => ("PullAndPushModel", "rows", "[J", true)
  | 13 => ("PullAndPushModel", "point", "[J", true)
  | 14 => ("PullAndPushModel", "under", "J", false)
  | 15 => ("PullAndPushModel", "best", "[J", true)
  | 16 => ("PullAndPushModel", "bestUnder", "J", false)
  | 17 => ("PullAndPushModel", "costs", "[J", true)
  | 18 => ("PullAndPushModel", "bestCosts", "[J", true)
  | 19 => ("PullAndPushModel", "live", "I", false)
  | _ => ("PullAndPushModel", "sums", "[I", true)
def tyX3 : Nat → FieldType := fun k => match k with
  | 0 => .int
  | 1 => .array .int
  | 2 => .array .int
  | 3 => .array .boolean
  | 4 => .array .int
  | 5 => .array .int
  | 6 => .array .int
  | 7 => .array .int
  | 8 => .array .boolean
  | 9 => .array .int
  | 10 => .int
  | 11 => .int
  | 12 => .array .long
  | 13 => .array .long
  | 14 => .long
  | 15 => .array .long
  | 16 => .long
  | 17 => .array .long
  | 18 => .array .long
  | 19 => .int
  | _ => .array .int
abbrev wsX30 : List Cond := u_ws RX3 TX3 21
theorem nmX3 : ∀ a, a < 21 → ∀ b, b < 21 → a ≠ b → (TX3 a).2.1 ≠ (TX3 b).2.1 := by decide +kernel
theorem tyX3_ok : ∀ k, k < 21 → parseFieldDescriptor (TX3 k).2.2.1 = some (tyX3 k) := by decide +kernel
abbrev cX3_init : ByteArray := prog_5_method_1_code
def yX3_init : MethodName := ⟨RX3, "<init>", "()V"⟩
abbrev cX3_in : ByteArray := prog_5_method_3_code
def yX3_in : MethodName := ⟨RX3, "in", "(JJJ)Z"⟩
abbrev cX3_size : ByteArray := prog_5_method_4_code
def yX3_size : MethodName := ⟨RX3, "size", "(J)J"⟩
abbrev cX3_divisor : ByteArray := prog_5_method_5_code
def yX3_divisor : MethodName := ⟨RX3, "divisor", "(JJ)J"⟩
abbrev cX3_putRow : ByteArray := prog_5_method_6_code
def yX3_putRow : MethodName := ⟨RX3, "putRow", "(II)V"⟩
abbrev cX3_swapRows : ByteArray := prog_5_method_7_code
def yX3_swapRows : MethodName := ⟨RX3, "swapRows", "(II)V"⟩
abbrev cX3_meet : ByteArray := prog_5_method_8_code
def yX3_meet : MethodName := ⟨RX3, "meet", "()Z"⟩
abbrev cX3_offBy : ByteArray := prog_5_method_9_code
def yX3_offBy : MethodName := ⟨RX3, "offBy", "(I[JJ)J"⟩
abbrev cX3_isLive : ByteArray := prog_5_method_10_code
def yX3_isLive : MethodName := ⟨RX3, "isLive", "(I)Z"⟩
abbrev cX3_weigh : ByteArray := prog_5_method_11_code
def yX3_weigh : MethodName := ⟨RX3, "weigh", "()Z"⟩
abbrev cX3_isLess : ByteArray := prog_5_method_12_code
def yX3_isLess : MethodName := ⟨RX3, "isLess", "()Z"⟩
abbrev cX3_solve : ByteArray := prog_5_method_13_code
def yX3_solve : MethodName := ⟨RX3, "solve", "()Z"⟩
abbrev cX3_allLive : ByteArray := prog_5_method_14_code
def yX3_allLive : MethodName := ⟨RX3, "allLive", "()I"⟩
abbrev cX3_set : ByteArray := prog_5_method_15_code
def yX3_set : MethodName := ⟨RX3, "set", "()V"⟩
abbrev cX3_clashes : ByteArray := prog_5_method_16_code
def yX3_clashes : MethodName := ⟨RX3, "clashes", "()Z"⟩
abbrev cX3_noEdge : ByteArray := prog_5_method_17_code
def yX3_noEdge : MethodName := ⟨RX3, "noEdge", "(I)Z"⟩
abbrev cX3_noWish : ByteArray := prog_5_method_18_code
def yX3_noWish : MethodName := ⟨RX3, "noWish", "(I)Z"⟩
abbrev cX3_edge : ByteArray := prog_5_method_19_code
def yX3_edge : MethodName := ⟨RX3, "edge", "(I)I"⟩
abbrev cX3_factor : ByteArray := prog_5_method_20_code
def yX3_factor : MethodName := ⟨RX3, "factor", "(II)I"⟩
abbrev cX3_add : ByteArray := prog_5_method_21_code
def yX3_add : MethodName := ⟨RX3, "add", "(IIII)I"⟩
abbrev cX3_isStrength : ByteArray := prog_5_method_22_code
def yX3_isStrength : MethodName := ⟨RX3, "isStrength", "(II)Z"⟩
abbrev cX3_wish : ByteArray := prog_5_method_23_code
def yX3_wish : MethodName := ⟨RX3, "wish", "(IIII)I"⟩
abbrev cX3_side : ByteArray := prog_5_method_24_code
def yX3_side : MethodName := ⟨RX3, "side", "(IIIIII)I"⟩
abbrev cX3_take : ByteArray := prog_5_method_25_code
def yX3_take : MethodName := ⟨RX3, "take", "(I)I"⟩
abbrev cX3_hide : ByteArray := prog_5_method_26_code
def yX3_hide : MethodName := ⟨RX3, "hide", "(IZ)I"⟩
abbrev cX3_drag : ByteArray := prog_5_method_27_code
def yX3_drag : MethodName := ⟨RX3, "drag", "(II)I"⟩
abbrev cX3_strength : ByteArray := prog_5_method_28_code
def yX3_strength : MethodName := ⟨RX3, "strength", "(III)I"⟩
abbrev cX3_told : ByteArray := prog_5_method_29_code
def yX3_told : MethodName := ⟨RX3, "told", "(II)I"⟩
abbrev cX3_count : ByteArray := prog_5_method_30_code
def yX3_count : MethodName := ⟨RX3, "count", "(I)I"⟩
abbrev cX3_quarrel : ByteArray := prog_5_method_31_code
def yX3_quarrel : MethodName := ⟨RX3, "quarrel", "()I"⟩
abbrev cX3_at : ByteArray := prog_5_method_32_code
def yX3_at : MethodName := ⟨RX3, "at", "(II)I"⟩
abbrev cX3_floor : ByteArray := prog_5_method_33_code
def yX3_floor : MethodName := ⟨RX3, "floor", "(JJ)J"⟩
abbrev cX3_pixelOf : ByteArray := prog_5_method_34_code
def yX3_pixelOf : MethodName := ⟨RX3, "pixelOf", "(I)J"⟩
abbrev cX3_pixel : ByteArray := prog_5_method_35_code
def yX3_pixel : MethodName := ⟨RX3, "pixel", "(I)I"⟩
abbrev cX3_off : ByteArray := prog_5_method_36_code
def yX3_off : MethodName := ⟨RX3, "off", "(II)J"⟩
abbrev cX3_cost : ByteArray := prog_5_method_37_code
def yX3_cost : MethodName := ⟨RX3, "cost", "(II)J"⟩
abbrev cX3_why : ByteArray := prog_5_method_38_code
def yX3_why : MethodName := ⟨RX3, "why", "(I)I"⟩
abbrev cX3_stay : ByteArray := prog_5_method_39_code
def yX3_stay : MethodName := ⟨RX3, "stay", "(I)I"⟩
abbrev cX3_move : ByteArray := prog_5_method_40_code
def yX3_move : MethodName := ⟨RX3, "move", "(II)I"⟩
abbrev cX3_settle : ByteArray := prog_5_method_41_code
def yX3_settle : MethodName := ⟨RX3, "settle", "()I"⟩
def RJ6 : String := "java/lang/Integer"
def TJ6 : u_T := fun k => match k with
  | _ => ("", "", "", false)
def tyJ6 : Nat → FieldType := fun k => match k with
  | _ => .int
abbrev wsJ60 : List Cond := u_ws RJ6 TJ6 0
theorem nmJ6 : ∀ a, a < 0 → ∀ b, b < 0 → a ≠ b → (TJ6 a).2.1 ≠ (TJ6 b).2.1 := by decide +kernel
theorem tyJ6_ok : ∀ k, k < 0 → parseFieldDescriptor (TJ6 k).2.2.1 = some (tyJ6 k) := by decide +kernel
abbrev cJ6_bitCount_0f7a4 : ByteArray := prog_6_method_49_code
def yJ6_bitCount_0f7a4 : MethodName := ⟨RJ6, "bitCount", "(I)I"⟩
def RJ9 : String := "java/lang/Math"
def TJ9 : u_T := fun k => match k with
  | _ => ("", "", "", false)
def tyJ9 : Nat → FieldType := fun k => match k with
  | _ => .int
abbrev wsJ90 : List Cond := u_ws RJ9 TJ9 0
theorem nmJ9 : ∀ a, a < 0 → ∀ b, b < 0 → a ≠ b → (TJ9 a).2.1 ≠ (TJ9 b).2.1 := by decide +kernel
theorem tyJ9_ok : ∀ k, k < 0 → parseFieldDescriptor (TJ9 k).2.2.1 = some (tyJ9 k) := by decide +kernel
abbrev cJ9_floorDiv_f86c9 : ByteArray := prog_7_method_49_code
def yJ9_floorDiv_f86c9 : MethodName := ⟨RJ9, "floorDiv", "(JJ)J"⟩
abbrev cJ9_abs_067f4 : ByteArray := prog_7_method_61_code
def yJ9_abs_067f4 : MethodName := ⟨RJ9, "abs", "(J)J"⟩
abbrev cJ9_max_f86c9 : ByteArray := prog_7_method_66_code
def yJ9_max_f86c9 : MethodName := ⟨RJ9, "max", "(JJ)J"⟩
abbrev cJ9_min_7cf53 : ByteArray := prog_7_method_69_code
def yJ9_min_7cf53 : MethodName := ⟨RJ9, "min", "(II)I"⟩
def RJ10 : String := "java/lang/System"
def TJ10 : u_T := fun k => match k with
  | _ => ("", "", "", false)
def tyJ10 : Nat → FieldType := fun k => match k with
  | _ => .int
abbrev wsJ100 : List Cond := u_ws RJ10 TJ10 0
theorem nmJ10 : ∀ a, a < 0 → ∀ b, b < 0 → a ≠ b → (TJ10 a).2.1 ≠ (TJ10 b).2.1 := by decide +kernel
theorem tyJ10_ok : ∀ k, k < 0 → parseFieldDescriptor (TJ10 k).2.2.1 = some (tyJ10 k) := by decide +kernel
def RJ7 : String := "java/util/Arrays"
def TJ7 : u_T := fun k => match k with
  | _ => ("", "", "", false)
def tyJ7 : Nat → FieldType := fun k => match k with
  | _ => .int
abbrev wsJ70 : List Cond := u_ws RJ7 TJ7 0
theorem nmJ7 : ∀ a, a < 0 → ∀ b, b < 0 → a ≠ b → (TJ7 a).2.1 ≠ (TJ7 b).2.1 := by decide +kernel
theorem tyJ7_ok : ∀ k, k < 0 → parseFieldDescriptor (TJ7 k).2.2.1 = some (tyJ7 k) := by decide +kernel
abbrev cJ7_fill_d0a16 : ByteArray := prog_9_method_101_code
def yJ7_fill_d0a16 : MethodName := ⟨RJ7, "fill", "([JJ)V"⟩
abbrev cJ7_fill_53178 : ByteArray := prog_9_method_103_code
def yJ7_fill_53178 : MethodName := ⟨RJ7, "fill", "([II)V"⟩
def RL : String := "PullAndPushLaw"
abbrev cL_law : ByteArray := code
def yL_law : MethodName := ⟨RL, "law", "([I)Z"⟩
theorem inX0 : ∀ w ∈ wsX00, w ∈ lw_tbl := by decide +kernel
theorem inX1 : ∀ w ∈ wsX10, w ∈ lw_tbl := by decide +kernel
theorem inX2 : ∀ w ∈ wsX20, w ∈ lw_tbl := by decide +kernel
theorem inX3 : ∀ w ∈ wsX30, w ∈ lw_tbl := by decide +kernel
theorem inJ6 : ∀ w ∈ wsJ60, w ∈ lw_tbl := by decide +kernel
theorem inJ9 : ∀ w ∈ wsJ90, w ∈ lw_tbl := by decide +kernel
theorem inJ10 : ∀ w ∈ wsJ100, w ∈ lw_tbl := by decide +kernel
theorem inJ7 : ∀ w ∈ wsJ70, w ∈ lw_tbl := by decide +kernel
abbrev vwCl : List vw_C := [(RX0, TX0, 16), (RX1, TX1, 7), (RX2, TX2, 10), (RX3, TX3, 21)]
