/-! numbers -/
def okI (x : Int) : Prop := -2147483648 ≤ x ∧ x < 2147483648
def okJ (x : Int) : Prop := -9223372036854775808 ≤ x ∧ x < 9223372036854775808
theorem w32_ok (x : Int) : okI (w32 x) := by
  unfold w32 okI
  have h1 := Int.le_bmod (x := x) (m := 4294967296) (by decide)
  have h2 := Int.bmod_lt (x := x) (m := 4294967296) (by decide)
  omega
theorem w64_ok (x : Int) : okJ (w64 x) := by
  unfold w64 okJ
  have h1 := Int.le_bmod (x := x) (m := 18446744073709551616) (by decide)
  have h2 := Int.bmod_lt (x := x) (m := 18446744073709551616) (by decide)
  omega
theorem w32_eq {x : Int} (h : okI x) : w32 x = x := by
  unfold okI at h
  unfold w32
  exact Int.bmod_eq_of_le (by omega) (by omega)
theorem w64_eq {x : Int} (h : okJ x) : w64 x = x := by
  unfold okJ at h
  unfold w64
  exact Int.bmod_eq_of_le (by omega) (by omega)
theorem tI {x : Int} (h : okI x) : (Int32.ofInt x).toInt = x := by
  rw [Int32.toInt_ofInt]; exact w32_eq h
theorem tJ {x : Int} (h : okJ x) : (Int64.ofInt x).toInt = x := by
  rw [Int64.toInt_ofInt]; exact w64_eq h
theorem okI_toInt (z : Int32) : okI z.toInt := by
  have h1 := z.toInt_lt; have h2 := z.le_toInt; unfold okI; omega
theorem okJ_toInt (z : Int64) : okJ z.toInt := by
  have h1 := z.toInt_lt; have h2 := z.le_toInt; unfold okJ; omega
theorem oI (z : Int32) : Int32.ofInt z.toInt = z := Int32.toInt_inj.mp (tI (okI_toInt z))
theorem oJ (z : Int64) : Int64.ofInt z.toInt = z := Int64.toInt_inj.mp (tJ (okJ_toInt z))
theorem okI_J {x : Int} (h : okI x) : okJ x := by unfold okI at h; unfold okJ; omega
theorem i_add {x y : Int} (hx : okI x) (hy : okI y) : Int32.ofInt x + Int32.ofInt y = Int32.ofInt (w32 (x + y)) := by
  apply Int32.toInt_inj.mp; rw [tI (w32_ok _), Int32.toInt_add, tI hx, tI hy]; rfl
theorem i_sub {x y : Int} (hx : okI x) (hy : okI y) : Int32.ofInt x - Int32.ofInt y = Int32.ofInt (w32 (x - y)) := by
  apply Int32.toInt_inj.mp; rw [tI (w32_ok _), Int32.toInt_sub, tI hx, tI hy]; rfl
theorem i_mul {x y : Int} (hx : okI x) (hy : okI y) : Int32.ofInt x * Int32.ofInt y = Int32.ofInt (w32 (x * y)) := by
  apply Int32.toInt_inj.mp; rw [tI (w32_ok _), Int32.toInt_mul, tI hx, tI hy]; rfl
theorem i_neg {x : Int} (hx : okI x) : -Int32.ofInt x = Int32.ofInt (w32 (-x)) := by
  apply Int32.toInt_inj.mp; rw [tI (w32_ok _), Int32.toInt_neg, tI hx]; rfl
theorem j_add {x y : Int} (hx : okJ x) (hy : okJ y) : Int64.ofInt x + Int64.ofInt y = Int64.ofInt (w64 (x + y)) := by
  apply Int64.toInt_inj.mp; rw [tJ (w64_ok _), Int64.toInt_add, tJ hx, tJ hy]; rfl
theorem j_sub {x y : Int} (hx : okJ x) (hy : okJ y) : Int64.ofInt x - Int64.ofInt y = Int64.ofInt (w64 (x - y)) := by
  apply Int64.toInt_inj.mp; rw [tJ (w64_ok _), Int64.toInt_sub, tJ hx, tJ hy]; rfl
theorem j_mul {x y : Int} (hx : okJ x) (hy : okJ y) : Int64.ofInt x * Int64.ofInt y = Int64.ofInt (w64 (x * y)) := by
  apply Int64.toInt_inj.mp; rw [tJ (w64_ok _), Int64.toInt_mul, tJ hx, tJ hy]; rfl
theorem j_neg {x : Int} (hx : okJ x) : -Int64.ofInt x = Int64.ofInt (w64 (-x)) := by
  apply Int64.toInt_inj.mp; rw [tJ (w64_ok _), Int64.toInt_neg, tJ hx]; rfl
theorem j_div {x y : Int} (hx : okJ x) (hy : okJ y) : Int64.ofInt x / Int64.ofInt y = Int64.ofInt (w64 (x.tdiv y)) := by
  apply Int64.toInt_inj.mp; rw [tJ (w64_ok _), Int64.toInt_div, tJ hx, tJ hy]; rfl
theorem tmod_ok {x y : Int} (hx : okJ x) : okJ (x.tmod y) := by
  unfold okJ at *
  have h1 : (x.tmod y).natAbs ≤ x.natAbs := by
    rw [Int.natAbs_tmod]; exact Nat.mod_le _ _
  have h2 : 0 ≤ x → 0 ≤ x.tmod y := fun h => Int.tmod_nonneg _ h
  have h3 : x ≤ 0 → x.tmod y ≤ 0 := fun h => by
    have := Int.tmod_nonneg (a := -x) y (by omega)
    rw [Int.neg_tmod] at this
    omega
  omega
theorem j_rem {x y : Int} (hx : okJ x) (hy : okJ y) : Int64.ofInt x - Int64.ofInt x / Int64.ofInt y * Int64.ofInt y = Int64.ofInt (x.tmod y) := by
  rw [j_div hx hy, j_mul (w64_ok _) hy, j_sub hx (w64_ok _)]
  congr 1
  have h : x - x.tdiv y * y = x.tmod y := by
    have := Int.tmod_def x y
    rw [this, Int.mul_comm]
  have h2 : w64 (x - w64 (w64 (x.tdiv y) * y)) = w64 (x - x.tdiv y * y) := by
    unfold w64
    simp
  rw [h2, h, w64_eq (tmod_ok hx)]
theorem j_xor {x y : Int} : Int64.ofInt x ^^^ Int64.ofInt y = Int64.ofInt (Int64.ofInt x ^^^ Int64.ofInt y).toInt := (oJ _).symm
theorem i_l {x : Int} (hx : okI x) : (Int32.ofInt x).toInt64 = Int64.ofInt x := by
  apply Int64.toInt_inj.mp; rw [Int32.toInt_toInt64, tI hx, tJ (okI_J hx)]
theorem l_i {x : Int} (hx : okJ x) : (Int64.ofInt x).toInt32 = Int32.ofInt (w32 x) := by
  apply Int32.toInt_inj.mp; rw [Int64.toInt_toInt32, tJ hx, tI (w32_ok _)]; rfl
theorem i_eq {x y : Int} (hx : okI x) (hy : okI y) : Int32.ofInt x = Int32.ofInt y ↔ x = y := by rw [← Int32.toInt_inj, tI hx, tI hy]
theorem i_lt {x y : Int} (hx : okI x) (hy : okI y) : Int32.ofInt x < Int32.ofInt y ↔ x < y := by rw [Int32.lt_iff_toInt_lt, tI hx, tI hy]
theorem i_le {x y : Int} (hx : okI x) (hy : okI y) : Int32.ofInt x ≤ Int32.ofInt y ↔ x ≤ y := by rw [Int32.le_iff_toInt_le, tI hx, tI hy]
theorem j_eq {x y : Int} (hx : okJ x) (hy : okJ y) : Int64.ofInt x = Int64.ofInt y ↔ x = y := by rw [← Int64.toInt_inj, tJ hx, tJ hy]
theorem j_lt {x y : Int} (hx : okJ x) (hy : okJ y) : Int64.ofInt x < Int64.ofInt y ↔ x < y := by rw [Int64.lt_iff_toInt_lt, tJ hx, tJ hy]
theorem lcv_ok (x y : Int) : okI (lcv x y) := by
  unfold lcv okI
  by_cases h1 : y < x
  · rw [if_pos h1]; omega
  · rw [if_neg h1]
    by_cases h2 : x = y
    · rw [if_pos h2]; omega
    · rw [if_neg h2]; omega
theorem j_cmp {x y : Int} (hx : okJ x) (hy : okJ y) : lg_cmp (Int64.ofInt x) (Int64.ofInt y) = Int32.ofInt (lcv x y) := by
  unfold lg_cmp lcv
  by_cases h1 : y < x
  · rw [if_pos h1, if_pos ((j_lt hy hx).mpr h1)]; rfl
  · rw [if_neg h1, if_neg (fun h => h1 ((j_lt hy hx).mp h))]
    by_cases h2 : x = y
    · rw [if_pos h2, if_pos (by rw [h2])]; rfl
    · rw [if_neg h2, if_neg (fun h => h2 ((j_eq hx hy).mp h))]; rfl
theorem i_0 : Int32.ofInt 0 = 0 := rfl
theorem okI_0 : okI 0 := by unfold okI; omega
theorem okJ_0 : okJ 0 := by unfold okJ; omega
theorem i_cl {x : Int} (hx : okI x) : (Int32.ofInt x).toNatClampNeg = x.toNat := by
  unfold Int32.toNatClampNeg; rw [tI hx]
theorem i_in {x : Int} {n : Nat} (hx : okI x) (h0 : 0 ≤ x) (h1 : x < n) : vp_in (Int32.ofInt x) n := by
  rw [vp_in_iff, tI hx]; exact ⟨h0, h1⟩
/-! values, locals, the world -/
def mval (ad : Nat → Nat) : mV → Value
  | .inl x => .int (Int32.ofInt x)
  | .inr (.inl x) => .long (Int64.ofInt x)
  | .inr (.inr r) => va_rf (r.map ad)
def okv : mV → Prop
  | .inl x => okI x
  | .inr (.inl x) => okJ x
  | .inr (.inr _) => True
def isLg (p j : Nat) : Bool := match shk p with
  | (0, t, _) => Nat.beq t 1
  | (1, _, _) => false
  | (_, c, _) => Nat.beq (fCd c j) 1
def okh (iv : mIv) : Prop := ∀ p j, (isLg p j = true → okJ (iv p j)) ∧ (isLg p j = false → okI (iv p j))
def mfv (ad : Nat → Nat) (k : Nat) (iv : mIv) (rv : mRv) (p j : Nat) : Value := match k with
  | 1 => .long (Int64.ofInt (iv p j))
  | 3 => va_rf ((rv p j).map ad)
  | _ => .int (Int32.ofInt (iv p j))
def mce (ad : Nat → Nat) (cy : Nat → ClassId) (iv : mIv) (rv : mRv) (p : Nat) : va_E := match shk p with
  | (0, t, n) => if t = 1 then .inl (cy t, n, .inr (.inl (fun j => Int64.ofInt (iv p j)))) else .inl (cy t, n, .inl (fun j => Int32.ofInt (iv p j)))
  | (1, t, n) => .inl (cy t, n, .inr (.inr (.inr (.inr (fun j => (rv p j).map ad)))))
  | (_, c, n) => .inr (c, (List.range n).map (fun j => mfv ad (fCd c j) iv rv p j))
def mwl (ad : Nat → Nat) (cy : Nat → ClassId) (iv : mIv) (rv : mRv) : va_W := (List.range 82).map (fun p => (ad p, mce ad cy iv rv p))
def mA (ad : Nat → Nat) (q : Nat) : Prop := ∃ k, k < 82 ∧ ad k = q
def mty (cy : Nat → ClassId) : List (ClassId × FieldType) := [(cy 0, .int), (cy 1, .long), (cy 2, .boolean), (cy 3, .object RX1), (cy 4, .array .long)]
theorem mwl_get {ad : Nat → Nat} {cy : Nat → ClassId} {iv : mIv} {rv : mRv} {p : Nat} (h : p < 82) : (mwl ad cy iv rv)[p]? = some (ad p, mce ad cy iv rv p) := by
  unfold mwl
  rw [List.getElem?_map, List.getElem?_range h]; rfl
theorem mwl_set {ad : Nat → Nat} {cy : Nat → ClassId} {iv iv' : mIv} {rv rv' : mRv} {p : Nat} (h : p < 82) (hq : ∀ q, q ≠ p → mce ad cy iv' rv' q = mce ad cy iv rv q) : (mwl ad cy iv rv).set p (ad p, mce ad cy iv' rv' p) = mwl ad cy iv' rv' := by
  apply List.ext_getElem?
  intro k
  rw [List.getElem?_set]
  by_cases hk : p = k
  · subst hk
    have hl : p < (mwl ad cy iv rv).length := by unfold mwl; simp; exact h
    rw [if_pos rfl, if_pos hl, mwl_get h]
  · rw [if_neg hk]
    by_cases h82 : k < 82
    · rw [mwl_get h82, mwl_get h82, hq k (fun e => hk e.symm)]
    · rw [List.getElem?_eq_none (by unfold mwl; simp; omega), List.getElem?_eq_none (by unfold mwl; simp; omega)]
theorem mce_ne {ad : Nat → Nat} {cy : Nat → ClassId} {iv iv' : mIv} {rv rv' : mRv} {q : Nat} (h1 : ∀ j, iv' q j = iv q j) (h2 : ∀ j, rv' q j = rv q j) : mce ad cy iv' rv' q = mce ad cy iv rv q := by
  have e1 : iv' q = iv q := funext h1
  have e2 : rv' q = rv q := funext h2
  unfold mce mfv
  rw [e1, e2]
theorem st2_ne {α : Type} {f : Nat → Nat → α} {p k q j : Nat} {v : α} (h : q ≠ p) : st2 f p k v q j = f q j := by
  unfold st2; rw [if_neg (fun e => h e.1)]
theorem st2_nk {α : Type} {f : Nat → Nat → α} {p k q j : Nat} {v : α} (h : j ≠ k) : st2 f p k v q j = f q j := by
  unfold st2; rw [if_neg (fun e => h e.2)]
theorem st2_eq {α : Type} {f : Nat → Nat → α} {p k : Nat} {v : α} : st2 f p k v p k = v := by
  unfold st2; rw [if_pos ⟨rfl, rfl⟩]
theorem shk_lt {p : Nat} (h : shk p ≠ (0, 0, 0)) : p < 82 := by
  apply Classical.byContradiction
  intro hn
  apply h
  unfold shk
  rw [List.getD_eq_getElem?_getD, List.getElem?_eq_none]
  · rfl
  · have : SHs.length = 82 := by decide
    omega
theorem shk_n0 {p : Nat} (h : (shk p).2.2 ≠ 0) : p < 82 := shk_lt (fun e => h (by rw [e]))
theorem mget_lt {L : mL} : ∀ {k : Nat} {v : mV}, mget L k = some v → k < L.length := by
  induction L with
  | nil => intro k v h; cases h
  | cons x r ih =>
    intro k v h
    cases k with
    | zero => simp
    | succ k => have := ih (k := k) (v := v) h; simp; omega
theorem mget_set (L : mL) (i : Nat) (x : Option mV) : ∀ k : Nat, mget (L.set i x) k = if k = i ∧ i < L.length then x else mget L k := by
  induction L generalizing i with
  | nil => intro k; simp [mget]
  | cons y r ih =>
    intro k
    cases i with
    | zero => cases k <;> simp [mget, List.set]
    | succ i => cases k with
      | zero => simp [mget, List.set]
      | succ k => simp [mget, List.set, ih i k]
def lvl (ad : Nat → Nat) (L : mL) : List (Nat × Value) := (List.range L.length).filterMap (fun k => (mget L k).map (fun v => (k, mval ad v)))
theorem lvl_in {ad : Nat → Nat} {L : mL} {k : Nat} {v : mV} (h : mget L k = some v) : (k, mval ad v) ∈ lvl ad L := by
  unfold lvl
  rw [List.mem_filterMap]
  exact ⟨k, List.mem_range.mpr (mget_lt h), by rw [h]; rfl⟩
/-- the locals -/
def mLo (ad : Nat → Nat) (nL : Nat) (L : mL) (ls : Array Slot) : Prop := L.length = nL ∧ lv_has ls nL (lvl ad L) ∧ ∀ k v, mget L k = some v → okv v
theorem mLo.at {ad : Nat → Nat} {nL : Nat} {L : mL} {ls : Array Slot} (h : mLo ad nL L ls) {k : Nat} {v : mV} (hk : mget L k = some v) : ls[k]? = some (.val (mval ad v)) := h.2.1.2.2 _ (lvl_in hk)
theorem mLo.to {ad : Nat → Nat} {nL : Nat} {L : mL} {ls : Array Slot} {lv : List (Nat × Value)} (hl : L.length = nL) (h : lv_has ls nL lv) (hv : ∀ k v, mget L k = some v → (k, mval ad v) ∈ lv ∧ okv v) : mLo ad nL L ls := by
  refine ⟨hl, ⟨h.1, h.2.1, fun q hq => ?_⟩, fun k v hk => (hv k v hk).2⟩
  unfold lvl at hq
  obtain ⟨k, -, he⟩ := List.mem_filterMap.mp hq
  cases hg : mget L k with
  | none => rw [hg] at he; cases he
  | some v => rw [hg] at he; cases he; exact h.2.2 _ (hv k v hg).1
theorem mval_cat2 {ad : Nat → Nat} {v : mV} (h : (mval ad v).category = 2) : ∃ x, v = .inr (.inl x) := by
  rcases v with x | x | r
  · cases h
  · exact ⟨x, rfl⟩
  · cases r <;> cases h
theorem mkl_len (L : mL) (i : Nat) : (mkl L i).length = L.length := by
  unfold mkl
  cases i with
  | zero => rfl
  | succ j =>
    simp only
    split <;> simp
theorem mkl_get {L : mL} {i k : Nat} {v : mV} (h : mget (mkl L i) k = some v) : mget L k = some v ∧ ¬ (k + 1 = i ∧ ∃ x, v = .inr (.inl x)) := by
  unfold mkl at h
  cases i with
  | zero => exact ⟨h, fun e => by omega⟩
  | succ j =>
    simp only at h
    split at h
    · rename_i x hx
      rw [mget_set] at h
      split at h
      · cases h
      · rename_i hn
        refine ⟨h, fun e => hn ⟨by omega, mget_lt hx⟩⟩
    · rename_i hn
      refine ⟨h, fun e => ?_⟩
      obtain ⟨e1, x, e2⟩ := e
      have : k = j := by omega
      subst this
      rw [e2] at h
      exact hn x h
theorem mLo.set1 {ad : Nat → Nat} {nL : Nat} {L L' : mL} {ls ls' : Array Slot} {i : Nat} {v : mV} (h : mLo ad nL L ls) (hs : mset1 L i v = some L') (hv : okv v) (hn : lv_has ls' nL ((i, mval ad v) :: (lvl ad L).filter (fun q => !(q.1 == i) && !(q.1 + 1 == i && q.2.category == 2)))) : mLo ad nL L' ls' := by
  unfold mset1 at hs
  split at hs
  · cases hs
    refine mLo.to (by simp [mkl_len]; exact h.1) hn (fun k w hk => ?_)
    rw [mget_set] at hk
    split at hk
    · rename_i hc
      cases hk
      rw [hc.1]
      exact ⟨List.mem_cons_self, hv⟩
    · rename_i hc
      obtain ⟨g1, g2⟩ := mkl_get hk
      refine ⟨List.mem_cons_of_mem _ (List.mem_filter.mpr ⟨lvl_in g1, ?_⟩), h.2.2 k w g1⟩
      have hki : k ≠ i := fun e => hc ⟨e, by subst e; rw [mkl_len]; exact mget_lt g1⟩
      by_cases h2 : k + 1 = i
      · have hc2 : (mval ad w).category ≠ 2 := fun e => g2 ⟨h2, mval_cat2 e⟩
        simp [hki, h2, hc2]
      · simp [hki, h2]
  · cases hs
theorem mLo.set2 {ad : Nat → Nat} {nL : Nat} {L L' : mL} {ls ls' : Array Slot} {i : Nat} {v : mV} (h : mLo ad nL L ls) (hs : mset2 L i v = some L') (hv : okv v) (hn : lv_has ls' nL ((i, mval ad v) :: (lvl ad L).filter (fun q => !(q.1 == i) && (!(q.1 == i + 1) && !(q.1 + 1 == i && q.2.category == 2))))) : mLo ad nL L' ls' := by
  unfold mset2 at hs
  split at hs
  · cases hs
    refine mLo.to (by simp [mkl_len]; exact h.1) hn (fun k w hk => ?_)
    rw [mget_set] at hk
    split at hk
    · cases hk
    · rename_i hc0
      rw [mget_set] at hk
      split at hk
      · rename_i hc
        cases hk
        rw [hc.1]
        exact ⟨List.mem_cons_self, hv⟩
      · rename_i hc
        obtain ⟨g1, g2⟩ := mkl_get hk
        refine ⟨List.mem_cons_of_mem _ (List.mem_filter.mpr ⟨lvl_in g1, ?_⟩), h.2.2 k w g1⟩
        have hki : k ≠ i := fun e => hc ⟨e, by subst e; rw [mkl_len]; exact mget_lt g1⟩
        have hki1 : k ≠ i + 1 := fun e => hc0 ⟨e, by subst e; simp [mkl_len]; exact mget_lt g1⟩
        by_cases h2 : k + 1 = i
        · have hc2 : (mval ad w).category ≠ 2 := fun e => g2 ⟨h2, mval_cat2 e⟩
          simp [hki, hki1, h2, hc2]
        · simp [hki, hki1, h2]
  · cases hs
theorem mset1_lt {L L' : mL} {i : Nat} {v : mV} (hs : mset1 L i v = some L') : i < L.length := by
  unfold mset1 at hs
  split at hs
  · rename_i h; simpa using h
  · cases hs
theorem mset2_lt {L L' : mL} {i : Nat} {v : mV} (hs : mset2 L i v = some L') : i + 1 < L.length := by
  unfold mset2 at hs
  split at hs
  · rename_i h; simpa using h
  · cases hs
/-- what stays of a world, and what goes -/
def mWs (D : va_G) (ad : Nat → Nat) (cy : Nat → ClassId) (b Ls : Nat) (xs : Nat → Int32) (s : State) : Prop := va_K D vwCl (mty cy) s ∧ va_X b Ls xs s s.heap ∧ b < s.heap.size ∧ ¬ mA ad b ∧ ad 1000000 = b ∧ Ls ≤ 3584
def mWd (D : va_G) (ad : Nat → Nat) (cy : Nat → ClassId) (Ls : Nat) (xs : Nat → Int32) (H0 : Heap) (iv : mIv) (rv : mRv) (H : Heap) (locs : List Loc) : Prop := va_P D vwCl (mwl ad cy iv rv) H ∧ va_D (mA ad) (mwl ad cy iv rv) ∧ va_S (mA ad) H0 H locs ∧ okh iv ∧ (∀ j, iv 1000000 j = (xs j).toInt) ∧ iv 1000001 0 = (Ls : Int)
theorem mce_A {ad : Nat → Nat} {cy : Nat → ClassId} {iv : mIv} {rv : mRv} {p t : Nat} (h : isA p t) (ht : t ≠ 1) : mce ad cy iv rv p = .inl (cy t, (shk p).2.2, .inl (fun j => Int32.ofInt (iv p j))) := by
  obtain ⟨h1, h2⟩ := h
  unfold mce
  generalize shk p = sp at h1 h2
  obtain ⟨a, a2, a3⟩ := sp
  simp only at h1 h2
  subst h1; subst h2
  simp [ht]
theorem mce_J {ad : Nat → Nat} {cy : Nat → ClassId} {iv : mIv} {rv : mRv} {p : Nat} (h : isA p 1) : mce ad cy iv rv p = .inl (cy 1, (shk p).2.2, .inr (.inl (fun j => Int64.ofInt (iv p j)))) := by
  obtain ⟨h1, h2⟩ := h
  unfold mce
  generalize shk p = sp at h1 h2
  obtain ⟨a, a2, a3⟩ := sp
  simp only at h1 h2
  subst h1; subst h2
  simp
theorem mce_Q {ad : Nat → Nat} {cy : Nat → ClassId} {iv : mIv} {rv : mRv} {p : Nat} (h : isQ p) : mce ad cy iv rv p = .inl (cy (shk p).2.1, (shk p).2.2, .inr (.inr (.inr (.inr (fun j => (rv p j).map ad))))) := by
  unfold isQ at h
  unfold mce
  generalize shk p = sp at h
  obtain ⟨a, a2, a3⟩ := sp
  simp only at h
  subst h
  simp
theorem mce_O {ad : Nat → Nat} {cy : Nat → ClassId} {iv : mIv} {rv : mRv} {p c : Nat} (h : isO p c) : mce ad cy iv rv p = .inr (c, (List.range (fNk c)).map (fun j => mfv ad (fCd c j) iv rv p j)) := by
  unfold isO at h
  unfold mce
  rw [h]
  rfl
theorem isO_lt {p c : Nat} (h : isO p c) : p < 82 := shk_lt (fun e => by unfold isO at h; rw [h] at e; cases e)
theorem sln_lt {p : Nat} {j : Int} (h0 : 0 ≤ j) (h : j < sln p) : p < 82 := shk_n0 (fun e => by unfold sln at h; rw [e] at h; simp at h; omega)
theorem isLg_A {p t j : Nat} (h : isA p t) : isLg p j = Nat.beq t 1 := by
  obtain ⟨h1, h2⟩ := h
  unfold isLg
  generalize shk p = sp at h1 h2
  obtain ⟨a, a2, a3⟩ := sp
  simp only at h1 h2
  subst h1; subst h2
  rfl
theorem isLg_O {p c j : Nat} (h : isO p c) : isLg p j = Nat.beq (fCd c j) 1 := by
  unfold isO at h
  unfold isLg
  rw [h]
  rfl
