/-! the tableau -/
def ccv (A : Nat → Nat → Int) (n : Nat) (Cl : Nat → Nat) : Nat → Nat → Int := fun j => if j < n then A (Cl j) else unit j
def TI (A : Nat → Nat → Int) (K : Nat → Int) (n m : Nat) (Cl Rl : Nat → Nat) (d : Int) (cell : Nat → Nat → Int) (rest : Nat → Int) : Prop := ∃ s : Int, (s = 1 ∨ s = -1) ∧ 0 < d ∧ d = s * dv (ccv A n Cl) ∧ (∀ i, i < m → ∀ j, j < n → cell i j = s * dv (uv (ccv A n Cl) j (A (Rl i)))) ∧ (∀ i, i < m → rest i = sm n (fun j => cell i j * K (Cl j)) - d * K (Rl i))
/-- what a line is off, times q, at the point X / q -/
def gp (A : Nat → Nat → Int) (K : Nat → Int) (l : Nat) (X : Nat → Int) (q : Int) : Int := sm 5 (fun t => A l t * X t) - K l * q
def upn (C : Nat → Nat) (q x : Nat) : Nat → Nat := fun j => if j = q then x else C j
theorem ccv_up {A : Nat → Nat → Int} {n : Nat} {Cl : Nat → Nat} {q r : Nat} (hq : q < n) : ccv A n (upn Cl q r) = uv (ccv A n Cl) q (A r) := by
  funext j
  unfold ccv uv upn
  by_cases h : j = q
  · subst h; simp [hq]
  · simp [h]
theorem ccv_at {A : Nat → Nat → Int} {n : Nat} {Cl : Nat → Nat} {j : Nat} (hj : j < n) : ccv A n Cl j = A (Cl j) := by unfold ccv; rw [if_pos hj]
/-- lines have nothing beyond the n-th place -/
def flat (A : Nat → Nat → Int) (n : Nat) (l : Nat) : Prop := ∀ t, n ≤ t → t < 5 → A l t = 0
theorem ccv_pad {A : Nat → Nat → Int} {n : Nat} {Cl : Nat → Nat} (hn : n ≤ 5) (hf : ∀ j, j < n → flat A n (Cl j)) {a : Nat → Int} (ha : ∀ t, n ≤ t → t < 5 → a t = 0) (hd : dv (ccv A n Cl) ≠ 0) {t : Nat} (h1 : n ≤ t) (h2 : t < 5) : dv (uv (ccv A n Cl) t a) = 0 := by
  have h := crm h2 (ccv A n Cl) a
  rw [ha t h1 h2, Int.mul_zero, sm_one h2] at h
  · have e : ccv A n Cl t t = 1 := by unfold ccv unit; rw [if_neg (by omega), if_pos rfl]
    rw [e, Int.mul_one] at h
    exact h.symm
  · intro j hj hne
    by_cases hjn : j < n
    · rw [ccv_at hjn, hf j hjn t h1 h2, Int.mul_zero]
    · have e : ccv A n Cl j t = 0 := by unfold ccv unit; rw [if_neg hjn, if_neg hne]
      rw [e, Int.mul_zero]
theorem sm_take {n : Nat} {f : Nat → Int} (hn : n ≤ 5) (h : ∀ t, n ≤ t → t < 5 → f t = 0) : sm 5 f = sm n f := by
  rcases (show n = 0 ∨ n = 1 ∨ n = 2 ∨ n = 3 ∨ n = 4 ∨ n = 5 by omega) with rfl | rfl | rfl | rfl | rfl | rfl
  · simp only [sm]; rw [h 0 (by omega) (by omega), h 1 (by omega) (by omega), h 2 (by omega) (by omega), h 3 (by omega) (by omega), h 4 (by omega) (by omega)]; rfl
  · simp only [sm]; rw [h 1 (by omega) (by omega), h 2 (by omega) (by omega), h 3 (by omega) (by omega), h 4 (by omega) (by omega)]; omega
  · simp only [sm]; rw [h 2 (by omega) (by omega), h 3 (by omega) (by omega), h 4 (by omega) (by omega)]; omega
  · simp only [sm]; rw [h 3 (by omega) (by omega), h 4 (by omega) (by omega)]; omega
  · simp only [sm]; rw [h 4 (by omega) (by omega)]; omega
  · rfl
/-- a flat vector by the columns' lines -/
theorem TI_vec {A : Nat → Nat → Int} {n : Nat} {Cl : Nat → Nat} (hn : n ≤ 5) (hf : ∀ j, j < n → flat A n (Cl j)) (hd : dv (ccv A n Cl) ≠ 0) {a : Nat → Int} (ha : ∀ t, n ≤ t → t < 5 → a t = 0) {t : Nat} (ht : t < 5) : dv (ccv A n Cl) * a t = sm n (fun j => dv (uv (ccv A n Cl) j a) * A (Cl j) t) := by
  rw [crm ht, sm_take hn]
  · exact sm_congr (fun j hj => by rw [ccv_at hj])
  · intro j h1 h2
    rw [ccv_pad hn hf ha hd h1 h2, Int.zero_mul]
section TAB
variable {A : Nat → Nat → Int} {K : Nat → Int} {n m : Nat} {Cl Rl : Nat → Nat} {d : Int} {cell : Nat → Nat → Int} {rest : Nat → Int}
theorem TI.pos (h : TI A K n m Cl Rl d cell rest) : 0 < d := h.choose_spec.2.1
theorem TI.ne (h : TI A K n m Cl Rl d cell rest) : dv (ccv A n Cl) ≠ 0 := by
  obtain ⟨s, hs, hd, e, -, -⟩ := h
  intro z
  rw [z, Int.mul_zero] at e
  omega
theorem TI.row (h : TI A K n m Cl Rl d cell rest) (hn : n ≤ 5) (hf : ∀ j, j < n → flat A n (Cl j)) {i : Nat} (hi : i < m) (hfr : flat A n (Rl i)) {t : Nat} (ht : t < 5) : d * A (Rl i) t = sm n (fun j => cell i j * A (Cl j) t) := by
  have hne := h.ne
  obtain ⟨s, hs, hd, e, hc, hr⟩ := h
  rw [e, Int.mul_assoc, TI_vec hn hf hne hfr ht, ← sm_mul]
  exact sm_congr (fun j hj => by rw [hc i hi j hj, Int.mul_assoc])
/-- what a row's line is off, out of what the columns' are -/
theorem TI.gap (h : TI A K n m Cl Rl d cell rest) (hn : n ≤ 5) (hf : ∀ j, j < n → flat A n (Cl j)) {i : Nat} (hi : i < m) (hfr : flat A n (Rl i)) (X : Nat → Int) (q : Int) : d * gp A K (Rl i) X q = rest i * q + sm n (fun j => cell i j * gp A K (Cl j) X q) := by
  have hrow := fun t ht => h.row hn hf hi hfr (t := t) ht
  obtain ⟨s, hs, hd, e, hc, hr⟩ := h
  unfold gp
  rw [hr i hi, Int.mul_sub]
  have e1 : d * sm 5 (fun t => A (Rl i) t * X t) = sm n (fun j => cell i j * sm 5 (fun t => A (Cl j) t * X t)) := by
    rw [← sm_mul]
    have : sm 5 (fun t => d * (A (Rl i) t * X t)) = sm 5 (fun t => sm n (fun j => cell i j * (A (Cl j) t * X t))) := sm_congr (fun t ht => by
      rw [← Int.mul_assoc, hrow t ht, ← sm_mulr]
      exact sm_congr (fun j _ => Int.mul_assoc ..))
    rw [this, sm_swap]
    exact sm_congr (fun j _ => sm_mul ..)
  rw [e1]
  have e2 : sm n (fun j => cell i j * (sm 5 (fun t => A (Cl j) t * X t) - K (Cl j) * q)) = sm n (fun j => cell i j * sm 5 (fun t => A (Cl j) t * X t)) - sm n (fun j => cell i j * K (Cl j)) * q := by
    rw [← sm_mulr, ← sm_sub]
    exact sm_congr (fun j _ => by rw [Int.mul_sub, ← Int.mul_assoc])
  rw [e2]
  grind
/-- the new tableau -/
theorem TI.piv (h : TI A K n m Cl Rl d cell rest) (hn : n ≤ 5) {q r : Nat} (hq : q < n) (hr : r < m) {cell' : Nat → Nat → Int} {rest' : Nat → Int} {d' sg : Int} (hsg : sg = 1 ∨ sg = -1) (hp : 0 < sg * cell r q) (hd' : d' = sg * cell r q)
    (c1 : ∀ i, i < m → i ≠ r → ∀ j, j < n → j ≠ q → d * cell' i j = cell i j * d' - sg * cell i q * cell r j) (c2 : ∀ i, i < m → i ≠ r → cell' i q = sg * cell i q) (c3 : ∀ j, j < n → j ≠ q → cell' r j = -sg * cell r j) (c4 : cell' r q = sg * d) (r1 : ∀ i, i < m → i ≠ r → d * rest' i = rest i * d' - sg * cell i q * rest r) (r2 : rest' r = -sg * rest r) :
    TI A K n m (upn Cl q (Rl r)) (upn Rl r (Cl q)) d' cell' rest' := by
  obtain ⟨s, hs, hd, e, hc, hre⟩ := h
  have ss : s * s = 1 := by rcases hs with rfl | rfl <;> rfl
  have gg : sg * sg = 1 := by rcases hsg with rfl | rfl <;> rfl
  have hq5 : q < 5 := by omega
  have hdv : dv (ccv A n Cl) = s * d := by rw [e, ← Int.mul_assoc, ss, Int.one_mul]
  have hcv : ∀ i, i < m → ∀ j, j < n → dv (uv (ccv A n Cl) j (A (Rl i))) = s * cell i j := fun i hi j hj => by rw [hc i hi j hj, ← Int.mul_assoc, ss, Int.one_mul]
  have hd0 : d ≠ 0 := by omega
  have hcell : ∀ i, i < m → ∀ j, j < n → cell' i j = sg * s * dv (uv (uv (ccv A n Cl) q (A (Rl r))) j (A (upn Rl r (Cl q) i))) := by
    intro i hi j hj
    by_cases hir : i = r
    · subst hir
      have e1 : upn Rl i (Cl q) i = Cl q := by unfold upn; rw [if_pos rfl]
      rw [e1]
      by_cases hjq : j = q
      · subst hjq
        rw [uv_uv, ← ccv_at (A := A) (Cl := Cl) hj, uv_self, hdv, c4, Int.mul_assoc, ← Int.mul_assoc s, ss, Int.one_mul]
      · rw [c3 j hj hjq, dv_sw hq5 (by omega) (fun z => hjq z.symm), ← ccv_at (A := A) (Cl := Cl) hq, uv_self, hcv i hi j hj, Int.mul_neg, Int.mul_assoc, ← Int.mul_assoc s, ss, Int.one_mul, Int.neg_mul]
    · have e1 : upn Rl r (Cl q) i = Rl i := by unfold upn; rw [if_neg hir]
      rw [e1]
      by_cases hjq : j = q
      · subst hjq
        rw [uv_uv, hcv i hi j hj, c2 i hi hir, Int.mul_assoc, ← Int.mul_assoc s, ss, Int.one_mul]
      · have hpl := plu (C := ccv A n Cl) hq5 (show j < 5 by omega) (fun z => hjq z.symm) (A (Rl r)) (A (Rl i))
        rw [hdv, hcv i hi j hj, hcv r hr q hq, hcv i hi q hq, hcv r hr j hj] at hpl
        have h1 := c1 i hi hir j hj hjq
        rw [hd'] at h1
        apply Int.eq_of_mul_eq_mul_left hd0
        rw [h1]
        have h2 : d * (sg * s * dv (uv (uv (ccv A n Cl) q (A (Rl r))) j (A (Rl i)))) = sg * (s * d * dv (uv (uv (ccv A n Cl) q (A (Rl r))) j (A (Rl i)))) := by grind
        rw [h2, hpl]
        have h3 : s * cell i j * (s * cell r q) = s * s * (cell i j * cell r q) := by grind
        have h4 : s * cell i q * (s * cell r j) = s * s * (cell i q * cell r j) := by grind
        rw [h3, h4, ss]
        grind
  refine ⟨sg * s, ?_, by rw [hd']; exact hp, ?_, ?_, ?_⟩
  · rcases hsg with rfl | rfl <;> rcases hs with rfl | rfl <;> decide
  · rw [ccv_up hq, hcv r hr q hq, hd', Int.mul_assoc, ← Int.mul_assoc s, ss, Int.one_mul]
  · intro i hi j hj
    rw [ccv_up hq]
    exact hcell i hi j hj
  · intro i hi
    have sq : ∀ f : Nat → Int, sm n f = f q + sm n (fun j => if j = q then 0 else f j) := fun f => sm_out q hq
    have eK : upn Cl q (Rl r) q = Rl r := by unfold upn; rw [if_pos rfl]
    by_cases hir : i = r
    · subst hir
      have e1 : upn Rl i (Cl q) i = Cl q := by unfold upn; rw [if_pos rfl]
      have hri := hre i hi
      rw [sq] at hri
      rw [e1, r2, sq, eK, c4, hd', hri]
      have e2 : sm n (fun j => if j = q then 0 else cell' i j * K (upn Cl q (Rl i) j)) = -sg * sm n (fun j => if j = q then 0 else cell i j * K (Cl j)) := by
        rw [← sm_mul]
        exact sm_congr (fun j hj => by
          by_cases hjq : j = q
          · rw [if_pos hjq, if_pos hjq, Int.mul_zero]
          · rw [if_neg hjq, if_neg hjq, c3 j hj hjq, Int.mul_assoc]
            unfold upn; rw [if_neg hjq])
      rw [e2]
      grind
    · have e1 : upn Rl r (Cl q) i = Rl i := by unfold upn; rw [if_neg hir]
      apply Int.eq_of_mul_eq_mul_left hd0
      have hri := hre i hi
      have hrr := hre r hr
      rw [sq] at hri hrr
      rw [r1 i hi hir, e1, sq, eK, c2 i hi hir, hri, hrr, hd']
      have e2 : d * sm n (fun j => if j = q then 0 else cell' i j * K (upn Cl q (Rl r) j)) = sg * cell r q * sm n (fun j => if j = q then 0 else cell i j * K (Cl j)) - sg * cell i q * sm n (fun j => if j = q then 0 else cell r j * K (Cl j)) := by
        rw [← sm_mul, ← sm_mul, ← sm_mul, ← sm_sub]
        exact sm_congr (fun j hj => by
          by_cases hjq : j = q
          · rw [if_pos hjq, if_pos hjq, if_pos hjq]; omega
          · rw [if_neg hjq, if_neg hjq, if_neg hjq]
            have h1 := c1 i hi hir j hj hjq
            have h2 : upn Cl q (Rl r) j = Cl j := by unfold upn; rw [if_neg hjq]
            rw [h2, ← Int.mul_assoc, h1, hd']
            grind)
      generalize (sm n fun j => if j = q then 0 else cell' i j * K (upn Cl q (Rl r) j)) = S1 at e2 ⊢
      generalize (sm n fun j => if j = q then 0 else cell i j * K (Cl j)) = S2 at e2 ⊢
      generalize (sm n fun j => if j = q then 0 else cell r j * K (Cl j)) = S3 at e2 ⊢
      have e3 : d * ((sg * cell i q * K (Rl r) + S1) - sg * cell r q * K (Rl i)) = d * (sg * cell i q * K (Rl r)) + d * S1 - d * (sg * cell r q * K (Rl i)) := by grind
      rw [e3, e2]
      grind
end TAB
