/-! costs, the best point, and that there is one -/
def lcst (ab be g : Int) : Int := if 0 ≤ g then ab * g else be * (-g)
theorem lcst_0 (ab be : Int) : lcst ab be 0 = 0 := by unfold lcst; rw [if_pos (Int.le_refl 0), Int.mul_zero]
theorem lcst_nn {ab be g : Int} (h1 : 0 ≤ ab) (h2 : 0 ≤ be) : 0 ≤ lcst ab be g := by
  unfold lcst
  by_cases h : 0 ≤ g
  · rw [if_pos h]; exact Int.mul_nonneg h1 h
  · rw [if_neg h]; exact Int.mul_nonneg h2 (by omega)
theorem lcst_ab {ab be g : Int} (h1 : 0 ≤ ab) (h2 : 0 ≤ be) : ab * g ≤ lcst ab be g := by
  unfold lcst
  by_cases h : 0 ≤ g
  · rw [if_pos h]; exact Int.le_refl _
  · rw [if_neg h]
    have a1 := Int.mul_nonneg h2 (show 0 ≤ -g by omega)
    have a2 := Int.mul_nonneg h1 (show 0 ≤ -g by omega)
    rw [Int.mul_neg] at a2
    omega
theorem lcst_be {ab be g : Int} (h1 : 0 ≤ ab) (h2 : 0 ≤ be) : -be * g ≤ lcst ab be g := by
  unfold lcst
  by_cases h : 0 ≤ g
  · rw [if_pos h]
    have a1 := Int.mul_nonneg h2 h
    have a2 := Int.mul_nonneg h1 h
    rw [Int.neg_mul]
    omega
  · rw [if_neg h, Int.mul_neg, Int.neg_mul]; exact Int.le_refl _
theorem lcst_mul {ab be g c : Int} (hc : 0 ≤ c) : lcst ab be (c * g) = c * lcst ab be g := by
  unfold lcst
  by_cases h : 0 ≤ g
  · rw [if_pos h, if_pos (Int.mul_nonneg hc h)]; grind
  · rw [if_neg h]
    by_cases e : c = 0
    · subst e; simp
    · rw [if_neg (by have := Int.mul_neg_of_pos_of_neg (show 0 < c by omega) (show g < 0 by omega); omega)]; grind
theorem lcst_add {ab be g k : Int} (h1 : 0 ≤ ab) (h2 : 0 ≤ be) : lcst ab be (g + k) ≤ lcst ab be g + lcst ab be k := by
  have a1 := lcst_ab (g := g) h1 h2
  have a2 := lcst_ab (g := k) h1 h2
  have b1 := lcst_be (g := g) h1 h2
  have b2 := lcst_be (g := k) h1 h2
  by_cases h : 0 ≤ g + k
  · have e : lcst ab be (g + k) = ab * g + ab * k := by unfold lcst; rw [if_pos h, Int.mul_add]
    omega
  · have e : lcst ab be (g + k) = -be * g + -be * k := by unfold lcst; rw [if_neg h]; grind
    omega
def ind (b : Prop) [Decidable b] (x : Int) : Int := if b then x else 0
/-- the lines that there are, each once, in a column or in a row -/
def prt (n m : Nat) (Cl Rl : Nat → Nat) (P : Nat → Bool) : Prop := (∀ j, j < n → Cl j < 14 ∧ P (Cl j)) ∧ (∀ i, i < m → Rl i < 14 ∧ P (Rl i)) ∧ (∀ j k, j < n → k < n → Cl j = Cl k → j = k) ∧ (∀ i k, i < m → k < m → Rl i = Rl k → i = k) ∧ (∀ i j, i < m → j < n → Rl i ≠ Cl j) ∧ (∀ l, l < 14 → P l → (∃ j, j < n ∧ Cl j = l) ∨ (∃ i, i < m ∧ Rl i = l))
theorem prt_sm {n m : Nat} {Cl Rl : Nat → Nat} {P : Nat → Bool} (h : prt n m Cl Rl P) {g : Nat → Int} (hg : ∀ l, l < 14 → ¬ P l → g l = 0) : sm 14 g = sm m (fun i => g (Rl i)) + sm n (fun j => g (Cl j)) := by
  obtain ⟨h1, h2, h3, h4, h5, h6⟩ := h
  have e1 : ∀ i, i < m → g (Rl i) = sm 14 (fun l => if Rl i = l then g (Rl i) else 0) := fun i hi => by
    rw [sm_one (k := Rl i) (h2 i hi).1 (fun l _ hne => by rw [if_neg (fun z => hne z.symm)]), if_pos rfl]
  have e2 : ∀ j, j < n → g (Cl j) = sm 14 (fun l => if Cl j = l then g (Cl j) else 0) := fun j hj => by
    rw [sm_one (k := Cl j) (h1 j hj).1 (fun l _ hne => by rw [if_neg (fun z => hne z.symm)]), if_pos rfl]
  rw [sm_congr e1, sm_congr e2, sm_swap, sm_swap n, ← sm_add]
  apply sm_congr
  intro l hl
  by_cases hP : P l
  · rcases h6 l hl hP with ⟨j, hj, e⟩ | ⟨i, hi, e⟩
    · rw [sm_0 (f := fun i => if Rl i = l then g (Rl i) else 0) (fun i hi => by rw [if_neg (fun z => h5 i j hi hj (z.trans e.symm))]), sm_one (k := j) hj (fun k hk hne => by rw [if_neg (fun z => hne (h3 k j hk hj (z.trans e.symm)))]), if_pos e, e]; omega
    · rw [sm_0 (f := fun j => if Cl j = l then g (Cl j) else 0) (fun j hj => by rw [if_neg (fun z => h5 i j hi hj (e.trans z.symm))]), sm_one (k := i) hi (fun k hk hne => by rw [if_neg (fun z => hne (h4 k i hk hi (z.trans e.symm)))]), if_pos e, e]; omega
  · rw [hg l hl hP, sm_0 (fun i hi => by
      by_cases z : Rl i = l
      · exact absurd (z ▸ (h2 i hi).2) hP
      · rw [if_neg z]), sm_0 (fun j hj => by
      by_cases z : Cl j = l
      · exact absurd (z ▸ (h1 j hj).2) hP
      · rw [if_neg z])]; rfl
/-- the cost of level L at X / q, times q -/
def tot (A : Nat → Nat → Int) (K ab be : Nat → Int) (lev : Nat → Nat) (P : Nat → Bool) (L : Nat) (X : Nat → Int) (q : Int) : Int := sm 14 (fun l => ind (P l ∧ lev l = L) (lcst (ab l) (be l) (gp A K l X q)))
section OPT
variable {A : Nat → Nat → Int} {K ab be : Nat → Int} {lev : Nat → Nat} {P : Nat → Bool} {n m : Nat} {Cl Rl : Nat → Nat} {d : Int} {cell : Nat → Nat → Int} {rest side : Nat → Int}
theorem tot_prt (hp : prt n m Cl Rl P) (L : Nat) (X : Nat → Int) (q : Int) : tot A K ab be lev P L X q = sm m (fun i => ind (lev (Rl i) = L) (lcst (ab (Rl i)) (be (Rl i)) (gp A K (Rl i) X q))) + sm n (fun j => ind (lev (Cl j) = L) (lcst (ab (Cl j)) (be (Cl j)) (gp A K (Cl j) X q))) := by
  unfold tot
  rw [prt_sm hp (fun l _ h => by unfold ind; rw [if_neg (fun z => h z.1)])]
  congr 1
  · exact sm_congr (fun i hi => by unfold ind; simp [(hp.2.1 i hi).2])
  · exact sm_congr (fun j hj => by unfold ind; simp [(hp.1 j hj).2])
def slp (ab be : Nat → Int) (Rl : Nat → Nat) (side : Nat → Int) (i : Nat) : Int := if 0 < side i then ab (Rl i) else -(be (Rl i))
def grw (ab be : Nat → Int) (lev : Nat → Nat) (Rl : Nat → Nat) (m : Nat) (cell : Nat → Nat → Int) (side : Nat → Int) (L j : Nat) : Int := sm m (fun i => ind (lev (Rl i) = L) (slp ab be Rl side i * cell i j))
/-- how the cost of level L grows if column j's line goes a way -/
def chg (ab be : Nat → Int) (lev : Nat → Nat) (Cl Rl : Nat → Nat) (m : Nat) (d : Int) (cell : Nat → Nat → Int) (side : Nat → Int) (j : Nat) (w : Int) (L : Nat) : Int := w * grw ab be lev Rl m cell side L j + ind (lev (Cl j) = L) (d * (if 0 < w then ab (Cl j) else be (Cl j)))
theorem slp_le {i : Nat} {g : Int} (h1 : ∀ l, 0 ≤ ab l) (h2 : ∀ l, 0 ≤ be l) : slp ab be Rl side i * g ≤ lcst (ab (Rl i)) (be (Rl i)) g := by
  unfold slp
  by_cases h : 0 < side i
  · rw [if_pos h]; exact lcst_ab (h1 _) (h2 _)
  · rw [if_neg h]; exact lcst_be (h1 _) (h2 _)
theorem slp_eq {i : Nat} {g : Int} (hs : side i = 1 ∨ side i = -1) (hg : 0 ≤ side i * g) : lcst (ab (Rl i)) (be (Rl i)) g = slp ab be Rl side i * g := by
  unfold slp lcst
  rcases hs with e | e
  · rw [e] at hg ⊢
    rw [if_pos (by omega), if_pos (by omega)]
  · rw [e] at hg ⊢
    rw [if_neg (show ¬ (0 : Int) < -1 by omega)]
    by_cases h : 0 ≤ g
    · have : g = 0 := by omega
      subst this; simp
    · rw [if_neg h]; grind
theorem ind_add {b : Prop} [Decidable b] (x y : Int) : ind b (x + y) = ind b x + ind b y := by unfold ind; by_cases h : b <;> simp [h]
theorem ind_mul {b : Prop} [Decidable b] (c x : Int) : ind b (c * x) = c * ind b x := by unfold ind; by_cases h : b <;> simp [h]
theorem ind_le {b : Prop} [Decidable b] {x y : Int} (h : x ≤ y) : ind b x ≤ ind b y := by unfold ind; by_cases hb : b <;> simp [hb]; exact h
theorem ind_sm {b : Prop} [Decidable b] (n : Nat) (f : Nat → Int) : ind b (sm n f) = sm n (fun j => ind b (f j)) := by
  unfold ind
  by_cases h : b
  · simp [h]
  · simp [h, sm_zero]
/-- at a tableau that no column's line can better, X is best of all -/
theorem opt (hT : TI A K n m Cl Rl d cell rest) (hn : n ≤ 5) (hp : prt n m Cl Rl P) (hfc : ∀ j, j < n → flat A n (Cl j)) (hfr : ∀ i, i < m → flat A n (Rl i)) (h1 : ∀ l, 0 ≤ ab l) (h2 : ∀ l, 0 ≤ be l) (hs : ∀ i, i < m → side i = 1 ∨ side i = -1) (hg : ∀ i, i < m → 0 ≤ side i * rest i) {X : Nat → Int} (hX : ∀ j, j < n → gp A K (Cl j) X d = 0) {Kl : Nat}
    (hb : ∀ j, j < n → ∀ w : Int, (w = 1 ∨ w = -1) → lxn Kl (chg ab be lev Cl Rl m d cell side j w)) {Y : Nat → Int} {r : Int} (hr : 0 < r) : lxn Kl (fun L => d * tot A K ab be lev P L Y r - r * tot A K ab be lev P L X d) := by
  have hd := hT.pos
  have hXr : ∀ i, i < m → gp A K (Rl i) X d = rest i := fun i hi => by
    have := hT.gap hn hfc hi (hfr i hi) X d
    rw [sm_0 (fun j hj => by rw [hX j hj, Int.mul_zero]), Int.add_zero, Int.mul_comm] at this
    exact Int.eq_of_mul_eq_mul_right (by omega) this
  have hYr := fun i hi => hT.gap hn hfc hi (hfr i hi) Y r
  -- what is left when the rows' slopes are taken away
  have key : ∀ L, d * tot A K ab be lev P L Y r - r * tot A K ab be lev P L X d = (d * sm m (fun i => ind (lev (Rl i) = L) (lcst (ab (Rl i)) (be (Rl i)) (gp A K (Rl i) Y r))) - sm m (fun i => ind (lev (Rl i) = L) (slp ab be Rl side i * (d * gp A K (Rl i) Y r)))) + sm n (fun j => (if 0 ≤ gp A K (Cl j) Y r then gp A K (Cl j) Y r else -(gp A K (Cl j) Y r)) * chg ab be lev Cl Rl m d cell side j (if 0 ≤ gp A K (Cl j) Y r then 1 else -1) L) := by
    intro L
    rw [tot_prt hp, tot_prt hp]
    have e1 : sm n (fun j => ind (lev (Cl j) = L) (lcst (ab (Cl j)) (be (Cl j)) (gp A K (Cl j) X d))) = 0 := sm_0 (fun j hj => by rw [hX j hj, lcst_0]; unfold ind; simp)
    have e2 : sm m (fun i => ind (lev (Rl i) = L) (lcst (ab (Rl i)) (be (Rl i)) (gp A K (Rl i) X d))) = sm m (fun i => ind (lev (Rl i) = L) (slp ab be Rl side i * rest i)) := sm_congr (fun i hi => by rw [hXr i hi, slp_eq (hs i hi) (hg i hi)])
    have e3 : sm m (fun i => ind (lev (Rl i) = L) (slp ab be Rl side i * (d * gp A K (Rl i) Y r))) = r * sm m (fun i => ind (lev (Rl i) = L) (slp ab be Rl side i * rest i)) + sm n (fun j => grw ab be lev Rl m cell side L j * gp A K (Cl j) Y r) := by
      have : sm n (fun j => grw ab be lev Rl m cell side L j * gp A K (Cl j) Y r) = sm m (fun i => sm n (fun j => ind (lev (Rl i) = L) (slp ab be Rl side i * cell i j * gp A K (Cl j) Y r))) := by
        rw [sm_swap]
        exact sm_congr (fun j _ => by
          unfold grw
          rw [← sm_mulr]
          exact sm_congr (fun i _ => by unfold ind; by_cases h : lev (Rl i) = L <;> simp [h]))
      rw [this, ← sm_mul, ← sm_add]
      exact sm_congr (fun i hi => by
        rw [hYr i hi, ← ind_sm, ← ind_mul, ← ind_add]
        congr 1
        rw [Int.mul_add, ← sm_mul]
        congr 1
        · grind
        · exact sm_congr (fun j _ => by grind))
    have e4 : sm n (fun j => (if 0 ≤ gp A K (Cl j) Y r then gp A K (Cl j) Y r else -(gp A K (Cl j) Y r)) * chg ab be lev Cl Rl m d cell side j (if 0 ≤ gp A K (Cl j) Y r then 1 else -1) L) = sm n (fun j => grw ab be lev Rl m cell side L j * gp A K (Cl j) Y r) + d * sm n (fun j => ind (lev (Cl j) = L) (lcst (ab (Cl j)) (be (Cl j)) (gp A K (Cl j) Y r))) := by
      rw [← sm_mul, ← sm_add]
      exact sm_congr (fun j _ => by
        unfold chg lcst ind
        by_cases h : 0 ≤ gp A K (Cl j) Y r
        · have w1 : (0 : Int) < 1 := by decide
          simp only [if_pos h, if_pos w1]
          by_cases hl : lev (Cl j) = L
          · simp only [if_pos hl]; grind
          · simp only [if_neg hl]; grind
        · have w1 : ¬ (0 : Int) < -1 := by decide
          simp only [if_neg h, if_neg w1]
          by_cases hl : lev (Cl j) = L
          · simp only [if_pos hl]; grind
          · simp only [if_neg hl]; grind)
    rw [e1, e2, e3, e4]
    grind
  refine lxn_congr (fun L _ => (key L).symm) (lxn_add (lxn_nn (fun L _ => ?_)) (lxn_sm (v := fun j L => (if 0 ≤ gp A K (Cl j) Y r then gp A K (Cl j) Y r else -(gp A K (Cl j) Y r)) * chg ab be lev Cl Rl m d cell side j (if 0 ≤ gp A K (Cl j) Y r then 1 else -1) L) (fun j hj => lxn_mul (by split <;> omega) (hb j hj _ (by split <;> simp)))))
  rw [← sm_mul, ← sm_sub]
  apply sm_nn
  intro i hi
  have a1 := slp_le (i := i) (Rl := Rl) (side := side) (g := gp A K (Rl i) Y r) h1 h2
  have a2 := Int.mul_le_mul_of_nonneg_left a1 (Int.le_of_lt hd)
  unfold ind
  by_cases h : lev (Rl i) = L
  · simp only [h, if_true]
    have : slp ab be Rl side i * (d * gp A K (Rl i) Y r) = d * (slp ab be Rl side i * gp A K (Rl i) Y r) := by grind
    omega
  · simp [h]
theorem gp_mid (l : Nat) (X Y : Nat → Int) (d r : Int) : gp A K l (fun t => r * X t + d * Y t) (2 * d * r) = r * gp A K l X d + d * gp A K l Y r := by
  unfold gp
  have : sm 5 (fun t => A l t * (r * X t + d * Y t)) = r * sm 5 (fun t => A l t * X t) + d * sm 5 (fun t => A l t * Y t) := by
    rw [← sm_mul, ← sm_mul, ← sm_add]
    exact sm_congr (fun t _ => by grind)
  rw [this]
  grind
theorem tot_mid (h1 : ∀ l, 0 ≤ ab l) (h2 : ∀ l, 0 ≤ be l) {d r : Int} (hd : 0 ≤ d) (hr : 0 ≤ r) (L : Nat) (X Y : Nat → Int) : tot A K ab be lev P L (fun t => r * X t + d * Y t) (2 * d * r) ≤ r * tot A K ab be lev P L X d + d * tot A K ab be lev P L Y r := by
  unfold tot
  rw [← sm_mul, ← sm_mul, ← sm_add]
  apply sm_le
  intro l _
  rw [gp_mid, ← ind_mul, ← ind_mul, ← ind_add]
  apply ind_le
  have := lcst_add (g := r * gp A K l X d) (k := d * gp A K l Y r) (h1 l) (h2 l)
  rw [lcst_mul hr, lcst_mul hd] at this
  exact this
theorem lxn_anti {Kl : Nat} : ∀ {v : Nat → Int}, lxn Kl v → lxn Kl (fun l => -(v l)) → ∀ l, l < Kl → v l = 0 := by
  induction Kl with
  | zero => intro v _ _ l hl; omega
  | succ K ih =>
    intro v h g l hl
    rcases h with h | ⟨h, h'⟩ <;> rcases g with g | ⟨g, g'⟩
    · have : 0 < -(v 0) := g
      omega
    · have : -(v 0) = 0 := g
      omega
    · have : 0 < -(v 0) := g
      omega
    · cases l with
      | zero => exact h
      | succ l => exact ih h' g' l (by omega)
/-- two points that are best have the same edges -/
theorem uniq {Kl : Nat} (h1 : ∀ l, 0 ≤ ab l) (h2 : ∀ l, 0 ≤ be l) {X : Nat → Int} {d : Int} (hd : 0 < d) (hX : ∀ (Y : Nat → Int) (r : Int), 0 < r → lxn Kl (fun L => d * tot A K ab be lev P L Y r - r * tot A K ab be lev P L X d)) {Y : Nat → Int} {r : Int} (hr : 0 < r) (hY : lxn Kl (fun L => r * tot A K ab be lev P L X d - d * tot A K ab be lev P L Y r)) :
    (∀ L, L < Kl → d * tot A K ab be lev P L Y r = r * tot A K ab be lev P L X d) ∧ ∀ L, L < Kl → ∀ k, k < 14 → (∀ l, l < 14 → (P l ∧ lev l = L ↔ l = k)) → ab k = 1 → be k = 1 → r * gp A K k X d = d * gp A K k Y r := by
  have e0 : ∀ L, L < Kl → d * tot A K ab be lev P L Y r = r * tot A K ab be lev P L X d := fun L hL => by
    have := lxn_anti (hX Y r hr) (lxn_congr (fun l _ => by omega) hY) L hL
    omega
  refine ⟨e0, fun L hL k hk hone ha hb => ?_⟩
  have hq : 0 < 2 * d * r := Int.mul_pos (by omega) hr
  have z := hX (fun t => r * X t + d * Y t) (2 * d * r) hq
  have le : ∀ L, L < Kl → d * tot A K ab be lev P L (fun t => r * X t + d * Y t) (2 * d * r) - 2 * d * r * tot A K ab be lev P L X d ≤ 0 := fun L hL => by
    have a1 := tot_mid (A := A) (K := K) (lev := lev) (P := P) h1 h2 (Int.le_of_lt hd) (Int.le_of_lt hr) L X Y
    rw [e0 L hL] at a1
    have a2 := Int.mul_le_mul_of_nonneg_left a1 (Int.le_of_lt hd)
    have : d * (r * tot A K ab be lev P L X d + r * tot A K ab be lev P L X d) = 2 * d * r * tot A K ab be lev P L X d := by grind
    omega
  have zz := lxn_z z le L hL
  have single : ∀ (Z : Nat → Int) (q : Int), tot A K ab be lev P L Z q = lcst 1 1 (gp A K k Z q) := fun Z q => by
    unfold tot
    rw [sm_one hk (fun l hl hne => by unfold ind; rw [if_neg (fun h => hne ((hone l hl).mp h))])]
    unfold ind
    rw [if_pos ((hone k hk).mpr rfl), ha, hb]
  rw [single, single, gp_mid] at zz
  have e1 := e0 L hL
  rw [single, single] at e1
  have u1 : lcst 1 1 (r * gp A K k X d) = r * lcst 1 1 (gp A K k X d) := lcst_mul (Int.le_of_lt hr)
  have u2 : lcst 1 1 (d * gp A K k Y r) = d * lcst 1 1 (gp A K k Y r) := lcst_mul (Int.le_of_lt hd)
  have z2 : d * lcst 1 1 (r * gp A K k X d + d * gp A K k Y r) = d * (2 * lcst 1 1 (r * gp A K k X d)) := by rw [u1]; grind
  have z3 := Int.eq_of_mul_eq_mul_left (show d ≠ 0 by omega) z2
  have z4 : lcst 1 1 (d * gp A K k Y r) = lcst 1 1 (r * gp A K k X d) := by rw [u1, u2, e1]
  generalize r * gp A K k X d = a at z3 z4 ⊢
  generalize d * gp A K k Y r = b at z3 z4 ⊢
  unfold lcst at z3 z4
  split at z3 <;> split at z3 <;> split at z4 <;> (try split at z4) <;> omega
end OPT
