/-! one step of the walk -/
theorem prt_sw {n m : Nat} {Cl Rl : Nat → Nat} {P : Nat → Bool} (h : prt n m Cl Rl P) {q r : Nat} (hq : q < n) (hr : r < m) : prt n m (upn Cl q (Rl r)) (upn Rl r (Cl q)) P := by
  obtain ⟨h1, h2, h3, h4, h5, h6⟩ := h
  refine ⟨fun j hj => ?_, fun i hi => ?_, fun j k hj hk e => ?_, fun i k hi hk e => ?_, fun i j hi hj => ?_, fun l hl hP => ?_⟩
  · unfold upn; split
    · exact h2 r hr
    · exact h1 j hj
  · unfold upn; split
    · exact h1 q hq
    · exact h2 i hi
  · unfold upn at e
    by_cases a : j = q <;> by_cases b : k = q
    · omega
    · rw [if_pos a, if_neg b] at e; exact absurd e (h5 r k hr hk)
    · rw [if_neg a, if_pos b] at e; exact absurd e.symm (h5 r j hr hj)
    · rw [if_neg a, if_neg b] at e; exact h3 j k hj hk e
  · unfold upn at e
    by_cases a : i = r <;> by_cases b : k = r
    · omega
    · rw [if_pos a, if_neg b] at e; exact absurd e.symm (h5 k q hk hq)
    · rw [if_neg a, if_pos b] at e; exact absurd e (h5 i q hi hq)
    · rw [if_neg a, if_neg b] at e; exact h4 i k hi hk e
  · unfold upn
    intro e
    by_cases a : i = r <;> by_cases b : j = q
    · rw [if_pos a, if_pos b] at e; exact h5 r q hr hq e.symm
    · rw [if_pos a, if_neg b] at e; exact b (h3 q j hq hj e).symm
    · rw [if_neg a, if_pos b] at e; exact a (h4 i r hi hr e)
    · rw [if_neg a, if_neg b] at e; exact h5 i j hi hj e
  · rcases h6 l hl hP with ⟨j, hj, e⟩ | ⟨i, hi, e⟩
    · by_cases a : j = q
      · exact Or.inr ⟨r, hr, by unfold upn; rw [if_pos rfl, ← e, a]⟩
      · exact Or.inl ⟨j, hj, by unfold upn; rw [if_neg a, e]⟩
    · by_cases a : i = r
      · exact Or.inl ⟨q, hq, by unfold upn; rw [if_pos rfl, ← e, a]⟩
      · exact Or.inr ⟨i, hi, by unfold upn; rw [if_neg a, e]⟩
/-- what swap makes of a tableau; sg is the sign of the pivot -/
def swp (n m : Nat) (D D' : Dc) (q r : Nat) (sg : Int) : Prop := (∀ j, j < n → D'.1 j = upn D.1 q (D.2.1 r) j) ∧ (∀ i, i < m → D'.2.1 i = upn D.2.1 r (D.1 q) i) ∧ D'.2.2.1 = sg * D.2.2.2.1 r q ∧ (∀ i, i < m → i ≠ r → ∀ j, j < n → j ≠ q → D.2.2.1 * D'.2.2.2.1 i j = D.2.2.2.1 i j * (sg * D.2.2.2.1 r q) - sg * D.2.2.2.1 i q * D.2.2.2.1 r j) ∧ (∀ i, i < m → i ≠ r → D'.2.2.2.1 i q = sg * D.2.2.2.1 i q) ∧ (∀ j, j < n → j ≠ q → D'.2.2.2.1 r j = -sg * D.2.2.2.1 r j) ∧ D'.2.2.2.1 r q = sg * D.2.2.1 ∧ (∀ i, i < m → i ≠ r → D.2.2.1 * D'.2.2.2.2.1 i = D.2.2.2.2.1 i * (sg * D.2.2.2.1 r q) - sg * D.2.2.2.1 i q * D.2.2.2.2.1 r) ∧ D'.2.2.2.2.1 r = -sg * D.2.2.2.2.1 r
theorem ccv_congr {A : Nat → Nat → Int} {n : Nat} {C C' : Nat → Nat} (h : ∀ j, j < n → C j = C' j) : ccv A n C = ccv A n C' := by
  funext j
  unfold ccv
  by_cases e : j < n
  · rw [if_pos e, if_pos e, h j e]
  · rw [if_neg e, if_neg e]
theorem TI_congr {A : Nat → Nat → Int} {K : Nat → Int} {n m : Nat} {Cl Rl Cl' Rl' : Nat → Nat} {d : Int} {cell : Nat → Nat → Int} {rest : Nat → Int} (hc : ∀ j, j < n → Cl' j = Cl j) (hr : ∀ i, i < m → Rl' i = Rl i) (h : TI A K n m Cl Rl d cell rest) : TI A K n m Cl' Rl' d cell rest := by
  obtain ⟨s, h1, h2, h3, h4, h5⟩ := h
  have e := ccv_congr (A := A) hc
  refine ⟨s, h1, h2, by rw [e]; exact h3, fun i hi j hj => by rw [e, hr i hi]; exact h4 i hi j hj, fun i hi => ?_⟩
  have e2 : sm n (fun j => cell i j * K (Cl' j)) = sm n (fun j => cell i j * K (Cl j)) := sm_congr (fun j hj => by rw [hc j hj])
  rw [h5 i hi, hr i hi, e2]
theorem prt_congr {n m : Nat} {Cl Rl Cl' Rl' : Nat → Nat} {P : Nat → Bool} (hc : ∀ j, j < n → Cl' j = Cl j) (hr : ∀ i, i < m → Rl' i = Rl i) (h : prt n m Cl Rl P) : prt n m Cl' Rl' P := by
  obtain ⟨h1, h2, h3, h4, h5, h6⟩ := h
  refine ⟨fun j hj => by rw [hc j hj]; exact h1 j hj, fun i hi => by rw [hr i hi]; exact h2 i hi, fun j k hj hk e => h3 j k hj hk (by rw [← hc j hj, ← hc k hk]; exact e), fun i k hi hk e => h4 i k hi hk (by rw [← hr i hi, ← hr k hk]; exact e), fun i j hi hj => by rw [hr i hi, hc j hj]; exact h5 i j hi hj, fun l hl hP => ?_⟩
  rcases h6 l hl hP with ⟨j, hj, e⟩ | ⟨i, hi, e⟩
  · exact Or.inl ⟨j, hj, by rw [hc j hj]; exact e⟩
  · exact Or.inr ⟨i, hi, by rw [hr i hi]; exact e⟩
section STE
variable {A : Nat → Nat → Int} {K ab be : Nat → Int} {lev : Nat → Nat} {P : Nat → Bool} {n m Kl : Nat}
/-- behind a step the sides still fit -/
theorem step_DI {D D' : Dc} {q r : Nat} {w sg : Int} (hn : n ≤ 5) (hD : DI A K n m P D) (hq : q < n) (hr : r < m) (hw : w = 1 ∨ w = -1) (hsg : sg = 1 ∨ sg = -1) (hpos : 0 < sg * D.2.2.2.1 r q) (hsp : D.2.2.2.2.2 r * (w * D.2.2.2.1 r q) < 0) (hS : swp n m D D' q r sg) {sd : Nat → Int} (hsd : ∀ i, i < m → sd i = 1 ∨ sd i = -1) (hsd' : ∀ i, i < m → D'.2.2.2.2.2 i = if i = r then w else sd i) (hfit : ∀ i, i < m → i ≠ r → 0 ≤ sd i * (D.2.2.2.2.1 i * (sg * D.2.2.2.1 r q) - sg * D.2.2.2.1 i q * D.2.2.2.2.1 r)) : DI A K n m P D' := by
  obtain ⟨hT, hp, hs, hg⟩ := hD
  obtain ⟨s1, s2, s3, s4, s5, s6, s7, s8, s9⟩ := hS
  have hd := hT.pos
  refine ⟨?_, prt_congr s1 s2 (prt_sw hp hq hr), fun i hi => ?_, fun i hi => ?_⟩
  · rw [s3]
    exact TI_congr s1 s2 (hT.piv hn hq hr hsg hpos rfl s4 s5 s6 s7 s8 s9)
  · rw [hsd' i hi]; split
    · exact hw
    · exact hsd i hi
  · rw [hsd' i hi]
    by_cases e : i = r
    · rw [if_pos e, e, s9]
      have g := hg r hr
      have hws : w * sg = -(D.2.2.2.2.2 r) := by
        rcases hw with rfl | rfl <;> rcases hsg with rfl | rfl <;> rcases hs r hr with e1 | e1 <;> rw [e1] at hsp ⊢ <;> first | rfl | omega
      have : w * (-sg * D.2.2.2.2.1 r) = -(w * sg) * D.2.2.2.2.1 r := by grind
      rw [this, hws, Int.neg_neg]
      exact g
    · rw [if_neg e]
      have h1 := hfit i hi e
      rw [← s8 i hi e] at h1
      have : sd i * (D.2.2.1 * D'.2.2.2.2.1 i) = D.2.2.1 * (sd i * D'.2.2.2.2.1 i) := by grind
      rw [this] at h1
      apply Classical.byContradiction
      intro hneg
      have := Int.mul_neg_of_pos_of_neg hd (show sd i * D'.2.2.2.2.1 i < 0 by omega)
      omega
/-- a step that moves betters the cost -/
theorem step_bet {D D' : Dc} {q r : Nat} {w sg : Int} (hn : n ≤ 5) (h1 : ∀ l, 0 ≤ ab l) (h2 : ∀ l, 0 ≤ be l) (hF : ∀ l, l < 14 → P l = true → flat A n l) (hD : DI A K n m P D) (hD' : DI A K n m P D') (hq : q < n) (hr : r < m) (hw : w = 1 ∨ w = -1) (hsg : sg = 1 ∨ sg = -1) (hpos : 0 < sg * D.2.2.2.1 r q) (hsp : D.2.2.2.2.2 r * (w * D.2.2.2.1 r q) < 0) (hmv : D.2.2.2.2.1 r ≠ 0) (hc : ∀ j, j < n → D'.1 j = upn D.1 q (D.2.1 r) j) {sd : Nat → Int} (hsd : ∀ i, i < m → sd i = 1 ∨ sd i = -1) (hsr : sd r = D.2.2.2.2.2 r) (hfit : ∀ i, i < m → i ≠ r → 0 ≤ sd i * (D.2.2.2.2.1 i * (sg * D.2.2.2.1 r q) - sg * D.2.2.2.1 i q * D.2.2.2.2.1 r)) (hlt : lng Kl (chg ab be lev D.1 D.2.1 m D.2.2.1 D.2.2.2.1 sd q w)) : bet A K ab be lev P n Kl D D' := by
  intro X X' hX hX'
  obtain ⟨hT, hp, hs, hg⟩ := hD
  have hd := hT.pos
  have hd' := hD'.1.pos
  have fc : ∀ j, j < n → flat A n (D.1 j) := fun j hj => hF _ (hp.1 j hj).1 (hp.1 j hj).2
  have fr : ∀ i, i < m → flat A n (D.2.1 i) := fun i hi => hF _ (hp.2.1 i hi).1 (hp.2.1 i hi).2
  obtain ⟨x, x1, x2⟩ := hT.dir hn fc fr hq w
  have hXr : ∀ i, i < m → gp A K (D.2.1 i) X D.2.2.1 = D.2.2.2.2.1 i := fun i hi => by
    have := hT.gap hn fc hi (fr i hi) X D.2.2.1
    rw [sm_0 (fun j hj => by rw [hX j hj, Int.mul_zero]), Int.add_zero, Int.mul_comm] at this
    exact Int.eq_of_mul_eq_mul_right (by omega) this
  -- how far: ro = size of the row's rest
  have hws : w * sg = -(D.2.2.2.2.2 r) := by
    rcases hw with rfl | rfl <;> rcases hsg with rfl | rfl <;> rcases hs r hr with e1 | e1 <;> rw [e1] at hsp ⊢ <;> first | rfl | omega
  have hro : 0 < D.2.2.2.2.2 r * D.2.2.2.2.1 r := by
    have := hg r hr
    rcases hs r hr with e1 | e1 <;> rw [e1] at this ⊢ <;> omega
  generalize hroe : D.2.2.2.2.2 r * D.2.2.2.2.1 r = ro at hro
  generalize hpe : sg * D.2.2.2.1 r q = p at hpos hfit
  have ww : w * w = 1 := by rcases hw with rfl | rfl <;> rfl
  have gg : sg * sg = 1 := by rcases hsg with rfl | rfl <;> rfl
  have rr : D.2.2.2.2.1 r = D.2.2.2.2.2 r * ro := by
    rw [← hroe, ← Int.mul_assoc]
    rcases hs r hr with e1 | e1 <;> rw [e1] <;> omega
  -- the point gone to
  have gZ : ∀ l, gp A K l (fun t => p * X t + ro * x t) (p * D.2.2.1) = p * gp A K l X D.2.2.1 + ro * sm 5 (fun t => A l t * x t) := fun l => by
    unfold gp
    have : sm 5 (fun t => A l t * (p * X t + ro * x t)) = p * sm 5 (fun t => A l t * X t) + ro * sm 5 (fun t => A l t * x t) := by
      rw [← sm_mul, ← sm_mul, ← sm_add]
      exact sm_congr (fun t _ => by grind)
    rw [this]
    grind
  have gZr : ∀ i, i < m → gp A K (D.2.1 i) (fun t => p * X t + ro * x t) (p * D.2.2.1) = D.2.2.2.2.1 i * p - sg * D.2.2.2.1 i q * D.2.2.2.2.1 r := fun i hi => by
    rw [gZ, hXr i hi, x2 i hi, rr]
    have : D.2.2.2.2.2 r = -(w * sg) := by omega
    rw [this]
    have e9 : sg * D.2.2.2.1 i q * (-(w * sg) * ro) = -(sg * sg) * (w * D.2.2.2.1 i q * ro) := by grind
    rw [e9, gg]
    grind
  have gZc : ∀ j, j < n → gp A K (D.1 j) (fun t => p * X t + ro * x t) (p * D.2.2.1) = if j = q then ro * (D.2.2.1 * w) else 0 := fun j hj => by
    rw [gZ, hX j hj, x1 j hj]
    by_cases e : j = q
    · rw [if_pos e, if_pos e]; omega
    · rw [if_neg e, if_neg e]; omega
  have hpd : 0 < p * D.2.2.1 := Int.mul_pos hpos hd
  have hZ : vtx A K n D' (fun t => p * X t + ro * x t) (p * D.2.2.1) := fun j hj => by
    rw [hc j hj]
    unfold upn
    by_cases e : j = q
    · rw [if_pos e, gZr r hr, ← hpe]; grind
    · rw [if_neg e, gZc j hj, if_neg e]
  have same := same_tot (ab := ab) (be := be) (lev := lev) (Int.le_of_lt hpd) (Int.le_of_lt hd') (fun l hl hP => same_pt hn hF hD' hZ hX' hl hP)
  -- the cost there
  have cz : ∀ L, tot A K ab be lev P L (fun t => p * X t + ro * x t) (p * D.2.2.1) - p * tot A K ab be lev P L X D.2.2.1 = ro * chg ab be lev D.1 D.2.1 m D.2.2.1 D.2.2.2.1 sd q w L - p * sm m (fun i => ind (lev (D.2.1 i) = L) (lcst (ab (D.2.1 i)) (be (D.2.1 i)) (D.2.2.2.2.1 i) - slp ab be D.2.1 sd i * D.2.2.2.2.1 i)) := by
    intro L
    rw [tot_prt hp, tot_prt hp]
    have e1 : sm n (fun j => ind (lev (D.1 j) = L) (lcst (ab (D.1 j)) (be (D.1 j)) (gp A K (D.1 j) X D.2.2.1))) = 0 := sm_0 (fun j hj => by rw [hX j hj, lcst_0]; unfold ind; simp)
    have e2 : sm n (fun j => ind (lev (D.1 j) = L) (lcst (ab (D.1 j)) (be (D.1 j)) (gp A K (D.1 j) (fun t => p * X t + ro * x t) (p * D.2.2.1)))) = ro * ind (lev (D.1 q) = L) (D.2.2.1 * (if 0 < w then ab (D.1 q) else be (D.1 q))) := by
      rw [sm_one hq (fun j hj hne => by rw [gZc j hj, if_neg hne, lcst_0]; unfold ind; simp), gZc q hq, if_pos rfl, ← ind_mul]
      congr 1
      rw [lcst_mul (Int.le_of_lt hro), lcst_mul (Int.le_of_lt hd)]
      congr 2
      unfold lcst
      rcases hw with rfl | rfl
      · simp
      · simp
    have e3 : sm m (fun i => ind (lev (D.2.1 i) = L) (lcst (ab (D.2.1 i)) (be (D.2.1 i)) (gp A K (D.2.1 i) (fun t => p * X t + ro * x t) (p * D.2.2.1)))) = sm m (fun i => ind (lev (D.2.1 i) = L) (slp ab be D.2.1 sd i * (p * D.2.2.2.2.1 i + ro * (w * D.2.2.2.1 i q)))) := sm_congr (fun i hi => by
      have e4 : gp A K (D.2.1 i) (fun t => p * X t + ro * x t) (p * D.2.2.1) = p * D.2.2.2.2.1 i + ro * (w * D.2.2.2.1 i q) := by rw [gZ, hXr i hi, x2 i hi]
      rw [← e4]
      congr 1
      apply slp_eq (hsd i hi)
      rw [gZr i hi]
      by_cases e : i = r
      · rw [e, ← hpe]
        have : D.2.2.2.2.1 r * (sg * D.2.2.2.1 r q) - sg * D.2.2.2.1 r q * D.2.2.2.2.1 r = 0 := by grind
        rw [this]; omega
      · exact hfit i hi e)
    rw [e1, e2, e3]
    have e5 : sm m (fun i => ind (lev (D.2.1 i) = L) (lcst (ab (D.2.1 i)) (be (D.2.1 i)) (gp A K (D.2.1 i) X D.2.2.1))) = sm m (fun i => ind (lev (D.2.1 i) = L) (lcst (ab (D.2.1 i)) (be (D.2.1 i)) (D.2.2.2.2.1 i))) := sm_congr (fun i hi => by rw [hXr i hi])
    rw [e5]
    unfold chg grw
    have e6 : sm m (fun i => ind (lev (D.2.1 i) = L) (slp ab be D.2.1 sd i * (p * D.2.2.2.2.1 i + ro * (w * D.2.2.2.1 i q)))) = p * sm m (fun i => ind (lev (D.2.1 i) = L) (slp ab be D.2.1 sd i * D.2.2.2.2.1 i)) + ro * (w * sm m (fun i => ind (lev (D.2.1 i) = L) (slp ab be D.2.1 sd i * D.2.2.2.1 i q))) := by
      rw [← sm_mul, ← sm_mul, ← sm_mul, ← sm_add]
      exact sm_congr (fun i _ => by rw [← ind_mul, ← ind_mul, ← ind_mul, ← ind_add]; congr 1; grind)
    have e7 : sm m (fun i => ind (lev (D.2.1 i) = L) (lcst (ab (D.2.1 i)) (be (D.2.1 i)) (D.2.2.2.2.1 i) - slp ab be D.2.1 sd i * D.2.2.2.2.1 i)) = sm m (fun i => ind (lev (D.2.1 i) = L) (lcst (ab (D.2.1 i)) (be (D.2.1 i)) (D.2.2.2.2.1 i))) - sm m (fun i => ind (lev (D.2.1 i) = L) (slp ab be D.2.1 sd i * D.2.2.2.2.1 i)) := by
      rw [← sm_sub]
      exact sm_congr (fun i _ => by unfold ind; split <;> omega)
    rw [e6, e7]
    grind
  have neg : lng Kl (fun L => tot A K ab be lev P L (fun t => p * X t + ro * x t) (p * D.2.2.1) - p * tot A K ab be lev P L X D.2.2.1) := by
    refine lng_congr (fun L _ => ?_) (lng_add (w := fun L => -(p * sm m (fun i => ind (lev (D.2.1 i) = L) (lcst (ab (D.2.1 i)) (be (D.2.1 i)) (D.2.2.2.2.1 i) - slp ab be D.2.1 sd i * D.2.2.2.2.1 i)))) (lng_mul hro hlt) (lxn_nn (fun L _ => ?_)))
    · rw [cz L]; omega
    · rw [Int.neg_neg]
      refine Int.mul_nonneg (Int.le_of_lt hpos) (sm_nn (fun i hi => ?_))
      have := slp_le (i := i) (Rl := D.2.1) (side := sd) (g := D.2.2.2.2.1 i) h1 h2
      unfold ind
      split <;> omega
  -- back to X'
  have k := lng_mul (Int.mul_pos hd hd') neg
  refine lng_div (c := p * D.2.2.1) hpd (lng_congr (fun L _ => ?_) k)
  have := same L
  grind
end STE
