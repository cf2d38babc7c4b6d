/-! the vertex of a tableau, directions, Bland's rule -/
section VTX
variable {A : Nat → Nat → Int} {K ab be : Nat → Int} {lev : Nat → Nat} {P : Nat → Bool} {n m : Nat} {Cl Rl : Nat → Nat} {d : Int} {cell : Nat → Nat → Int} {rest side : Nat → Int}
theorem un_sm (a : Nat → Int) {t : Nat} (ht : t < 5) : sm 5 (fun i => a i * unit i t) = a t := by
  rw [sm_one ht (fun i _ hne => by unfold unit; rw [if_neg hne, Int.mul_zero])]
  unfold unit
  rw [if_pos rfl, Int.mul_one]
/-- for any right sides there is a point, times d -/
theorem TI.solve (h : TI A K n m Cl Rl d cell rest) (hn : n ≤ 5) (b : Nat → Int) : ∃ x : Nat → Int, ∀ j, j < n → sm 5 (fun t => A (Cl j) t * x t) = d * b j := by
  obtain ⟨s, hs, hd, e, -, -⟩ := h
  refine ⟨fun t => sm n (fun k => s * dv (uv (ccv A n Cl) k (unit t)) * b k), fun j hj => ?_⟩
  have e1 : sm 5 (fun t => A (Cl j) t * sm n (fun k => s * dv (uv (ccv A n Cl) k (unit t)) * b k)) = sm n (fun k => s * b k * sm 5 (fun t => A (Cl j) t * dv (uv (ccv A n Cl) k (unit t)))) := by
    have : sm 5 (fun t => A (Cl j) t * sm n (fun k => s * dv (uv (ccv A n Cl) k (unit t)) * b k)) = sm 5 (fun t => sm n (fun k => s * b k * (A (Cl j) t * dv (uv (ccv A n Cl) k (unit t))))) := sm_congr (fun t _ => by
      rw [← sm_mul]
      exact sm_congr (fun k _ => by grind))
    rw [this, sm_swap]
    exact sm_congr (fun k _ => sm_mul ..)
  rw [e1]
  have e2 : ∀ k, k < n → sm 5 (fun t => A (Cl j) t * dv (uv (ccv A n Cl) k (unit t))) = dv (uv (ccv A n Cl) k (A (Cl j))) := fun k hk => by
    rw [← dv_sm (show k < 5 by omega)]
    apply dv_ext
    intro i hi t ht
    by_cases h : i = k
    · subst h; rw [uv_at, uv_at]; exact un_sm _ ht
    · rw [uv_ne _ _ h, uv_ne _ _ h]
  rw [sm_one hj (fun k hk hne => by rw [e2 k hk, ← ccv_at (A := A) (Cl := Cl) hj, dv_o (show j < 5 by omega) (show k < 5 by omega) (fun z => hne z.symm), Int.mul_zero]), e2 j hj, ← ccv_at (A := A) (Cl := Cl) hj, uv_self, e]
  grind
theorem TI.vert (h : TI A K n m Cl Rl d cell rest) (hn : n ≤ 5) : ∃ X : Nat → Int, ∀ j, j < n → gp A K (Cl j) X d = 0 := by
  obtain ⟨x, hx⟩ := h.solve hn (fun j => K (Cl j))
  exact ⟨x, fun j hj => by unfold gp; rw [hx j hj, Int.mul_comm]; omega⟩
/-- the direction in which one column's line goes -/
theorem TI.dir (h : TI A K n m Cl Rl d cell rest) (hn : n ≤ 5) (hf : ∀ j, j < n → flat A n (Cl j)) (hfr : ∀ i, i < m → flat A n (Rl i)) {q : Nat} (hq : q < n) (w : Int) : ∃ x : Nat → Int, (∀ j, j < n → sm 5 (fun t => A (Cl j) t * x t) = if j = q then d * w else 0) ∧ (∀ i, i < m → sm 5 (fun t => A (Rl i) t * x t) = w * cell i q) := by
  obtain ⟨x, hx⟩ := h.solve hn (fun j => if j = q then w else 0)
  have h1 : ∀ j, j < n → sm 5 (fun t => A (Cl j) t * x t) = if j = q then d * w else 0 := fun j hj => by
    rw [hx j hj]
    by_cases e : j = q <;> simp [e]
  refine ⟨x, h1, fun i hi => ?_⟩
  have hd := h.pos
  apply Int.eq_of_mul_eq_mul_left (show d ≠ 0 by omega)
  rw [← sm_mul]
  have : sm 5 (fun t => d * (A (Rl i) t * x t)) = sm n (fun j => cell i j * sm 5 (fun t => A (Cl j) t * x t)) := by
    have : sm 5 (fun t => d * (A (Rl i) t * x t)) = sm 5 (fun t => sm n (fun j => cell i j * (A (Cl j) t * x t))) := sm_congr (fun t ht => by
      rw [← Int.mul_assoc, h.row hn hf hi (hfr i hi) ht, ← sm_mulr]
      exact sm_congr (fun j _ => Int.mul_assoc ..))
    rw [this, sm_swap]
    exact sm_congr (fun j _ => sm_mul ..)
  rw [this, sm_one hq (fun j hj hne => by rw [h1 j hj, if_neg hne, Int.mul_zero]), h1 q hq, if_pos rfl]
  grind
/-- d times a row's line in a direction -/
theorem TI.lin (h : TI A K n m Cl Rl d cell rest) (hn : n ≤ 5) (hf : ∀ j, j < n → flat A n (Cl j)) {i : Nat} (hi : i < m) (hfr : flat A n (Rl i)) (x : Nat → Int) : d * sm 5 (fun t => A (Rl i) t * x t) = sm n (fun j => cell i j * sm 5 (fun t => A (Cl j) t * x t)) := by
  rw [← sm_mul]
  have : sm 5 (fun t => d * (A (Rl i) t * x t)) = sm 5 (fun t => sm n (fun j => cell i j * (A (Cl j) t * x t))) := sm_congr (fun t ht => by
    rw [← Int.mul_assoc, h.row hn hf hi hfr ht, ← sm_mulr]
    exact sm_congr (fun j _ => Int.mul_assoc ..))
  rw [this, sm_swap]
  exact sm_congr (fun j _ => sm_mul ..)
end VTX
/-- the number of a line's way -/
def vcode (l : Nat) (w : Int) : Nat := if 0 < w then 2 * l else 2 * l + 1
def cway (ab be : Nat → Int) (l : Nat) (w : Int) : Int := if 0 < w then ab l else be l
theorem slp_w {ab be : Nat → Int} {Rl : Nat → Nat} {side : Nat → Int} {i : Nat} (h : side i = 1 ∨ side i = -1) : slp ab be Rl side i = side i * cway ab be (Rl i) (side i) := by
  unfold slp cway
  rcases h with e | e <;> rw [e]
  · simp
  · simp
/-- Bland: the greatest way that changes cannot come in at one tableau and go out at another of the same point -/
theorem bland {A : Nat → Nat → Int} {K ab be : Nat → Int} {lev : Nat → Nat} {P : Nat → Bool} {n m Kl : Nat} {Cl Rl Cs Rs : Nat → Nat} {d ds : Int} {cell cells : Nat → Nat → Int} {rest rests side sides : Nat → Int}
    (hn : n ≤ 5) (h1 : ∀ l, 0 ≤ ab l) (h2 : ∀ l, 0 ≤ be l) (hF : ∀ l, l < 14 → P l = true → flat A n l)
    (hT : TI A K n m Cl Rl d cell rest) (hp : prt n m Cl Rl P) (hs : ∀ i, i < m → side i = 1 ∨ side i = -1) (hg : ∀ i, i < m → 0 ≤ side i * rest i)
    (hT' : TI A K n m Cs Rs ds cells rests) (hp' : prt n m Cs Rs P) (hs' : ∀ i, i < m → sides i = 1 ∨ sides i = -1) (hg' : ∀ i, i < m → 0 ≤ sides i * rests i)
    {X : Nat → Int} {Xq : Int} (hq0 : 0 < Xq) (hX : ∀ j, j < n → gp A K (Cl j) X Xq = 0) (hX' : ∀ j, j < n → gp A K (Cs j) X Xq = 0)
    {q : Nat} {w : Int} (hq : q < n) (hw : w = 1 ∨ w = -1) (hlt : lng Kl (chg ab be lev Cl Rl m d cell side q w)) (hmin : ∀ j, j < n → ∀ v : Int, (v = 1 ∨ v = -1) → vcode (Cl j) v < vcode (Cl q) w → lxn Kl (chg ab be lev Cl Rl m d cell side j v))
    {qs : Nat} {ws : Int} (hqs : qs < n) (hws : ws = 1 ∨ ws = -1) (hlts : lng Kl (chg ab be lev Cs Rs m ds cells sides qs ws)) (hsm : vcode (Cs qs) ws < vcode (Cl q) w)
    {r : Nat} (hr : r < m) (htr : Rs r = Cl q ∧ sides r = w) (hsp : sides r * (ws * cells r qs) < 0) (hbest : ∀ i, i < m → rests i = 0 → sides i * (ws * cells i qs) < 0 → Rs r ≤ Rs i)
    (hfix : ∀ i, i < m → (¬ ∃ k, k < m ∧ Rl k = Rs i ∧ side k = sides i) → vcode (Rs i) (sides i) ≤ vcode (Cl q) w) : False := by
  have hd := hT.pos
  have hds := hT'.pos
  have fc : ∀ j, j < n → flat A n (Cl j) := fun j hj => hF _ (hp.1 j hj).1 (hp.1 j hj).2
  have fr : ∀ i, i < m → flat A n (Rl i) := fun i hi => hF _ (hp.2.1 i hi).1 (hp.2.1 i hi).2
  have fc' : ∀ j, j < n → flat A n (Cs j) := fun j hj => hF _ (hp'.1 j hj).1 (hp'.1 j hj).2
  have fr' : ∀ i, i < m → flat A n (Rs i) := fun i hi => hF _ (hp'.2.1 i hi).1 (hp'.2.1 i hi).2
  obtain ⟨x, x1, x2⟩ := hT'.dir hn fc' fr' hqs ws
  -- each line's rate
  let h : Nat → Int := fun l => sm 5 (fun t => A l t * x t)
  have hC' : ∀ j, j < n → h (Cs j) = if j = qs then ds * ws else 0 := x1
  have hR' : ∀ i, i < m → h (Rs i) = ws * cells i qs := x2
  -- values at the point
  have val' : ∀ i, i < m → ds * gp A K (Rs i) X Xq = rests i * Xq := fun i hi => by
    rw [hT'.gap hn fc' hi (fr' i hi) X Xq, sm_0 (fun j hj => by rw [hX' j hj, Int.mul_zero]), Int.add_zero]
  have val : ∀ i, i < m → d * gp A K (Rl i) X Xq = rest i * Xq := fun i hi => by
    rw [hT.gap hn fc hi (fr i hi) X Xq, sm_0 (fun j hj => by rw [hX j hj, Int.mul_zero]), Int.add_zero]
  have rz : ∀ i, i < m → gp A K (Rs i) X Xq = 0 → rests i = 0 := fun i hi hz => by
    have := val' i hi
    rw [hz, Int.mul_zero] at this
    rcases Int.mul_eq_zero.mp this.symm with e | e
    · exact e
    · omega
  -- a row of the second tableau whose way is none of the first's: it does not go towards 0
  have nn : ∀ i, i < m → rests i = 0 → vcode (Rs i) (sides i) < vcode (Cl q) w → 0 ≤ sides i * h (Rs i) := fun i hi hz hc => by
    rw [hR' i hi]
    apply Classical.byContradiction
    intro hneg
    have hle := hbest i hi hz (by omega)
    by_cases e : Rs r = Rs i
    · have := hp'.2.2.2.1 r i hr hi e
      subst this
      rw [htr.1, htr.2] at hc
      omega
    · rw [← htr.1] at hc
      unfold vcode at hc
      split at hc <;> split at hc <;> omega
  -- each line's share of the cost's rate
  have share : ∀ l, l < 14 → P l = true → ∃ o : Int, (∀ j, j < n → Cs j = l → o = if j = qs then ds * cway ab be l ws else 0) ∧ (∀ i, i < m → Rs i = l → o = sides i * cway ab be l (sides i) * h l) := fun l hl hP => by
    rcases hp'.2.2.2.2.2 l hl hP with ⟨j, hj, e⟩ | ⟨i, hi, e⟩
    · refine ⟨if j = qs then ds * cway ab be l ws else 0, fun k hk ek => ?_, fun k hk ek => absurd (ek.trans e.symm) (hp'.2.2.2.2.1 k j hk hj)⟩
      have := hp'.2.2.1 j k hj hk (e.trans ek.symm)
      subst this; rfl
    · refine ⟨sides i * cway ab be l (sides i) * h l, fun k hk ek => absurd (e.trans ek.symm) (hp'.2.2.2.2.1 i k hi hk), fun k hk ek => ?_⟩
      have := hp'.2.2.2.1 i k hi hk (e.trans ek.symm)
      subst this; rfl
  -- choose it as a function
  have share2 : ∃ o : Nat → Int, ∀ l, l < 14 → P l = true → (∀ j, j < n → Cs j = l → o l = if j = qs then ds * cway ab be l ws else 0) ∧ (∀ i, i < m → Rs i = l → o l = sides i * cway ab be l (sides i) * h l) := by
    refine ⟨fun l => if hl : l < 14 ∧ P l = true then (share l hl.1 hl.2).choose else 0, fun l hl hP => ?_⟩
    simp only [hl, hP, and_self, dif_pos]
    exact (share l hl hP).choose_spec
  obtain ⟨o, ho⟩ := share2
  have zs : ∀ L, chg ab be lev Cs Rs m ds cells sides qs ws L = sm 14 (fun l => ind (P l = true ∧ lev l = L) (o l)) := fun L => by
    rw [prt_sm hp' (fun l _ hn => by unfold ind; rw [if_neg (fun z => hn z.1)])]
    unfold chg grw
    congr 1
    · rw [← sm_mul]
      exact sm_congr (fun i hi => by
        have hP := hp'.2.1 i hi
        rw [(ho _ hP.1 hP.2).2 i hi rfl, hR' i hi, slp_w (hs' i hi)]
        unfold ind
        by_cases e : lev (Rs i) = L
        · simp [e, hP.2]; grind
        · simp [e])
    · rw [sm_one hqs (fun j hj hne => by
        have hP := hp'.1 j hj
        rw [(ho _ hP.1 hP.2).1 j hj rfl, if_neg hne]
        unfold ind; simp)]
      have hP := hp'.1 qs hqs
      rw [(ho _ hP.1 hP.2).1 qs hqs rfl, if_pos rfl]
      unfold ind cway
      simp [hP.2]
  have main : ∀ L, d * chg ab be lev Cs Rs m ds cells sides qs ws L = sm m (fun i => ind (lev (Rl i) = L) (d * (o (Rl i) - slp ab be Rl side i * h (Rl i)))) + sm n (fun j => grw ab be lev Rl m cell side L j * h (Cl j) + ind (lev (Cl j) = L) (d * o (Cl j))) := fun L => by
    rw [zs L, prt_sm hp (fun l _ hn => by unfold ind; rw [if_neg (fun z => hn z.1)]), Int.mul_add, sm_add, ← sm_mul, ← sm_mul]
    have e1 : sm n (fun j => grw ab be lev Rl m cell side L j * h (Cl j)) = sm m (fun i => ind (lev (Rl i) = L) (d * (slp ab be Rl side i * h (Rl i)))) := by
      have : sm n (fun j => grw ab be lev Rl m cell side L j * h (Cl j)) = sm m (fun i => sm n (fun j => ind (lev (Rl i) = L) (slp ab be Rl side i * cell i j * h (Cl j)))) := by
        rw [sm_swap]
        exact sm_congr (fun j _ => by
          unfold grw
          rw [← sm_mulr]
          exact sm_congr (fun i _ => by unfold ind; by_cases h : lev (Rl i) = L <;> simp [h]))
      rw [this]
      exact sm_congr (fun i hi => by
        rw [← ind_sm]
        congr 1
        have := hT.lin hn fc hi (fr i hi) x
        rw [show d * (slp ab be Rl side i * h (Rl i)) = slp ab be Rl side i * (d * h (Rl i)) by grind]
        rw [show d * h (Rl i) = sm n (fun j => cell i j * h (Cl j)) from this, ← sm_mul]
        exact sm_congr (fun j _ => by grind))
    rw [e1]
    have e2 : sm m (fun i => d * ind (P (Rl i) = true ∧ lev (Rl i) = L) (o (Rl i))) = sm m (fun i => ind (lev (Rl i) = L) (d * (o (Rl i) - slp ab be Rl side i * h (Rl i)))) + sm m (fun i => ind (lev (Rl i) = L) (d * (slp ab be Rl side i * h (Rl i)))) := by
      rw [← sm_add]
      exact sm_congr (fun i hi => by
        have hP := (hp.2.1 i hi).2
        unfold ind
        by_cases e : lev (Rl i) = L
        · simp [e, hP]; grind
        · simp [e])
    have e3 : sm n (fun j => d * ind (P (Cl j) = true ∧ lev (Cl j) = L) (o (Cl j))) = sm n (fun j => ind (lev (Cl j) = L) (d * o (Cl j))) := sm_congr (fun j hj => by
        have hP := (hp.1 j hj).2
        unfold ind
        by_cases e : lev (Cl j) = L
        · simp [e, hP]
        · simp [e])
    rw [e2, e3]
    omega
  have fin : lxn Kl (fun L => d * chg ab be lev Cs Rs m ds cells sides qs ws L) := by
    refine lxn_congr (fun L _ => (main L).symm) (lxn_add (lxn_nn (fun L _ => sm_nn (fun i hi => ?_))) (lxn_sm (v := fun j L => grw ab be lev Rl m cell side L j * h (Cl j) + ind (lev (Cl j) = L) (d * o (Cl j))) (fun j hj => ?_)))
    · -- a row of the first
      have hPl := hp.2.1 i hi
      have key : 0 ≤ o (Rl i) - slp ab be Rl side i * h (Rl i) := by
        rw [slp_w (hs i hi)]
        rcases hp'.2.2.2.2.2 _ hPl.1 hPl.2 with ⟨j, hj, e⟩ | ⟨k, hk, e⟩
        · rw [(ho _ hPl.1 hPl.2).1 j hj e, ← e, hC' j hj]
          by_cases z : j = qs
          · rw [if_pos z, if_pos z]
            have c1 : 0 ≤ cway ab be (Cs j) ws := by unfold cway; split <;> first | exact h1 _ | exact h2 _
            have c2 : 0 ≤ cway ab be (Cs j) (side i) := by unfold cway; split <;> first | exact h1 _ | exact h2 _
            by_cases sw : side i = ws
            · rw [sw]
              have ww : ws * ws = 1 := by rcases hws with e | e <;> rw [e] <;> rfl
              have : ds * cway ab be (Cs j) ws - ws * cway ab be (Cs j) ws * (ds * ws) = ds * cway ab be (Cs j) ws - (ws * ws) * (ds * cway ab be (Cs j) ws) := by grind
              rw [this, ww]; omega
            · have : side i * ws = -1 := by
                rcases hs i hi with e1 | e1 <;> rcases hws with e2 | e2 <;> rw [e1, e2] at sw ⊢ <;> first | rfl | exact absurd rfl sw
              have e5 : ds * cway ab be (Cs j) ws - side i * cway ab be (Cs j) (side i) * (ds * ws) = ds * cway ab be (Cs j) ws - (side i * ws) * (ds * cway ab be (Cs j) (side i)) := by grind
              rw [e5, this]
              have a1 := Int.mul_nonneg (Int.le_of_lt hds) c1
              have a2 := Int.mul_nonneg (Int.le_of_lt hds) c2
              omega
          · rw [if_neg z, if_neg z]; simp
        · rw [(ho _ hPl.1 hPl.2).2 k hk e]
          by_cases sw : side i = sides k
          · rw [sw]; omega
          · -- the other way stands in the second: it is 0 there
            have hz : gp A K (Rl i) X Xq = 0 := by
              have v1 := val i hi
              have v2 := val' k hk
              rw [e] at v2
              have g1 := hg i hi
              have g2 := hg' k hk
              have opp : sides k = - side i := by
                rcases hs i hi with e1 | e1 <;> rcases hs' k hk with e2 | e2 <;> rw [e1, e2] at sw ⊢ <;> first | rfl | exact absurd rfl sw
              rw [opp] at g2
              have s1 : 0 ≤ side i * gp A K (Rl i) X Xq := by
                apply Classical.byContradiction
                intro hneg
                have := Int.mul_neg_of_pos_of_neg hd (show side i * gp A K (Rl i) X Xq < 0 by omega)
                have e7 : d * (side i * gp A K (Rl i) X Xq) = side i * (d * gp A K (Rl i) X Xq) := by grind
                rw [e7, v1, ← Int.mul_assoc] at this
                have := Int.mul_nonneg g1 (Int.le_of_lt hq0)
                omega
              have s2 : side i * gp A K (Rl i) X Xq ≤ 0 := by
                apply Classical.byContradiction
                intro hpos
                have := Int.mul_pos hds (show 0 < side i * gp A K (Rl i) X Xq by omega)
                have e7 : ds * (side i * gp A K (Rl i) X Xq) = side i * (ds * gp A K (Rl i) X Xq) := by grind
                rw [e7, v2, ← Int.mul_assoc] at this
                have h8 := Int.mul_nonneg g2 (Int.le_of_lt hq0)
                have e8 : -side i * rests k * Xq = -(side i * rests k * Xq) := by grind
                omega
              rcases hs i hi with e1 | e1 <;> rw [e1] at s1 s2 <;> omega
            have hrz := rz k hk (by rw [e]; exact hz)
            have hcode := hfix k hk (fun ⟨k2, hk2, e3, e4⟩ => by
              have := hp.2.2.2.1 k2 i hk2 hi (e3.trans e)
              subst this
              exact sw e4)
            have hne : vcode (Rs k) (sides k) ≠ vcode (Cl q) w := fun z => by
              have : Rs k = Cl q := by
                unfold vcode at z
                split at z <;> split at z <;> omega
              exact hp.2.2.2.2.1 i q hi hq (e.symm.trans this)
            have hnn := nn k hk hrz (by omega)
            have opp : sides k = - side i := by
              rcases hs i hi with e1 | e1 <;> rcases hs' k hk with e2 | e2 <;> rw [e1, e2] at sw ⊢ <;> first | rfl | exact absurd rfl sw
            rw [e] at hnn
            have c1 : 0 ≤ cway ab be (Rl i) (sides k) := by unfold cway; split <;> first | exact h1 _ | exact h2 _
            have c2 : 0 ≤ cway ab be (Rl i) (side i) := by unfold cway; split <;> first | exact h1 _ | exact h2 _
            have e9 : side i = -(sides k) := by omega
            have e10 : sides k * cway ab be (Rl i) (sides k) * h (Rl i) - side i * cway ab be (Rl i) (side i) * h (Rl i) = (sides k * h (Rl i)) * (cway ab be (Rl i) (sides k) + cway ab be (Rl i) (side i)) := by
              generalize cway ab be (Rl i) (sides k) = c3
              generalize cway ab be (Rl i) (side i) = c4
              rw [e9]
              grind
            rw [e10]
            exact Int.mul_nonneg hnn (by omega)
      have := Int.mul_nonneg (Int.le_of_lt hd) key
      unfold ind
      split <;> omega
    · -- a column of the first
      have hPl := hp.1 j hj
      have form : ∀ (v : Int) (g : Int), (v = 1 ∨ v = -1) → h (Cl j) = v * g → o (Cl j) = g * cway ab be (Cl j) v → (fun L => grw ab be lev Rl m cell side L j * h (Cl j) + ind (lev (Cl j) = L) (d * o (Cl j))) = (fun L => g * chg ab be lev Cl Rl m d cell side j v L) := fun v g hv e1 e2 => by
        funext L
        rw [e1, e2]
        unfold chg cway ind
        by_cases e : lev (Cl j) = L
        · simp only [if_pos e]; grind
        · simp only [if_neg e]; grind
      rcases hp'.2.2.2.2.2 _ hPl.1 hPl.2 with ⟨k, hk, e⟩ | ⟨k, hk, e⟩
      · have o1 := (ho _ hPl.1 hPl.2).1 k hk e
        have h3 := hC' k hk
        rw [e] at h3
        by_cases z : k = qs
        · rw [if_pos z] at o1 h3
          rw [form ws ds hws (by rw [h3]; grind) o1]
          exact lxn_mul (Int.le_of_lt hds) (hmin j hj ws hws (by rw [← e, z]; exact hsm))
        · rw [if_neg z] at o1 h3
          rw [form 1 0 (Or.inl rfl) (by rw [h3]; omega) (by rw [o1]; omega)]
          exact lxn_nn (fun L _ => by omega)
      · have o1 := (ho _ hPl.1 hPl.2).2 k hk e
        have ss : sides k * sides k = 1 := by rcases hs' k hk with e1 | e1 <;> rw [e1] <;> rfl
        have f1 := form (sides k) (sides k * h (Cl j)) (hs' k hk) (by rw [← Int.mul_assoc, ss, Int.one_mul]) (by rw [o1]; grind)
        rw [f1]
        have hrz := rz k hk (by rw [e]; exact hX j hj)
        have hcode := hfix k hk (fun ⟨k2, hk2, e3, e4⟩ => hp.2.2.2.2.1 k2 j hk2 hj (e3.trans e))
        by_cases hc : vcode (Rs k) (sides k) = vcode (Cl q) w
        · -- the greatest itself
          have e3 : Rs k = Cl q ∧ sides k = w := by
            have hk1 := hs' k hk
            unfold vcode at hc
            rcases hk1 with e1 | e1 <;> rcases hw with e2 | e2 <;> rw [e1, e2] at hc ⊢ <;> simp at hc ⊢ <;> omega
          have hjq : j = q := hp.2.2.1 j q hj hq (e.symm.trans e3.1)
          have hkr : k = r := hp'.2.2.2.1 k r hk hr (e3.1.trans htr.1.symm)
          subst hjq; subst hkr
          have hneg : sides k * h (Cl j) < 0 := by
            rw [← e, hR' k hk]; exact hsp
          rw [e3.2] at hneg ⊢
          have := lng_neg (lng_mul (c := -(w * h (Cl j))) (by omega) hlt)
          exact lxn_congr (fun L _ => by grind) this
        · have hnn := nn k hk hrz (by omega)
          rw [e] at hnn
          exact lxn_mul hnn (hmin j hj _ (hs' k hk) (by rw [← e]; omega))
  exact lxn_not Kl _ fin (lng_mul hd hlts)
