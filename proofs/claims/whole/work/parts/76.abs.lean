/-! fractions; how far off; the point that is chosen -/
def low (x d what : Int) : Int := if what = 0 then x.tdiv (Int.gcd x d) else d.tdiv (Int.gcd x d)
theorem low_eq {x d y r : Int} (hd : 0 < d) (hr : 0 < r) (h : r * x = d * y) (what : Int) : low x d what = low y r what := by
  have e1 : Int.gcd (r * x) (r * d) = r.natAbs * Int.gcd x d := Int.gcd_mul_left r x d
  have e2 : Int.gcd (d * y) (d * r) = d.natAbs * Int.gcd y r := Int.gcd_mul_left d y r
  rw [h, Int.mul_comm r d, e2] at e1
  have e3 : d * (Int.gcd y r : Int) = r * (Int.gcd x d : Int) := by
    have h1 : ((d.natAbs * Int.gcd y r : Nat) : Int) = ((r.natAbs * Int.gcd x d : Nat) : Int) := by rw [e1]
    rw [Int.natCast_mul, Int.natCast_mul, Int.natAbs_of_nonneg (Int.le_of_lt hd), Int.natAbs_of_nonneg (Int.le_of_lt hr)] at h1
    exact h1
  have gx : (Int.gcd x d : Int) ≠ 0 := fun z => by
    have : Int.gcd x d = 0 := by omega
    have := (Int.gcd_eq_zero_iff.mp this).2
    omega
  have gy : (Int.gcd y r : Int) ≠ 0 := fun z => by
    have : Int.gcd y r = 0 := by omega
    have := (Int.gcd_eq_zero_iff.mp this).2
    omega
  obtain ⟨x', hx'⟩ := Int.gcd_dvd_left (a := x) (b := d)
  obtain ⟨d', hd'⟩ := Int.gcd_dvd_right (a := x) (b := d)
  obtain ⟨y', hy'⟩ := Int.gcd_dvd_left (a := y) (b := r)
  obtain ⟨r', hr'⟩ := Int.gcd_dvd_right (a := y) (b := r)
  unfold low
  generalize hG : (Int.gcd x d : Int) = G at *
  generalize hH : (Int.gcd y r : Int) = H at *
  have k1 : d' = r' := by
    have : G * H * d' = G * H * r' := by
      have a : d * H = r * G := e3
      rw [hd', hr'] at a
      grind
    exact Int.eq_of_mul_eq_mul_left (Int.mul_ne_zero gx gy) this
  have k2 : x' = y' := by
    have a1 : d * (G * H * x') = d * (G * H * y') := by
      have b1 : d * (G * H * x') = (d * H) * x := by rw [hx']; grind
      rw [b1, e3]
      have b2 : r * G * x = G * (r * x) := by grind
      rw [b2, h, hy']; grind
    have a2 := Int.eq_of_mul_eq_mul_left (show d ≠ 0 by omega) a1
    exact Int.eq_of_mul_eq_mul_left (Int.mul_ne_zero gx gy) a2
  by_cases c : what = 0
  · rw [if_pos c, if_pos c]
    rw [hx', hy', Int.mul_tdiv_cancel_left _ gx, Int.mul_tdiv_cancel_left _ gy, k2]
  · rw [if_neg c, if_neg c]
    rw [hd', hr', Int.mul_tdiv_cancel_left _ gx, Int.mul_tdiv_cancel_left _ gy, k1]
def pix (x d : Int) : Int := (2 * x + d) / (2 * d)
theorem pix_eq {x d y r : Int} (hd : 0 < d) (hr : 0 < r) (h : r * x = d * y) : pix x d = pix y r := by
  unfold pix
  rw [← Int.mul_ediv_mul_of_pos (2 * x + d) (2 * d) hr, ← Int.mul_ediv_mul_of_pos (2 * y + r) (2 * r) hd]
  have e1 : r * (2 * x + d) = d * (2 * y + r) := by
    have : r * (2 * x + d) = 2 * (r * x) + r * d := by grind
    rw [this, h]; grind
  have e2 : r * (2 * d) = d * (2 * r) := by grind
  rw [e1, e2]
theorem offV_mul {re x k : Int} (hk : 0 < k) : offV re (k * x) = k * offV re x := by
  have hs : k * x < 0 ↔ x < 0 := by
    constructor
    · intro h
      apply Classical.byContradiction
      intro hn
      have := Int.mul_nonneg (Int.le_of_lt hk) (show 0 ≤ x by omega)
      omega
    · intro h; exact Int.mul_neg_of_pos_of_neg hk h
  have hs2 : -(k * x) < 0 ↔ -x < 0 := by
    have e : -(k * x) = k * -x := by grind
    rw [e]
    constructor
    · intro h
      apply Classical.byContradiction
      intro hn
      have := Int.mul_nonneg (Int.le_of_lt hk) (show 0 ≤ -x by omega)
      omega
    · intro h; exact Int.mul_neg_of_pos_of_neg hk h
  unfold offV absI
  by_cases c1 : re = 1
  · rw [if_pos c1, if_pos c1]
    by_cases c : x < 0
    · rw [if_pos c, if_pos (hs.mpr c), Int.mul_zero]
    · rw [if_neg c, if_neg (fun z => c (hs.mp z))]
  · rw [if_neg c1, if_neg c1]
    by_cases c2 : re = 2
    · rw [if_pos c2, if_pos c2]
      by_cases c : -x < 0
      · rw [if_pos c, if_pos (hs2.mpr c), Int.mul_zero]
      · rw [if_neg c, if_neg (fun z => c (hs2.mp z))]; grind
    · rw [if_neg c2, if_neg c2]
      by_cases c : x < 0
      · rw [if_pos c, if_pos (hs.mpr c)]; grind
      · rw [if_neg c, if_neg (fun z => c (hs.mp z))]
theorem offV_nn (re x : Int) : 0 ≤ offV re x := by
  unfold offV absI
  split
  · split <;> omega
  · split
    · split <;> omega
    · split <;> omega
def gW (c : Cg) (n w : Nat) (X : Nat → Int) (q : Int) : Int := sm n (fun t => c.1 w t * X t) - c.2.2.2.2.1 w * q
theorem gW_eq {c : Cg} {n w : Nat} {X Y : Nat → Int} {d r : Int} (h : ∀ e, e < n → r * X e = d * Y e) : r * gW c n w X d = d * gW c n w Y r := by
  unfold gW
  have e1 : r * (sm n (fun t => c.1 w t * X t) - c.2.2.2.2.1 w * d) = sm n (fun t => c.1 w t * (r * X t)) - c.2.2.2.2.1 w * (d * r) := by
    rw [Int.mul_sub, ← sm_mul]
    congr 1
    · exact sm_congr (fun t _ => by grind)
    · grind
  have e2 : d * (sm n (fun t => c.1 w t * Y t) - c.2.2.2.2.1 w * r) = sm n (fun t => c.1 w t * (d * Y t)) - c.2.2.2.2.1 w * (d * r) := by
    rw [Int.mul_sub, ← sm_mul]
    congr 1
    · exact sm_congr (fun t _ => by grind)
    · grind
  rw [e1, e2, sm_congr (fun t ht => by rw [h t ht])]
theorem lcst_off {c : Cg} {n : Nat} {S : Nat → Bool} (hB : cB c n) {w : Nat} (hw : w < 9) (hS : S w = true) (x : Int) : lcst (cab c n S w) (cbe c n S w) x = c.2.2.2.1 w * offV (c.2.1 w) x := by
  have hre := (hB.2.2.1 w hw).1
  have e1 : cab c n S w = if c.2.1 w = 2 then 0 else c.2.2.2.1 w := by
    unfold cab lab
    rw [if_pos hw]
    by_cases z : c.2.1 w = 2
    · rw [if_pos z, if_neg (fun y => y.2 z)]
    · rw [if_neg z, if_pos ⟨hS, z⟩]
  have e2 : cbe c n S w = if c.2.1 w = 1 then 0 else c.2.2.2.1 w := by
    unfold cbe lbe
    rw [if_pos hw]
    by_cases z : c.2.1 w = 1
    · rw [if_pos z, if_neg (fun y => y.2 z)]
    · rw [if_neg z, if_pos ⟨hS, z⟩]
  rw [e1, e2]
  unfold lcst offV absI
  by_cases c1 : c.2.1 w = 1
  · rw [if_neg (show ¬ c.2.1 w = 2 by omega), if_pos c1, if_pos c1]
    by_cases z : x < 0
    · rw [if_neg (show ¬ 0 ≤ x by omega), if_pos z, Int.zero_mul, Int.mul_zero]
    · rw [if_pos (show 0 ≤ x by omega), if_neg z]
  · rw [if_neg c1, if_neg c1]
    by_cases c2 : c.2.1 w = 2
    · rw [if_pos c2, if_pos c2]
      by_cases z : -x < 0
      · rw [if_pos (show 0 ≤ x by omega), if_pos z, Int.zero_mul, Int.mul_zero]
      · rw [if_neg z]
        by_cases y : x = 0
        · rw [if_pos (show 0 ≤ x by omega), y]; omega
        · rw [if_neg (show ¬ 0 ≤ x by omega)]
    · rw [if_neg c2, if_neg c2]
      by_cases z : x < 0
      · rw [if_neg (show ¬ 0 ≤ x by omega), if_pos z]
      · rw [if_pos (show 0 ≤ x by omega), if_neg z]
/-- the cost of a level of wishes -/
theorem cT_off {c : Cg} {n : Nat} {S : Nat → Bool} (hB : cB c n) {L : Nat} (hL : L < 4) (X : Nat → Int) (q : Int) : cT c n S L X q = sm 9 (fun w => ind (S w = true ∧ (c.2.2.1 w).toNat = L) (c.2.2.2.1 w * offV (c.2.1 w) (gW c n w X q))) := by
  have hl : ∀ w, w < 9 → ind (lP n S w = true ∧ clv c S w = L) (lcst (cab c n S w) (cbe c n S w) (gp (cA c n S) (cK c n S) w X q)) = ind (S w = true ∧ (c.2.2.1 w).toNat = L) (c.2.2.2.1 w * offV (c.2.1 w) (gW c n w X q)) := fun w hw => by
    have e1 : lP n S w = S w := by unfold lP; rw [if_pos hw]
    rw [e1]
    unfold ind
    by_cases z : S w = true
    · have e2 : clv c S w = (c.2.2.1 w).toNat := by unfold clv llv; rw [if_pos hw, if_pos z]
      rw [e2]
      by_cases y : (c.2.2.1 w).toNat = L
      · rw [if_pos ⟨z, y⟩, if_pos ⟨z, y⟩, lcst_off hB hw z, gp_wish c S hB.1 hw z]
        rfl
      · rw [if_neg (fun x => y x.2), if_neg (fun x => y x.2)]
    · rw [if_neg (fun x => z x.1), if_neg (fun x => z x.1)]
  have hh : ∀ l, 9 ≤ l → ind (lP n S l = true ∧ clv c S l = L) (lcst (cab c n S l) (cbe c n S l) (gp (cA c n S) (cK c n S) l X q)) = 0 := fun l hl9 => by
    unfold ind
    rw [if_neg (fun z => by
      have := z.2
      unfold clv llv at this
      rw [if_neg (by omega)] at this
      omega)]
  unfold cT tot
  show sm 9 _ + _ + _ + _ + _ + _ = _
  dsimp only
  rw [hh 9 (by omega), hh 10 (by omega), hh 11 (by omega), hh 12 (by omega), hh 13 (by omega), sm_congr hl]
  omega
theorem sm_each {n : Nat} {f : Nat → Int} (h : ∀ i, i < n → 0 ≤ f i) (hz : sm n f = 0) : ∀ i, i < n → f i = 0 := fun i hi => by
  have := sm_le1 (f := f) hi h
  have := h i hi
  omega
/-- can be met: in plain words -/
theorem sat_iff {c : Cg} {n : Nat} {S : Nat → Bool} (hB : cB c n) (hw1 : ∀ w, w < 9 → S w = true → 1 ≤ c.2.2.2.1 w) : cSat c n S ↔ ∃ (Y : Nat → Int) (r : Int), 0 < r ∧ ∀ w, w < 9 → S w = true → c.2.2.1 w = 0 → offV (c.2.1 w) (gW c n w Y r) = 0 := by
  constructor
  · rintro ⟨Y, r, hr, h⟩
    refine ⟨Y, r, hr, fun w hw hS hl => ?_⟩
    rw [cT_off hB (by omega)] at h
    have := sm_each (f := fun w => ind (S w = true ∧ (c.2.2.1 w).toNat = 0) (c.2.2.2.1 w * offV (c.2.1 w) (gW c n w Y r))) (fun i hi => by
      unfold ind
      split
      · exact Int.mul_nonneg (hB.2.2.1 i hi).2.2.1.1 (offV_nn _ _)
      · omega) h w hw
    simp only [ind] at this
    rw [if_pos ⟨hS, by rw [hl]; rfl⟩] at this
    rcases Int.mul_eq_zero.mp this with z | z
    · have := hw1 w hw hS; omega
    · exact z
  · rintro ⟨Y, r, hr, h⟩
    refine ⟨Y, r, hr, ?_⟩
    rw [cT_off hB (by omega)]
    exact sm_0 (fun w hw => by
      unfold ind
      split
      · rename_i z
        have := (hB.2.2.1 w hw).2.1
        rw [h w hw z.1 (by omega), Int.mul_zero]
      · rfl)
/-- only musts tell -/
theorem sat_must {c : Cg} {n : Nat} {S S' : Nat → Bool} (hB : cB c n) (hw1 : ∀ w, w < 9 → S w = true → 1 ≤ c.2.2.2.1 w) (h : ∀ w, w < 9 → (S' w = true ↔ S w = true ∧ c.2.2.1 w = 0)) : cSat c n S' ↔ cSat c n S := by
  rw [sat_iff hB hw1, sat_iff hB (fun w hw z => hw1 w hw ((h w hw).mp z).1)]
  constructor
  · rintro ⟨Y, r, hr, k⟩
    exact ⟨Y, r, hr, fun w hw hS hl => k w hw ((h w hw).mpr ⟨hS, hl⟩) hl⟩
  · rintro ⟨Y, r, hr, k⟩
    exact ⟨Y, r, hr, fun w hw hS hl => k w hw ((h w hw).mp hS).1 hl⟩
/-- a best point -/
noncomputable def oP (c : Cg) (n : Nat) (S : Nat → Bool) : (Nat → Int) × Int := Classical.epsilon (fun p : (Nat → Int) × Int => cOpt c n S (4 + n) p.1 p.2)
theorem oP_opt {c : Cg} {n : Nat} {S : Nat → Bool} (hB : cB c n) (hS : ∀ l, 9 ≤ l → S l = false) : cOpt c n S (4 + n) (oP c n S).1 (oP c n S).2 := by
  have h := optE hB (bo_lt (S := S) 9 (by omega)) (show 4 + n ≤ 9 by have := hB.1; omega)
  rw [bo_S hS] at h
  obtain ⟨Cl, X, d, _, _, _, _, ho⟩ := h
  exact Classical.epsilon_spec (p := fun p : (Nat → Int) × Int => cOpt c n S (4 + n) p.1 p.2) ⟨(X, d), ho⟩
/-- what is told of a best point is told of the chosen one -/
theorem oP_eq {c : Cg} {n : Nat} {S : Nat → Bool} (hB : cB c n) (hS : ∀ l, 9 ≤ l → S l = false) {X : Nat → Int} {d : Int} (h : cOpt c n S (4 + n) X d) : (∀ e, e < n → ∀ what, low (X e) d what = low ((oP c n S).1 e) (oP c n S).2 what) ∧ (∀ e, e < n → pix (X e) d = pix ((oP c n S).1 e) (oP c n S).2) ∧ (∀ w what, low (offV (c.2.1 w) (gW c n w X d)) d what = low (offV (c.2.1 w) (gW c n w (oP c n S).1 (oP c n S).2)) (oP c n S).2 what) ∧ (∀ L, L < 4 → ∀ what, low (cT c n S L X d) d what = low (cT c n S L (oP c n S).1 (oP c n S).2) (oP c n S).2 what) ∧ (∀ w, (oP c n S).2 * offV (c.2.1 w) (gW c n w X d) = d * offV (c.2.1 w) (gW c n w (oP c n S).1 (oP c n S).2)) ∧ 0 < (oP c n S).2 := by
  have ho := oP_opt hB hS
  obtain ⟨e1, e2⟩ := cOpt_eq hB h ho
  have ew : ∀ w, (oP c n S).2 * offV (c.2.1 w) (gW c n w X d) = d * offV (c.2.1 w) (gW c n w (oP c n S).1 (oP c n S).2) := fun w => by
    rw [← offV_mul ho.1, ← offV_mul h.1, gW_eq e1]
  exact ⟨fun e he what => low_eq h.1 ho.1 (e1 e he) what, fun e he => pix_eq h.1 ho.1 (e1 e he), fun w what => low_eq h.1 ho.1 (ew w) what, fun L hL what => low_eq h.1 ho.1 (e2 L (by omega)).symm what, ew, ho.1⟩
