/-! sets of lines, and the best of their points -/
def cbt (T : Nat) : Nat → Nat
  | 0 => 0
  | k + 1 => cbt T k + if T.testBit k = true then 1 else 0
theorem cbt_mono (T : Nat) {k j : Nat} (h : k ≤ j) : cbt T k ≤ cbt T j := by
  induction j with
  | zero => rw [show k = 0 by omega]; exact Nat.le_refl _
  | succ j ih =>
    by_cases e : k = j + 1
    · rw [e]; exact Nat.le_refl _
    · have := ih (by omega)
      show _ ≤ cbt T j + _
      omega
theorem cbt_sm (T k : Nat) : ((cbt T k : Nat) : Int) = sm k (fun l => if T.testBit l = true then 1 else 0) := by
  induction k with
  | zero => rfl
  | succ k ih =>
    show ((cbt T k + if T.testBit k = true then 1 else 0 : Nat) : Int) = sm k _ + _
    rw [← ih]
    by_cases e : T.testBit k = true
    · simp [e]
    · simp [e]
def bsF (F : Nat → Bool) : Nat → Nat
  | 0 => 0
  | k + 1 => if F k = true then 2 ^ k + bsF F k else bsF F k
theorem bsF_lt (F : Nat → Bool) : ∀ k, bsF F k < 2 ^ k
  | 0 => by show 0 < 1; omega
  | k + 1 => by
    have ih := bsF_lt F k
    have : 2 ^ (k + 1) = 2 ^ k + 2 ^ k := by rw [Nat.pow_succ]; omega
    unfold bsF
    split <;> omega
theorem bsF_t (F : Nat → Bool) : ∀ k l, l < k → (bsF F k).testBit l = F l
  | 0, l, h => by omega
  | k + 1, l, h => by
    unfold bsF
    by_cases e : l = k
    · subst e
      split
      · rename_i hF
        rw [Nat.testBit_two_pow_add_eq, Nat.testBit_lt_two_pow (bsF_lt F l), hF]; rfl
      · rename_i hF
        rw [Nat.testBit_lt_two_pow (bsF_lt F l)]
        cases hh : F l with
        | true => exact absurd hh hF
        | false => rfl
    · have ih := bsF_t F k l (by omega)
      split
      · rw [Nat.testBit_two_pow_add_gt (by omega)]; exact ih
      · exact ih
section SET
variable {c : Cg} {n : Nat} {S : Nat → Bool}
theorem cT_sc (hn : n ≤ 5) {X Y : Nat → Int} {d r : Int} (hd : 0 ≤ d) (hr : 0 ≤ r) (h : ∀ t, t < n → r * X t = d * Y t) (L : Nat) : r * cT c n S L X d = d * cT c n S L Y r := by
  refine same_tot hd hr (fun l _ _ => ?_) L
  unfold gp
  rw [sm_take hn (fun t h1 h2 => by rw [cA_flat c n S l t h1 h2, Int.zero_mul]), sm_take hn (fun t h1 h2 => by rw [cA_flat c n S l t h1 h2, Int.zero_mul])]
  have e1 : r * (sm n (fun t => cA c n S l t * X t) - cK c n S l * d) = sm n (fun t => cA c n S l t * (r * X t)) - cK c n S l * (d * r) := by
    rw [Int.mul_sub, ← sm_mul]
    congr 1
    · exact sm_congr (fun t _ => by grind)
    · grind
  have e2 : d * (sm n (fun t => cA c n S l t * Y t) - cK c n S l * r) = sm n (fun t => cA c n S l t * (d * Y t)) - cK c n S l * (d * r) := by
    rw [Int.mul_sub, ← sm_mul]
    congr 1
    · exact sm_congr (fun t _ => by grind)
    · grind
  rw [e1, e2, sm_congr (fun t ht => by rw [h t ht])]
theorem must_sc {X Y : Nat → Int} {d r : Int} (hd : 0 < d) (hr : 0 < r) (h : ∀ t, t < n → r * X t = d * Y t) (hm : mustOk c n S X d) : mustOk c n S Y r := fun w hw hS hl => by
  have := hm w hw hS hl
  have e : r * offV (c.2.1 w) (gW c n w X d) = d * offV (c.2.1 w) (gW c n w Y r) := by
    rw [← offV_mul hr, ← offV_mul hd, gW_eq h]
  rw [this, Int.mul_zero] at e
  rcases Int.mul_eq_zero.mp e.symm with z | z
  · omega
  · exact z
/-- X / d is where the lines of T meet, and the musts are met there -/
def okP (c : Cg) (n : Nat) (S : Nat → Bool) (T : Nat) (X : Nat → Int) (d : Int) : Prop := 0 < d ∧ (∀ l, l < 14 → T.testBit l = true → lP n S l = true) ∧ cbt T 14 = n ∧ (∀ l, l < 14 → T.testBit l = true → sm n (fun t => cA c n S l t * X t) = cK c n S l * d) ∧ (∀ x : Nat → Int, (∀ l, l < 14 → T.testBit l = true → sm n (fun t => cA c n S l t * x t) = 0) → ∀ t, t < n → x t = 0) ∧ mustOk c n S X d
theorem okP_eq {T : Nat} {X Y : Nat → Int} {d r : Int} (h : okP c n S T X d) (hY : ∀ l, l < 14 → T.testBit l = true → sm n (fun t => cA c n S l t * Y t) = cK c n S l * r) : ∀ t, t < n → r * X t = d * Y t := fun t ht => by
  obtain ⟨h1, h2, h3, h4, h5, h6⟩ := h
  have := h5 (fun t => r * X t - d * Y t) (fun l hl hT => by
    have e : sm n (fun t => cA c n S l t * (r * X t - d * Y t)) = r * sm n (fun t => cA c n S l t * X t) - d * sm n (fun t => cA c n S l t * Y t) := by
      rw [← sm_mul, ← sm_mul, ← sm_sub]
      exact sm_congr (fun t _ => by grind)
    rw [e, h4 l hl hT, hY l hl hT]
    grind) t ht
  have : r * X t - d * Y t = 0 := this
  omega
/-- what solve has found among the first T sets -/
def solJ (c : Cg) (n : Nat) (S : Nat → Bool) (T : Nat) (f : Int) (iv : mIv) : Prop := (f = 0 ∧ ∀ T', T' < T → ∀ X d, ¬ okP c n S T' X d) ∨ (f = 1 ∧ 0 < iv 66 16 ∧ iv 66 16 ≤ 29160 ∧ (∀ e, e < n → -17496000000 ≤ iv 78 e ∧ iv 78 e ≤ 17496000000) ∧ mustOk c n S (iv 78) (iv 66 16) ∧ (∀ k, k < 8 → iv 80 k = cT c n S (k + 1) (iv 78) (iv 66 16) ∧ 0 ≤ iv 80 k ∧ iv 80 k ≤ 36000000000000) ∧ ∀ T', T' < T → ∀ X d, okP c n S T' X d → lxn 8 (fun k => iv 66 16 * cT c n S (k + 1) X d - d * cT c n S (k + 1) (iv 78) (iv 66 16)))
theorem solJ_skip {T : Nat} {f : Int} {iv iv' : mIv} (h : solJ c n S T f iv) (hno : ∀ X d, ¬ okP c n S T X d) (e16 : iv' 66 16 = iv 66 16) (e78 : ∀ j, iv' 78 j = iv 78 j) (e80 : ∀ j, iv' 80 j = iv 80 j) : solJ c n S (T + 1) f iv' := by
  have e78' : iv' 78 = iv 78 := by funext j; exact e78 j
  rcases h with ⟨h1, h2⟩ | ⟨h1, h2, h3, h4, h5, h6, h7⟩
  · refine Or.inl ⟨h1, fun T' hT' X d => ?_⟩
    by_cases e : T' = T
    · rw [e]; exact hno X d
    · exact h2 T' (by omega) X d
  · refine Or.inr ⟨h1, by rw [e16]; exact h2, by rw [e16]; exact h3, by rw [e78']; exact h4, by rw [e78', e16]; exact h5, fun k hk => by rw [e80, e78', e16]; exact h6 k hk, fun T' hT' X d ho => ?_⟩
    rw [e78', e16]
    by_cases e : T' = T
    · rw [e] at ho; exact absurd ho (hno X d)
    · exact h7 T' (by omega) X d ho
theorem lxn_0 {K : Nat} {v : Nat → Int} (h : ∀ l, l < K → v l = 0) : lxn K v := lxn_nn (fun l hl => by rw [h l hl]; exact Int.le_refl 0)
/-- the point found is not less than the best -/
theorem solJ_keep {T : Nat} {iv iv' : mIv} {X1 : Nat → Int} {d1 : Int} (hn : n ≤ 5) (h : solJ c n S T 1 iv) (hd1 : 0 < d1) (hY : ∀ l, l < 14 → T.testBit l = true → sm n (fun t => cA c n S l t * X1 t) = cK c n S l * d1) (hlx : lxn 8 (fun k => iv 66 16 * cT c n S (k + 1) X1 d1 - d1 * cT c n S (k + 1) (iv 78) (iv 66 16))) (e16 : iv' 66 16 = iv 66 16) (e78 : ∀ j, iv' 78 j = iv 78 j) (e80 : ∀ j, iv' 80 j = iv 80 j) : solJ c n S (T + 1) 1 iv' := by
  have e78' : iv' 78 = iv 78 := by funext j; exact e78 j
  rcases h with ⟨h1, h2⟩ | ⟨h1, h2, h3, h4, h5, h6, h7⟩
  · omega
  · refine Or.inr ⟨rfl, by rw [e16]; exact h2, by rw [e16]; exact h3, by rw [e78']; exact h4, by rw [e78', e16]; exact h5, fun k hk => by rw [e80, e78', e16]; exact h6 k hk, fun T' hT' X d ho => ?_⟩
    rw [e78', e16]
    by_cases e : T' = T
    · rw [e] at ho
      have hsc := okP_eq ho hY
      have hc := fun k => cT_sc (c := c) (S := S) hn (Int.le_of_lt ho.1) (Int.le_of_lt hd1) hsc (k + 1)
      refine lxn_div (c := d1) hd1 (lxn_congr (fun k _ => ?_) (lxn_mul (Int.le_of_lt ho.1) hlx))
      have := hc k
      have a1 : d * (iv 66 16 * cT c n S (k + 1) X1 d1 - d1 * cT c n S (k + 1) (iv 78) (iv 66 16)) = iv 66 16 * (d * cT c n S (k + 1) X1 d1) - d1 * d * cT c n S (k + 1) (iv 78) (iv 66 16) := by grind
      have a2 : d1 * (iv 66 16 * cT c n S (k + 1) X d - d * cT c n S (k + 1) (iv 78) (iv 66 16)) = iv 66 16 * (d1 * cT c n S (k + 1) X d) - d1 * d * cT c n S (k + 1) (iv 78) (iv 66 16) := by grind
      rw [a1, a2, this]
    · exact h7 T' (by omega) X d ho
/-- a new best -/
theorem solJ_new {T : Nat} {f : Int} {iv iv' : mIv} (hn : n ≤ 5) (h : solJ c n S T f iv) (hD : 0 < iv' 66 16 ∧ iv' 66 16 ≤ 29160) (hb : ∀ e, e < n → -17496000000 ≤ iv' 78 e ∧ iv' 78 e ≤ 17496000000) (hm : mustOk c n S (iv' 78) (iv' 66 16)) (h80 : ∀ k, k < 8 → iv' 80 k = cT c n S (k + 1) (iv' 78) (iv' 66 16) ∧ 0 ≤ iv' 80 k ∧ iv' 80 k ≤ 36000000000000) (hY : ∀ l, l < 14 → T.testBit l = true → sm n (fun t => cA c n S l t * iv' 78 t) = cK c n S l * iv' 66 16) (hless : f = 1 → lng 8 (fun k => iv 66 16 * cT c n S (k + 1) (iv' 78) (iv' 66 16) - iv' 66 16 * cT c n S (k + 1) (iv 78) (iv 66 16))) : solJ c n S (T + 1) 1 iv' := by
  refine Or.inr ⟨rfl, hD.1, hD.2, hb, hm, h80, fun T' hT' X d ho => ?_⟩
  by_cases e : T' = T
  · rw [e] at ho
    have hsc := okP_eq ho hY
    have hc := fun k => cT_sc (c := c) (S := S) hn (Int.le_of_lt ho.1) (Int.le_of_lt hD.1) hsc (k + 1)
    exact lxn_0 (fun k _ => by rw [hc k]; omega)
  · rcases h with ⟨h1, h2⟩ | ⟨h1, h2, h3, h4, h5, h6, h7⟩
    · exact absurd ho (h2 T' (by omega) X d)
    · have o1 := h7 T' (by omega) X d ho
      have o2 := lng_neg (hless h1)
      refine lxn_div (c := iv 66 16) h2 (lxn_congr (fun k _ => ?_) (lxn_add (lxn_mul (Int.le_of_lt hD.1) o1) (lxn_mul (Int.le_of_lt ho.1) o2)))
      grind
theorem must_cT {X : Nat → Int} {d : Int} (hB : cB c n) (hw1 : ∀ w, w < 9 → S w = true → 1 ≤ c.2.2.2.1 w) : mustOk c n S X d ↔ cT c n S 0 X d = 0 := by
  rw [cT_off hB (by omega)]
  constructor
  · intro h
    exact sm_0 (fun w hw => by
      unfold ind
      split
      · rename_i z
        have := (hB.2.2.1 w hw).2.1
        rw [h w hw z.1 (by omega), Int.mul_zero]
      · rfl)
  · intro h w hw hS hl
    have := sm_each (f := fun w => ind (S w = true ∧ (c.2.2.1 w).toNat = 0) (c.2.2.2.1 w * offV (c.2.1 w) (gW c n w X d))) (fun i hi => by
      unfold ind
      split
      · exact Int.mul_nonneg (hB.2.2.1 i hi).2.2.1.1 (offV_nn _ _)
      · omega) h w hw
    simp only [ind] at this
    rw [if_pos ⟨hS, by rw [hl]; rfl⟩] at this
    rcases Int.mul_eq_zero.mp this with z | z
    · have := hw1 w hw hS; omega
    · exact z
/-- the best of all is among the sets -/
theorem opt_set {s : Nat} (hs : s < 512) (hB : cB c n) (hw1 : ∀ w, w < 9 → s.testBit w = true → 1 ≤ c.2.2.2.1 w) (hsat : cSat c n s.testBit) : ∃ (T : Nat) (X : Nat → Int) (d : Int), T < 16384 ∧ okP c n s.testBit T X d ∧ cOpt c n s.testBit (4 + n) X d := by
  have hn := hB.1
  obtain ⟨Cl, X, d, c1, c2, c3, c4, c5⟩ := optE hB hs (Kl := 4 + n) (by omega)
  have hF : ∀ l, ((List.range n).any (fun j => Nat.beq (Cl j) l)) = true ↔ ∃ j, j < n ∧ Cl j = l := fun l => by
    constructor
    · intro h
      obtain ⟨j, hj, e⟩ := List.any_eq_true.mp h
      exact ⟨j, List.mem_range.mp hj, bq e⟩
    · rintro ⟨j, hj, e⟩
      exact List.any_eq_true.mpr ⟨j, List.mem_range.mpr hj, by rw [e]; exact Nat.beq_refl l⟩
  generalize hFe : (fun l => (List.range n).any (fun j => Nat.beq (Cl j) l)) = F
  have hF' : ∀ l, F l = true ↔ ∃ j, j < n ∧ Cl j = l := fun l => by rw [← hFe]; exact hF l
  have ht : ∀ l, l < 14 → ((bsF F 14).testBit l = true ↔ ∃ j, j < n ∧ Cl j = l) := fun l hl => by rw [bsF_t F 14 l hl]; exact hF' l
  have hgp : ∀ j, j < n → sm n (fun t => cA c n s.testBit (Cl j) t * X t) = cK c n s.testBit (Cl j) * d := fun j hj => by
    have := c4 j hj
    unfold gp at this
    rw [sm_take hn (fun t h1 h2 => by rw [cA_flat c n s.testBit (Cl j) t h1 h2, Int.zero_mul])] at this
    omega
  refine ⟨bsF F 14, X, d, bsF_lt F 14, ⟨c5.1, fun l hl hT => ?_, ?_, fun l hl hT => ?_, fun x hx t ht' => ?_, ?_⟩, c5⟩
  · obtain ⟨j, hj, e⟩ := (ht l hl).mp hT
    rw [← e]; exact (c1 j hj).2
  · have : ((cbt (bsF F 14) 14 : Nat) : Int) = n := by
      rw [cbt_sm]
      have e1 : sm 14 (fun l => if (bsF F 14).testBit l = true then (1 : Int) else 0) = sm 14 (fun l => sm n (fun j => if Cl j = l then 1 else 0)) := sm_congr (fun l hl => by
        by_cases e : (bsF F 14).testBit l = true
        · obtain ⟨j, hj, e2⟩ := (ht l hl).mp e
          rw [if_pos e, sm_one hj (fun k hk hne => by rw [if_neg (fun z => hne (c2 k j hk hj (z.trans e2.symm)))]), if_pos e2]
        · rw [if_neg e, sm_0 (fun j hj => by rw [if_neg (fun z => e ((ht l hl).mpr ⟨j, hj, z⟩))])])
      rw [e1, sm_swap, sm_congr (g := fun _ => 1) (fun j hj => by
        rw [sm_one (k := Cl j) (c1 j hj).1 (fun l _ hne => by rw [if_neg (fun z => hne z.symm)]), if_pos rfl]), sm_const]
    omega
  · obtain ⟨j, hj, e⟩ := (ht l hl).mp hT
    rw [← e]; exact hgp j hj
  · exact free_0 hn (fun j _ => cA_flat c n s.testBit _) c3 (fun j hj => hx (Cl j) (c1 j hj).1 ((ht _ (c1 j hj).1).mpr ⟨j, hj, rfl⟩)) t ht'
  · rw [must_cT hB hw1]
    exact opt_sat hB (Kl := 3 + n) (by rw [show 3 + n + 1 = 4 + n by omega]; exact c5) hsat
theorem lxn_tail {K : Nat} {v : Nat → Int} (h0 : v 0 = 0) (h : lxn K (fun l => v (l + 1))) : lxn (K + 1) v := Or.inr ⟨h0, h⟩
theorem lxn_cut : ∀ {K M : Nat} {v : Nat → Int}, lxn (K + M) v → lxn K v
  | 0, _, _, _ => trivial
  | K + 1, M, v, h => by
    rw [show K + 1 + M = (K + M) + 1 by omega] at h
    rcases h with h | ⟨h, h2⟩
    · exact Or.inl h
    · exact Or.inr ⟨h, lxn_cut h2⟩
/-- at the end: found just if it can be, and the best of all -/
theorem solJ_end {s : Nat} {f : Int} {iv : mIv} (hs : s < 512) (hB : cB c n) (hw1 : ∀ w, w < 9 → s.testBit w = true → 1 ≤ c.2.2.2.1 w) (h : solJ c n s.testBit 16384 f iv) : (f = 0 ∧ ¬ cSat c n s.testBit) ∨ (f = 1 ∧ cSat c n s.testBit ∧ cOpt c n s.testBit (4 + n) (iv 78) (iv 66 16) ∧ iv 66 16 ≤ 29160 ∧ (∀ e, e < n → -17496000000 ≤ iv 78 e ∧ iv 78 e ≤ 17496000000) ∧ ∀ k, k < 8 → iv 80 k = cT c n s.testBit (k + 1) (iv 78) (iv 66 16) ∧ 0 ≤ iv 80 k ∧ iv 80 k ≤ 36000000000000) := by
  rcases h with ⟨h1, h2⟩ | ⟨h1, h2, h3, h4, h5, h6, h7⟩
  · refine Or.inl ⟨h1, fun hsat => ?_⟩
    obtain ⟨T, X, d, hT, ho, _⟩ := opt_set hs hB hw1 hsat
    exact h2 T hT X d ho
  · have hn := hB.1
    have hz : cT c n s.testBit 0 (iv 78) (iv 66 16) = 0 := (must_cT hB hw1).mp h5
    have hsat : cSat c n s.testBit := ⟨iv 78, iv 66 16, h2, hz⟩
    refine Or.inr ⟨h1, hsat, ⟨h2, fun Z r hr => ?_⟩, h3, h4, h6⟩
    obtain ⟨T, X, d, hT, ho, hopt⟩ := opt_set hs hB hw1 hsat
    have hx0 : cT c n s.testBit 0 X d = 0 := (must_cT hB hw1).mp ho.2.2.2.2.2
    have o1 := hopt.2 Z r hr
    have o2 : lxn (4 + n) (fun L => iv 66 16 * cT c n s.testBit L X d - d * cT c n s.testBit L (iv 78) (iv 66 16)) := by
      have q := h7 T hT X d ho
      rw [show (8 : Nat) = (3 + n) + (5 - n) by omega] at q
      have q2 := lxn_cut q
      rw [show 4 + n = (3 + n) + 1 by omega]
      exact lxn_tail (by rw [hx0, hz]; omega) q2
    refine lxn_div (c := d) ho.1 (lxn_congr (fun L _ => ?_) (lxn_add (lxn_mul (Int.le_of_lt h2) o1) (lxn_mul (Int.le_of_lt hr) o2)))
    grind
end SET
