/-! divisors, least terms, floor division, the pixel -/
theorem gcd_st (a b : Nat) : Nat.gcd b (a % b) = Nat.gcd a b := by
  rw [Nat.gcd_comm b, ← Nat.gcd_rec, Nat.gcd_comm]
theorem half_mod {a b : Nat} (hb : 0 < b) (h : b < a) : 2 * (a % b) < a := by
  have h1 := Nat.div_add_mod a b
  have h2 := Nat.mod_lt a hb
  have h3 : 1 ≤ a / b := (Nat.le_div_iff_mul_le hb).mpr (by omega)
  have h4 : b * 1 ≤ b * (a / b) := Nat.mul_le_mul_left b h3
  omega
section FRA
variable {sa sb : Nat} {iv : mIv} {Q : Option mV → mIv → mRv → Prop}
theorem m57l : ∀ (k a b x4 : Nat) (u5 : Option mV), b < 2 ^ k → x4 + 2 * k + 1 ≤ 200 → Ex 57 3 [vL a, none, vL b, none, vI x4, u5, none] [] iv (RV sa sb) Q = Q (vL (Nat.gcd a b : Nat)) iv (RV sa sb) := by
  intro k
  induction k with
  | zero =>
    intro a b x4 u5 hb hx
    have : b = 0 := by omega
    subst this
    rw [b57_3, if_pos (by omega), b57_11, if_pos (show ((0 : Nat) : Int) = 0 from rfl), b57_33, Nat.gcd_zero_right]
  | succ k ih =>
    intro a b x4 u5 hb hx
    have fin : ∀ (a x4 : Nat) (u5 : Option mV), x4 + 1 ≤ 200 → Ex 57 3 [vL a, none, vL ((0 : Nat) : Int), none, vI x4, u5, none] [] iv (RV sa sb) Q = Q (vL (Nat.gcd a 0 : Nat)) iv (RV sa sb) := fun a x4 u5 h => by
      rw [b57_3, if_pos (by omega), b57_11, if_pos (show ((0 : Nat) : Int) = 0 from rfl), b57_33, Nat.gcd_zero_right]
    by_cases hb0 : b = 0
    · subst hb0; exact fin a x4 u5 (by omega)
    · rw [b57_3, if_pos (by omega), b57_11, if_neg (by omega), b57_17 (by omega), w32_of (by omega) (by omega)]
      have e1 : ((a : Int)).tmod (b : Int) = ((a % b : Nat) : Int) := rfl
      have e2 : ((x4 : Int) + 1) = ((x4 + 1 : Nat) : Int) := by omega
      rw [e1, e2, ← gcd_st a b]
      have hlt := Nat.mod_lt a (show 0 < b by omega)
      generalize a % b = r at hlt ⊢
      by_cases hr0 : r = 0
      · subst hr0; exact fin b (x4 + 1) _ (by omega)
      · rw [b57_3, if_pos (by omega), b57_11, if_neg (by omega), b57_17 (by omega), w32_of (by omega) (by omega)]
        have e3 : ((b : Int)).tmod (r : Int) = ((b % r : Nat) : Int) := rfl
        have e4 : (((x4 + 1 : Nat) : Int) + 1) = ((x4 + 2 : Nat) : Int) := by omega
        rw [e3, e4, ← gcd_st b r]
        have hh := half_mod (show 0 < r by omega) hlt
        have : 2 ^ (k + 1) = 2 * 2 ^ k := by rw [Nat.pow_succ]; omega
        exact ih r (b % r) (x4 + 2) _ (by omega) (by omega)
theorem m57 {a b : Nat} (hb : b ≤ 29160) : Ex 57 0 [vL a, none, vL b, none, none, none, none] [] iv (RV sa sb) Q = Q (vL (Nat.gcd a b : Nat)) iv (RV sa sb) := by
  rw [b57_0]
  exact m57l 15 a b 0 none (by omega) (by omega)
theorem absI_nat (x : Int) : absI x = (x.natAbs : Int) := by unfold absI; split <;> omega
theorem tdiv_bd {x g : Int} (hg : 0 < g) (hx : -1000000000000000 ≤ x ∧ x ≤ 1000000000000000) (h : g ∣ x) : w64 (x.tdiv g) = x.tdiv g := by
  obtain ⟨y, hy⟩ := h
  rw [hy, Int.mul_tdiv_cancel_left _ (by omega)]
  rw [hy] at hx
  have b1 : 0 ≤ y → y ≤ g * y := fun h => by
    have := Int.mul_nonneg (show 0 ≤ g - 1 by omega) h
    have e1 : (g - 1) * y = g * y - y := by grind
    omega
  have b2 : y ≤ 0 → g * y ≤ y := fun h => by
    have := Int.mul_nonneg (show 0 ≤ g - 1 by omega) (show 0 ≤ -y by omega)
    have e1 : (g - 1) * -y = -(g * y) + y := by grind
    omega
  rcases Int.le_total 0 y with h | h
  · have := b1 h; exact w64_of (by omega) (by omega)
  · have := b2 h; exact w64_of (by omega) (by omega)
theorem m56 {x d what : Int} (hd : 0 < d ∧ d ≤ 29160) (hx : -1000000000000000 ≤ x ∧ x ≤ 1000000000000000) : Ex 56 0 [vL x, none, vL d, none, vI what, none, none, none, none] [] iv (RV sa sb) Q = Q (vL (low x d what)) iv (RV sa sb) := by
  rw [b56_0, m99 (by omega) (by omega)]
  show Ex 56 4 _ [.inr (.inl (absI x))] _ _ _ = _
  obtain ⟨D, hD⟩ : ∃ D : Nat, d = D := ⟨d.toNat, by omega⟩
  subst hD
  rw [b56_4, absI_nat, m57 (by omega)]
  show Ex 56 8 _ [.inr (.inl ((Nat.gcd x.natAbs D : Nat) : Int))] _ _ _ = _
  have eg : Nat.gcd x.natAbs D = Int.gcd x (D : Int) := by
    unfold Int.gcd
    rw [Int.natAbs_natCast]
  rw [eg]
  have hg : 0 < (Int.gcd x (D : Int) : Int) := by
    have : Int.gcd x (D : Int) ≠ 0 := fun z => by
      have := (Int.gcd_eq_zero_iff.mp z).2
      omega
    omega
  have d1 : (Int.gcd x (D : Int) : Int) ∣ x := Int.gcd_dvd_left _ _
  have d2 : (Int.gcd x (D : Int) : Int) ∣ (D : Int) := Int.gcd_dvd_right _ _
  unfold low
  rw [b56_8]
  by_cases c : what = 0
  · rw [if_pos c, if_pos c, b56_15, b56_20, if_neg (by omega), b56_34 (by omega), b56_39, tdiv_bd hg hx d1]
  · rw [if_neg c, if_neg c, b56_19, b56_20, if_neg (by omega), b56_34 (by omega), b56_39, tdiv_bd hg (by omega) d2]
theorem xor_sg {x y : Int} (hx : -9223372036854775808 ≤ x ∧ x < 9223372036854775808) (hy : 0 ≤ y ∧ y < 9223372036854775808) : (Int64.ofInt x ^^^ Int64.ofInt y).toInt < 0 ↔ x < 0 := by
  have h1 : (Int64.ofInt x).toInt = x := Int64.toInt_ofInt_of_le (by simpa using hx.1) (by simpa using hx.2)
  have h2 : (Int64.ofInt y).toInt = y := Int64.toInt_ofInt_of_le (by have := hy.1; simp; omega) (by simpa using hy.2)
  have m : ∀ a : Int64, a.toInt < 0 ↔ a.toBitVec.msb = true := fun a => by
    rw [BitVec.msb_eq_toInt]
    show a.toInt < 0 ↔ decide (a.toInt < 0) = true
    exact decide_eq_true_iff.symm
  rw [m, Int64.toBitVec_xor, BitVec.msb_xor]
  have a1 := m (Int64.ofInt x)
  have a2 := m (Int64.ofInt y)
  rw [h1] at a1
  rw [h2] at a2
  cases hm : (Int64.ofInt y).toBitVec.msb with
  | true => rw [hm] at a2; have := a2.mpr rfl; omega
  | false =>
    cases hn : (Int64.ofInt x).toBitVec.msb with
    | true => rw [hn] at a1; simp at a1 ⊢; exact a1
    | false => rw [hn] at a1; simp at a1 ⊢; exact a1
theorem fl_tdiv {x y : Int} (hy : 0 < y) : x / y = if x < 0 ∧ x.tdiv y * y ≠ x then x.tdiv y - 1 else x.tdiv y := by
  have h := Int.mul_tdiv_add_tmod x y
  have e0 : x / y * y + x % y = x := by have := Int.mul_ediv_add_emod x y; grind
  have e1 := Int.emod_nonneg x (show y ≠ 0 by omega)
  have e2 := Int.emod_lt_of_pos x hy
  by_cases c : x < 0
  · have t1 : x.tmod y ≤ 0 := by
      have := Int.tmod_nonneg (a := -x) y (by omega)
      rw [Int.neg_tmod] at this
      omega
    have t2 : -y < x.tmod y := by
      have := Int.tmod_lt_of_pos (-x) hy
      rw [Int.neg_tmod] at this
      omega
    have h' : x.tdiv y * y + x.tmod y = x := by have := h; grind
    by_cases d : x.tdiv y * y = x
    · rw [if_neg (fun z => z.2 d)]
      rw [← d, Int.mul_ediv_cancel _ (by omega)]
      rw [d]
    · rw [if_pos ⟨c, d⟩]
      apply Int.le_antisymm
      · apply Int.le_of_sub_nonneg
        apply Classical.byContradiction
        intro hn
        have hq : x.tdiv y ≤ x / y := by omega
        have := Int.mul_le_mul_of_nonneg_right hq (Int.le_of_lt hy)
        have hm : x.tmod y ≠ 0 := fun z => d (by omega)
        omega
      · apply Int.le_of_sub_nonneg
        apply Classical.byContradiction
        intro hn
        have hq : x / y + 2 ≤ x.tdiv y := by omega
        have := Int.mul_le_mul_of_nonneg_right hq (Int.le_of_lt hy)
        have e9 : (x / y + 2) * y = x / y * y + 2 * y := by grind
        omega
  · rw [if_neg (fun z => c z.1), Int.tdiv_eq_ediv_of_nonneg (by omega)]
theorem m98 {x y : Int} (hx : -1000000000000000 ≤ x ∧ x ≤ 1000000000000000) (hy : 0 < y ∧ y ≤ 1000000000000000) : Ex 98 0 [vL x, none, vL y, none, none, none] [] iv (RV sa sb) Q = Q (vL (x / y)) iv (RV sa sb) := by
  have ht : -1000000000000000 ≤ x.tdiv y ∧ x.tdiv y ≤ 1000000000000000 := by
    have h1 : (x.tdiv y).natAbs ≤ x.natAbs := by
      rw [Int.natAbs_tdiv]
      exact Nat.div_le_self _ _
    omega
  have hm : -1000000000000000 ≤ x.tdiv y * y ∧ x.tdiv y * y ≤ 1000000000000000 := by
    have h1 : (x.tdiv y * y).natAbs ≤ x.natAbs := by
      rw [Int.natAbs_mul, Int.natAbs_tdiv]
      exact Nat.div_mul_le_self _ _
    omega
  rw [b98_0 (by omega), w64_of (x := x.tdiv y) (by omega) (by omega), fl_tdiv hy.1]
  have hxs := xor_sg (show -9223372036854775808 ≤ x ∧ x < 9223372036854775808 by omega) (show 0 ≤ y ∧ y < 9223372036854775808 by omega)
  by_cases c : x < 0
  · rw [if_pos (hxs.mpr c), b98_13, w64_of (x := x.tdiv y * y) (by omega) (by omega)]
    by_cases d : x.tdiv y * y = x
    · rw [if_pos d, if_neg (fun z => z.2 d), b98_27]
    · rw [if_neg d, if_pos ⟨c, d⟩, b98_22, w64_of (by omega) (by omega)]
  · rw [if_neg (fun z => c (hxs.mp z)), if_neg (fun z => c z.1), b98_27]
end FRA
