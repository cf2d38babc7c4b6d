/-! firstAtZero, pass -/
theorem m99 {sa sb : Nat} {iv : mIv} {Q : Option mV → mIv → mRv → Prop} {x : Int} (h : -9223372036854775807 ≤ x) (h' : x < 9223372036854775808) : Ex 99 0 [vL x, none] [] iv (RV sa sb) Q = Q (vL (if x < 0 then -x else x)) iv (RV sa sb) := by
  rw [b99_0]
  by_cases c : x < 0
  · rw [if_pos c, if_pos c, b99_6, b99_12, w64_of (by omega) (by omega)]
  · rw [if_neg c, if_neg c, b99_11, b99_12]
def szS (iv : mIv) (b : Nat) (sd : Nat → Int) (i : Nat) : Int := sd i * rsF iv b i
def spS (iv : mIv) (b : Nat) (sd : Nat → Int) (q : Nat) (w : Int) (i : Nat) : Int := -(sd i) * w * ceF iv b i q
/-- r comes to 0 first among the first k -/
def fstP (k : Nat) (sz sp : Nat → Int) (ln : Nat → Nat) (r : Nat) : Prop := r < k ∧ 0 < sp r ∧ ∀ i, i < k → 0 < sp i → sz r * sp i ≤ sz i * sp r ∧ (sz r * sp i = sz i * sp r → ln r ≤ ln i)
theorem cross {a s b t c u : Int} (hs : 0 < s) (ht : 0 < t) (hu : 0 < u) (h1 : a * t ≤ b * s) (h2 : b * u ≤ c * t) : a * u ≤ c * s := by
  have e1 : a * t * u ≤ b * s * u := Int.mul_le_mul_of_nonneg_right h1 (by omega)
  have e2 : b * u * s ≤ c * t * s := Int.mul_le_mul_of_nonneg_right h2 (by omega)
  have e3 : a * u * t ≤ c * s * t := by
    have x1 : a * t * u = a * u * t := by grind
    have x2 : b * s * u = b * u * s := by grind
    have x3 : c * t * s = c * s * t := by grind
    omega
  exact Int.le_of_mul_le_mul_right e3 ht
theorem cross_eq {a s b t c u : Int} (hs : 0 < s) (ht : 0 < t) (hu : 0 < u) (h1 : a * t ≤ b * s) (h2 : b * u ≤ c * t) (h : a * u = c * s) : a * t = b * s ∧ b * u = c * t := by
  have k1 := cross (a := c) (s := u) (b := a) (t := s) (c := b) (u := t) hu hs ht (by omega) h1
  have k2 := cross (a := b) (s := t) (b := c) (t := u) (c := a) (u := s) ht hu hs h2 (by omega)
  omega
theorem fstP_keep {k : Nat} {sz sp : Nat → Int} {ln : Nat → Nat} {r : Nat} (h : fstP k sz sp ln r) (h2 : 0 < sp k → sz r * sp k ≤ sz k * sp r ∧ (sz r * sp k = sz k * sp r → ln r ≤ ln k)) : fstP (k + 1) sz sp ln r := by
  obtain ⟨a, b, c⟩ := h
  refine ⟨by omega, b, fun i hi hs => ?_⟩
  by_cases e : i = k
  · subst e; exact h2 hs
  · exact c i (by omega) hs
theorem fstP_new {k : Nat} {sz sp : Nat → Int} {ln : Nat → Nat} {r : Nat} (h : fstP k sz sp ln r) (hk : 0 < sp k) (h2 : sz k * sp r < sz r * sp k ∨ (sz k * sp r = sz r * sp k ∧ ln k < ln r)) : fstP (k + 1) sz sp ln k := by
  obtain ⟨a, b, c⟩ := h
  refine ⟨by omega, hk, fun i hi hs => ?_⟩
  by_cases e : i = k
  · subst e; exact ⟨Int.le_refl _, fun _ => Nat.le_refl _⟩
  · obtain ⟨c1, c2⟩ := c i (by omega) hs
    refine ⟨cross hk b hs (by omega) c1, fun z => ?_⟩
    obtain ⟨z1, z2⟩ := cross_eq hk b hs (by omega) c1 z
    have := c2 z2
    omega
theorem fstP_one {k : Nat} {sz sp : Nat → Int} {ln : Nat → Nat} (h : ∀ i, i < k → ¬ 0 < sp i) (hk : 0 < sp k) : fstP (k + 1) sz sp ln k := by
  refine ⟨by omega, hk, fun i hi hs => ?_⟩
  by_cases e : i = k
  · subst e; exact ⟨Int.le_refl _, fun _ => Nat.le_refl _⟩
  · exact absurd hs (h i (by omega))
theorem w_sz {s r : Int} (hs : s = 1 ∨ s = -1) (hr : -100000000000 ≤ r ∧ r ≤ 100000000000) : w64 (s * r) = s * r ∧ -100000000000 ≤ s * r ∧ s * r ≤ 100000000000 := by
  rcases hs with rfl | rfl
  · exact ⟨w64_of (by omega) (by omega), by omega, by omega⟩
  · exact ⟨w64_of (by omega) (by omega), by omega, by omega⟩
theorem w_sp {s w c : Int} (hs : s = 1 ∨ s = -1) (hw : w = 1 ∨ w = -1) (hc : -1000000 ≤ c ∧ c ≤ 1000000) : w64 (w32 (w32 (-s) * w) * c) = -s * w * c ∧ -1000000 ≤ -s * w * c ∧ -s * w * c ≤ 1000000 := by
  rcases hs with rfl | rfl <;> rcases hw with rfl | rfl
  · rw [show w32 (w32 (-1) * 1) = -1 by decide +kernel]; exact ⟨w64_of (by omega) (by omega), by omega, by omega⟩
  · rw [show w32 (w32 (-1) * -1) = 1 by decide +kernel]; exact ⟨w64_of (by omega) (by omega), by omega, by omega⟩
  · rw [show w32 (w32 (- -1) * 1) = 1 by decide +kernel]; exact ⟨w64_of (by omega) (by omega), by omega, by omega⟩
  · rw [show w32 (w32 (- -1) * -1) = -1 by decide +kernel]; exact ⟨w64_of (by omega) (by omega), by omega, by omega⟩
theorem w_od {a s b t : Int} (ha : -100000000000 ≤ a ∧ a ≤ 100000000000) (hb : -100000000000 ≤ b ∧ b ≤ 100000000000) (hs : -1000000 ≤ s ∧ s ≤ 1000000) (ht : -1000000 ≤ t ∧ t ≤ 1000000) : w64 (w64 (a * t) - w64 (b * s)) = a * t - b * s := by
  have h1 := mul_bd (B := 100000000000) (C := 1000000) ha ht
  have h2 := mul_bd (B := 100000000000) (C := 1000000) hb hs
  rw [w64_of (x := a * t) (by omega) (by omega), w64_of (x := b * s) (by omega) (by omega), w64_of (by omega) (by omega)]
theorem m13 {sa sb : Nat} {iv : mIv} {Q : Option mV → mIv → mRv → Prop} {b m q : Nat} {w : Int} (hb : b = 24 ∨ b = 45) (h2 : iv b 2 = m) (hm : m ≤ 9) (hsd : ∀ i, i < m → sdF iv b i = 1 ∨ sdF iv b i = -1) (hce : ∀ i, i < m → -1000000 ≤ ceF iv b i q ∧ ceF iv b i q ≤ 1000000) (hrs : ∀ i, i < m → -100000000000 ≤ rsF iv b i ∧ rsF iv b i ≤ 100000000000) (hln : ∀ i, i < m → 0 ≤ iv (b + 2) i) (hq : iv b 14 = q) (hq5 : q < 5) (hw : iv b 15 = w) (hw1 : w = 1 ∨ w = -1)
    (k0 : (∀ i, i < m → ¬ 0 < spS iv b (sdF iv b) q w i) → Q (vI (-1)) iv (RV sa sb)) (k1 : ∀ r : Nat, fstP m (szS iv b (sdF iv b)) (spS iv b (sdF iv b) q w) (lnR iv b) r → Q (vI r) iv (RV sa sb)) : Ex 13 0 [vR b, none, none, none, none, none, none, none, none, none, none, none, none] [] iv (RV sa sb) Q := by
  rw [b13_0 hb]
  have loop : ∀ r k : Nat, k + r = m → ∀ (x1 x2 x4 : Int) (u7 u9 u11 : Option mV), ((x1 = -1 ∧ ∀ i, i < k → ¬ 0 < spS iv b (sdF iv b) q w i) ∨ ∃ r : Nat, x1 = r ∧ x2 = szS iv b (sdF iv b) r ∧ x4 = spS iv b (sdF iv b) q w r ∧ fstP k (szS iv b (sdF iv b)) (spS iv b (sdF iv b) q w) (lnR iv b) r) → Ex 13 10 [vR b, vI x1, vL x2, none, vL x4, none, vI k, u7, none, u9, none, u11, none] [] iv (RV sa sb) Q := by
    intro r
    induction r with
    | zero =>
      intro k hk x1 x2 x4 u7 u9 u11 h
      have : k = m := by omega
      subst this
      rw [b13_10 hb, if_neg (by rw [h2]; omega), b13_142 hb]
      rcases h with ⟨e, h⟩ | ⟨r, e, _, _, h⟩
      · rw [e]; exact k0 h
      · rw [e]; exact k1 r h
    | succ r ih =>
      intro k hk x1 x2 x4 u7 u9 u11 h
      have ek : ((k : Int)).toNat = k := Int.toNat_natCast k
      have eq : ((q : Int)).toNat = q := Int.toNat_natCast q
      obtain ⟨z1, z2⟩ := w_sz (hsd k (by omega)) (hrs k (by omega))
      obtain ⟨p1, p2⟩ := w_sp (hsd k (by omega)) hw1 (hce k (by omega))
      rw [b13_10 hb, if_pos (by rw [h2]; omega), b13_19 hb (by omega) (by omega) (by rw [hq]; omega) (by rw [hq]; omega), ek, hq, eq, hw]
      have e1 : w64 (iv (b + 3) k * iv (b + 5) k) = szS iv b (sdF iv b) k := z1
      have e2 : w64 (w32 (w32 (-(iv (b + 3) k)) * w) * iv (b + 7 + k) q) = spS iv b (sdF iv b) q w k := p1
      rw [e1, e2]
      have go : ∀ (x1 x2 x4 : Int) (u7 u9 : Int) (u11 : Option mV), ((x1 = -1 ∧ ∀ i, i < k + 1 → ¬ 0 < spS iv b (sdF iv b) q w i) ∨ ∃ r : Nat, x1 = r ∧ x2 = szS iv b (sdF iv b) r ∧ x4 = spS iv b (sdF iv b) q w r ∧ fstP (k + 1) (szS iv b (sdF iv b)) (spS iv b (sdF iv b) q w) (lnR iv b) r) → Ex 13 136 [vR b, vI x1, vL x2, none, vL x4, none, vI k, vL u7, none, vL u9, none, u11, none] [] iv (RV sa sb) Q := fun x1 x2 x4 u7 u9 u11 h => by
        rw [b13_136 hb, w32_of (by omega) (by omega)]
        exact ih (k + 1) (by omega) x1 x2 x4 _ _ _ h
      by_cases c : 0 < spS iv b (sdF iv b) q w k
      · rw [if_pos c, b13_73 hb]
        rcases h with ⟨e, h⟩ | ⟨r, e, e3, e4, h⟩
        · rw [if_pos e, b13_78 hb, b13_94 hb, if_pos (by omega), b13_126 hb]
          exact go _ _ _ _ _ _ (Or.inr ⟨k, rfl, rfl, rfl, fstP_one h c⟩)
        · have hrm := h.1
          obtain ⟨_, z3⟩ := w_sz (hsd r (by omega)) (hrs r (by omega))
          obtain ⟨_, p3⟩ := w_sp (hsd r (by omega)) hw1 (hce r (by omega))
          have e5 : w64 (w64 (szS iv b (sdF iv b) k * x4) - w64 (x2 * spS iv b (sdF iv b) q w k)) = szS iv b (sdF iv b) k * spS iv b (sdF iv b) q w r - szS iv b (sdF iv b) r * spS iv b (sdF iv b) q w k := by
            rw [e3, e4]; exact w_od z2 z3 p2 p3
          rw [if_neg (by omega), b13_84 hb, b13_94 hb, e5]
          clear e5
          by_cases c1 : szS iv b (sdF iv b) k * spS iv b (sdF iv b) q w r - szS iv b (sdF iv b) r * spS iv b (sdF iv b) q w k < 0
          · rw [if_pos c1, b13_126 hb]
            exact go _ _ _ _ _ _ (Or.inr ⟨k, rfl, rfl, rfl, fstP_new h c (Or.inl (by omega))⟩)
          · rw [if_neg c1, b13_103 hb]
            by_cases c2 : szS iv b (sdF iv b) k * spS iv b (sdF iv b) q w r - szS iv b (sdF iv b) r * spS iv b (sdF iv b) q w k = 0
            · have er : ((r : Int)).toNat = r := Int.toNat_natCast r
              have l1 := hln k (by omega)
              have l2 := hln r (by omega)
              rw [if_pos c2, b13_110 hb (by omega) (by omega) (by omega) (by omega), ek, e, er]
              by_cases c3 : iv (b + 2) k < iv (b + 2) r
              · rw [if_pos c3, b13_126 hb]
                exact go _ _ _ _ _ _ (Or.inr ⟨k, rfl, rfl, rfl, fstP_new h c (Or.inr ⟨by omega, by unfold lnR; omega⟩)⟩)
              · rw [if_neg c3]
                exact go _ _ _ _ _ _ (Or.inr ⟨r, rfl, e3, e4, fstP_keep h (fun _ => ⟨by omega, fun _ => by unfold lnR; omega⟩)⟩)
            · rw [if_neg c2]
              exact go _ _ _ _ _ _ (Or.inr ⟨r, e, e3, e4, fstP_keep h (fun _ => ⟨by omega, fun z => by omega⟩)⟩)
      · rw [if_neg c]
        refine go _ _ _ _ _ _ ?_
        rcases h with ⟨e, h⟩ | ⟨r, e, e3, e4, h⟩
        · refine Or.inl ⟨e, fun i hi => ?_⟩
          by_cases ei : i = k
          · subst ei; exact c
          · exact h i (by omega)
        · exact Or.inr ⟨r, e, e3, e4, fstP_keep h (fun z => absurd z c)⟩
  exact loop m 0 (by omega) (-1) 0 0 none none none (Or.inl ⟨rfl, fun i hi => by omega⟩)
