/-! putIn, swap -/
theorem w_dv {c p t f d e C : Int} (hC : C ≤ 100000000000) (hc : -C ≤ c ∧ c ≤ C) (hp : -1000000 ≤ p ∧ p ≤ 1000000) (ht : -1000000 ≤ t ∧ t ≤ 1000000) (hf : -C ≤ f ∧ f ≤ C) (hd : 0 < d) (he : d * e = c * p - t * f) : w64 ((w64 (w64 (c * p) - w64 (t * f))).tdiv d) = e := by
  have a1 := mul_bd (B := C) (C := 1000000) hc hp
  have a2 := mul_bd (B := 1000000) (C := C) ht hf
  rw [w64_of (x := c * p) (by omega) (by omega), w64_of (x := t * f) (by omega) (by omega), w64_of (x := c * p - t * f) (by omega) (by omega), ← he, Int.mul_tdiv_cancel_left _ (by omega)]
  have b1 : 0 ≤ e → e ≤ d * e := fun h => by
    have := Int.mul_nonneg (show 0 ≤ d - 1 by omega) h
    have e1 : (d - 1) * e = d * e - e := by grind
    omega
  have b2 : e ≤ 0 → d * e ≤ e := fun h => by
    have := Int.mul_nonneg (show 0 ≤ d - 1 by omega) (show 0 ≤ -e by omega)
    have e1 : (d - 1) * -e = -(d * e) + e := by grind
    omega
  rcases Int.le_total 0 e with h | h
  · have := b1 h
    exact w64_of (by omega) (by omega)
  · have := b2 h
    exact w64_of (by omega) (by omega)
theorem w_sg {s c : Int} (hs : s = 1 ∨ s = -1) (hc : -1000000 ≤ c ∧ c ≤ 1000000) : w64 (s * c) = s * c := by
  rcases hs with rfl | rfl <;> exact w64_of (by omega) (by omega)
theorem sg_bd {s c : Int} (hs : s = 1 ∨ s = -1) (hc : -1000000 ≤ c ∧ c ≤ 1000000) : -1000000 ≤ s * c ∧ s * c ≤ 1000000 := by
  rcases hs with rfl | rfl <;> omega
theorem w_ng {s c B : Int} (hs : s = 1 ∨ s = -1) (hB : B ≤ 100000000000) (hc : -B ≤ c ∧ c ≤ B) : w64 (c * w64 (-s)) = -s * c := by
  rcases hs with rfl | rfl
  · rw [show w64 (-1) = -1 by decide +kernel, w64_of (by omega) (by omega)]; omega
  · rw [show w64 (- -1) = 1 by decide +kernel, w64_of (by omega) (by omega)]; omega
theorem m16 {sa sb : Nat} {iv : mIv} {Q : Option mV → mIv → mRv → Prop} {b n q r o : Nat} {sg : Int} (hb : b = 24 ∨ b = 45) (hr : r < 9) (ho : o < 9) (hor : o ≠ r) (h3 : iv b 3 = n) (hn : n ≤ 5) (hq14 : iv b 14 = q) (hq : q < n) (hsg : sg = 1 ∨ sg = -1) (hd : 0 < iv b 0)
    (hco : ∀ j, j < n → -1000000 ≤ ceF iv b o j ∧ ceF iv b o j ≤ 1000000) (hcr : ∀ j, j < n → -1000000 ≤ ceF iv b r j ∧ ceF iv b r j ≤ 1000000) (hro : -100000000000 ≤ rsF iv b o ∧ rsF iv b o ≤ 100000000000) (hrr : -100000000000 ≤ rsF iv b r ∧ rsF iv b r ≤ 100000000000)
    (e : Nat → Int) (he : ∀ j, j < n → iv b 0 * e j = ceF iv b o j * (sg * ceF iv b r q) - sg * ceF iv b o q * ceF iv b r j) (er : Int) (her : iv b 0 * er = rsF iv b o * (sg * ceF iv b r q) - sg * ceF iv b o q * rsF iv b r)
    (hk : ∀ iv' : mIv, (∀ p j, p ≠ b + 7 + o → p ≠ b + 5 → iv' p j = iv p j) → (∀ i, i ≠ o → iv' (b + 5) i = iv (b + 5) i) → (∀ j, j < n → j ≠ q → ceF iv' b o j = e j) → ceF iv' b o q = sg * ceF iv b o q → rsF iv' b o = er → Q none iv' (RV sa sb)) : Ex 16 0 [vR b, vI r, vI o, vL sg, none, vL (sg * ceF iv b r q), none, none, none, none, none, none] [] iv (RV sa sb) Q := by
  have xo : ((o : Int)).toNat = o := Int.toNat_natCast o
  have xr : ((r : Int)).toNat = r := Int.toNat_natCast r
  have xq : ((q : Int)).toNat = q := Int.toNat_natCast q
  have hpb := sg_bd hsg (hcr q hq)
  have htb := sg_bd hsg (hco q hq)
  rw [b16_0 hb (by omega) (by omega) (by omega) (by omega) (by rw [hq14]; omega) (by rw [hq14]; omega), if_neg (by omega), xo, xr, hq14, xq, show w64 (sg * iv (b + 7 + o) q) = sg * ceF iv b o q from w_sg hsg (hco q hq), b16_36 hb hr ho]
  have main : Ex 16 54 [vR b, vI r, vI o, vL sg, none, vL (sg * ceF iv b r q), none, vR (b + 7 + r), vR (b + 7 + o), vL (sg * ceF iv b o q), none, none] [] iv (RV sa sb) Q := by
    rw [b16_54 hb hr ho]
    have loop : ∀ t k : Nat, k + t = n → ∀ ivc : mIv, (∀ p j, p ≠ b + 7 + o → ivc p j = iv p j) → (∀ j, j < n → ceF ivc b o j = if j < k then e j else ceF iv b o j) → Ex 16 57 [vR b, vI r, vI o, vL sg, none, vL (sg * ceF iv b r q), none, vR (b + 7 + r), vR (b + 7 + o), vL (sg * ceF iv b o q), none, vI k] [] ivc (RV sa sb) Q := by
      intro t
      induction t with
      | zero =>
        intro k hk' ivc h1 h2
        have ek : k = n := by omega
        subst ek
        have eb : ∀ j, ivc b j = iv b j := fun j => h1 b j (by omega)
        have e5 : ∀ j, ivc (b + 5) j = iv (b + 5) j := fun j => h1 (b + 5) j (by omega)
        have ed : w64 ((w64 (w64 (ivc (b + 5) o * (sg * ceF iv b r q)) - w64 (sg * ceF iv b o q * ivc (b + 5) r))).tdiv (ivc b 0)) = er := by
          rw [eb, e5, e5]
          exact w_dv (C := 100000000000) (by omega) hro hpb htb hrr hd her
        have e14 : ∀ x : Int, st2 ivc (b + 5) o x b 14 = q := fun x => by rw [st2_ne (by omega), eb, hq14]
        rw [b16_57 hb hr ho, if_neg (by rw [eb, h3]; omega), b16_99 hb hr ho (by omega) (by omega) (by omega) (by omega) (by rw [eb]; omega) (by rw [xo, e14]; omega) (by rw [xo, e14]; omega), xo, xr, ed, e14, xq]
        refine hk _ (fun p j hp hp5 => by rw [st2_ne hp, st2_ne hp5]; exact h1 p j hp) (fun i hi => by rw [st2_ne (by omega), st2_nk hi, e5]) (fun j hj hjq => ?_) ?_ ?_
        · show st2 _ _ _ _ (b + 7 + o) j = _
          rw [st2_nk hjq, st2_ne (by omega)]
          have := h2 j hj
          rw [if_pos hj] at this
          exact this
        · show st2 _ _ _ _ (b + 7 + o) q = _
          rw [st2_eq]
        · show st2 _ _ _ _ (b + 5) o = _
          rw [st2_ne (by omega), st2_eq]
      | succ t ih =>
        intro k hk' ivc h1 h2
        have hkn : k < n := by omega
        have xk : ((k : Int)).toNat = k := Int.toNat_natCast k
        have eb : ∀ j, ivc b j = iv b j := fun j => h1 b j (by omega)
        have e1 : ivc (b + 7 + o) k = ceF iv b o k := by
          have := h2 k hkn
          rw [if_neg (by omega)] at this
          exact this
        have e2 : ivc (b + 7 + r) k = ceF iv b r k := h1 (b + 7 + r) k (by omega)
        have ed : w64 ((w64 (w64 (ceF iv b o k * (sg * ceF iv b r q)) - w64 (sg * ceF iv b o q * ceF iv b r k))).tdiv (iv b 0)) = e k := w_dv (C := 1000000) (by omega) (hco k hkn) hpb htb (hcr k hkn) hd (he k hkn)
        rw [b16_57 hb hr ho, if_pos (by rw [eb, h3]; omega), b16_66 hb hr ho (by omega) (by omega) (by rw [eb]; omega), xk, e1, e2, eb, ed, w32_of (by omega) (by omega)]
        refine ih (k + 1) (by omega) _ (fun p j hp => by rw [st2_ne hp]; exact h1 p j hp) (fun j hj => ?_)
        show st2 _ _ _ _ (b + 7 + o) j = _
        by_cases ej : j = k
        · rw [ej, st2_eq, if_pos (by omega)]
        · rw [st2_nk ej]
          have := h2 j hj
          by_cases c : j < k
          · rw [if_pos c] at this; rw [if_pos (by omega)]; exact this
          · rw [if_neg c] at this; rw [if_neg (by omega)]; exact this
    exact loop n 0 (by omega) iv (fun _ _ _ => rfl) (fun j _ => by rw [if_neg (by omega)])
  by_cases c1 : sg * ceF iv b o q = 0
  · rw [if_pos c1, b16_43 hb hr ho]
    by_cases c2 : sg * ceF iv b r q = iv b 0
    · rw [if_pos c2, b16_53 hb hr ho]
      have cn : ∀ x y : Int, iv b 0 * x = y * (sg * ceF iv b r q) - sg * ceF iv b o q * 0 → y = x := fun x y h => by
        rw [c2] at h
        apply Int.eq_of_mul_eq_mul_left (show iv b 0 ≠ 0 by omega)
        grind
      refine hk iv (fun _ _ _ _ => rfl) (fun _ _ => rfl) (fun j hj _ => cn _ _ ?_) ?_ (cn _ _ ?_)
      · rw [he j hj, c1]; omega
      · rw [c1]
        rcases Int.mul_eq_zero.mp c1 with z | z
        · omega
        · exact z
      · rw [her, c1]; omega
    · rw [if_neg c2]; exact main
  · rw [if_neg c1]; exact main
abbrev dcM (iv : mIv) (b : Nat) : Dc := (lnC iv b, lnR iv b, iv b 0, ceF iv b, rsF iv b, sdF iv b)
/-- what swap may change -/
def onlyS (b m : Nat) (iv iv' : mIv) : Prop := ∀ p j, ¬ (p = b ∧ j = 0) → p ≠ b + 2 → p ≠ b + 3 → p ≠ b + 4 → p ≠ b + 5 → (∀ i, i < m → p ≠ b + 7 + i) → iv' p j = iv p j
theorem m15 {sa sb : Nat} {iv : mIv} {Q : Option mV → mIv → mRv → Prop} {b n m q r : Nat} {sg w : Int} (hb : b = 24 ∨ b = 45) (hv : svB iv b n m) (hrs : ∀ i, i < m → -100000000000 ≤ rsF iv b i ∧ rsF iv b i ≤ 100000000000) (hr : r < m) (hq14 : iv b 14 = q) (hw15 : iv b 15 = w) (hq : q < n) (hsg : sg = 1 ∨ sg = -1) (hpos : 0 < sg * ceF iv b r q)
    (e : Nat → Nat → Int) (he : ∀ i, i < m → i ≠ r → ∀ j, j < n → iv b 0 * e i j = ceF iv b i j * (sg * ceF iv b r q) - sg * ceF iv b i q * ceF iv b r j) (er : Nat → Int) (her : ∀ i, i < m → i ≠ r → iv b 0 * er i = rsF iv b i * (sg * ceF iv b r q) - sg * ceF iv b i q * rsF iv b r)
    (hk : ∀ iv' : mIv, onlyS b m iv iv' → swp n m (dcM iv b) (dcM iv' b) q r sg → (∀ i, i < m → iv' (b + 2) i = if i = r then iv (b + 4) q else iv (b + 2) i) → (∀ j, j < n → iv' (b + 4) j = if j = q then iv (b + 2) r else iv (b + 4) j) → (∀ i, i < m → sdF iv' b i = if i = r then w else sdF iv b i) → Q none iv' (RV sa sb)) : Ex 15 0 [vR b, vI r, none, none, none, none, none, none] [] iv (RV sa sb) Q := by
  have hv0 := hv
  obtain ⟨h1, h2, h3, h4, h5, h6, h7, h8, h9, h10, h11⟩ := hv
  have xr : ((r : Int)).toNat = r := Int.toNat_natCast r
  have xq : ((q : Int)).toNat = q := Int.toNat_natCast q
  have hsgn : Ex 15 0 [vR b, vI r, none, none, none, none, none, none] [] iv (RV sa sb) Q = Ex 15 25 [vR b, vI r, vI q, none, none, none, none, none] [.inr (.inl sg)] iv (RV sa sb) Q := by
    rw [b15_0 hb (by omega) (by omega) (by rw [hq14]; omega) (by rw [hq14]; omega), hq14, xr, xq]
    have hp : 0 < sg * iv (b + 7 + r) q := hpos
    rcases hsg with rfl | rfl
    · rw [if_neg (by omega), b15_24 hb]
    · rw [if_pos (by omega), b15_18 hb]
  rw [hsgn, b15_25 hb (by omega) (by omega) (by omega) (by omega), xr, xq, show w64 (sg * iv (b + 7 + r) q) = sg * ceF iv b r q from w_sg hsg (h11 r hr q hq), if_neg (by omega), b15_45 hb, if_neg (by omega), b15_55 hb]
  -- the rest, once all other rows are done
  have tail : ∀ (iv1 : mIv), (∀ p j, p ≠ b + 5 → (∀ i, i < m → i ≠ r → p ≠ b + 7 + i) → iv1 p j = iv p j) → (∀ i, i < m → i ≠ r → (∀ j, j < n → j ≠ q → ceF iv1 b i j = e i j) ∧ ceF iv1 b i q = sg * ceF iv b i q ∧ rsF iv1 b i = er i) → rsF iv1 b r = rsF iv b r → Ex 15 89 [vR b, vI r, vI q, vL sg, none, vL (sg * ceF iv b r q), none, vI m] [] iv1 (RV sa sb) Q := by
    intro iv1 g1 g2 g3
    rw [b15_89 hb]
    have loop : ∀ t k : Nat, k + t = n → ∀ ivc : mIv, (∀ p j, p ≠ b + 7 + r → ivc p j = iv1 p j) → (∀ j, j < n → ceF ivc b r j = if j < k then -sg * ceF iv b r j else ceF iv b r j) → Ex 15 92 [vR b, vI r, vI q, vL sg, none, vL (sg * ceF iv b r q), none, vI k] [] ivc (RV sa sb) Q := by
      intro t
      induction t with
      | zero =>
        intro k hk' ivc c1 c2
        have ek : k = n := by omega
        subst ek
        have eb : ∀ j, ivc b j = iv b j := fun j => by rw [c1 b j (by omega), g1 b j (by omega) (fun i _ _ => by omega)]
        have e2 : ∀ j, ivc (b + 2) j = iv (b + 2) j := fun j => by rw [c1 _ j (by omega), g1 _ j (by omega) (fun i _ _ => by omega)]
        have e3 : ∀ j, ivc (b + 3) j = iv (b + 3) j := fun j => by rw [c1 _ j (by omega), g1 _ j (by omega) (fun i _ _ => by omega)]
        have e4 : ∀ j, ivc (b + 4) j = iv (b + 4) j := fun j => by rw [c1 _ j (by omega), g1 _ j (by omega) (fun i _ _ => by omega)]
        have e5 : ∀ j, ivc (b + 5) j = iv1 (b + 5) j := fun j => c1 _ j (by omega)
        have n5 : w64 (ivc (b + 5) r * w64 (-sg)) = -sg * rsF iv b r := by
          rw [e5, show iv1 (b + 5) r = rsF iv b r from g3]
          exact w_ng hsg (B := 100000000000) (by omega) (hrs r hr)
        have n0 : w64 (sg * iv b 0) = sg * iv b 0 := w_sg hsg (by omega)
        rw [b15_92 hb, if_neg (by rw [eb, h1]; omega), b15_121 hb (by omega) (by omega) (by omega) (by omega), xr, xq, n5]
        have z1 : ∀ x : Int, st2 ivc (b + 5) r x b 0 = iv b 0 := fun x => by rw [st2_ne (by omega), eb]
        rw [z1, n0]
        generalize hA : st2 (st2 (st2 ivc (b + 5) r (-sg * rsF iv b r)) (b + 7 + r) q (sg * iv b 0)) b 0 (sg * ceF iv b r q) = ivA
        have a2 : ∀ j, ivA (b + 2) j = iv (b + 2) j := fun j => by rw [← hA, st2_ne (by omega), st2_ne (by omega), st2_ne (by omega), e2]
        have a4 : ∀ j, ivA (b + 4) j = iv (b + 4) j := fun j => by rw [← hA, st2_ne (by omega), st2_ne (by omega), st2_ne (by omega), e4]
        have a3 : ∀ j, ivA (b + 3) j = iv (b + 3) j := fun j => by rw [← hA, st2_ne (by omega), st2_ne (by omega), st2_ne (by omega), e3]
        have a15 : ivA b 15 = w := by rw [← hA, st2_nk (by omega), st2_ne (by omega), st2_ne (by omega), eb, hw15]
        have a0 : ivA b 0 = sg * ceF iv b r q := by rw [← hA, st2_eq]
        have a5 : ∀ i, i < m → ivA (b + 5) i = if i = r then -sg * rsF iv b r else er i := fun i hi => by
          rw [← hA, st2_ne (by omega), st2_ne (by omega)]
          by_cases c : i = r
          · rw [if_pos c, c, st2_eq]
          · rw [if_neg c, st2_nk c, e5]; exact (g2 i hi c).2.2
        have aC : ∀ i, i < m → i ≠ r → ∀ j, ivA (b + 7 + i) j = ceF iv1 b i j := fun i hi c j => by
          rw [← hA, st2_ne (by omega), st2_ne (by omega), st2_ne (by omega), c1 _ _ (by omega)]; rfl
        have aR : ∀ j, j < k → ivA (b + 7 + r) j = if j = q then sg * iv b 0 else -sg * ceF iv b r j := fun j hj => by
          rw [← hA, st2_ne (by omega)]
          by_cases c : j = q
          · rw [if_pos c, c, st2_eq]
          · rw [if_neg c, st2_nk c, st2_ne (by omega)]
            have := c2 j hj
            rw [if_pos hj] at this
            exact this
        have aO : ∀ p j, ¬ (p = b ∧ j = 0) → p ≠ b + 5 → (∀ i, i < m → p ≠ b + 7 + i) → ivA p j = iv p j := fun p j hp h5 h7 => by
          rw [← hA]
          have : ∀ {f : mIv} {x : Int}, st2 f b 0 x p j = f p j := fun {f x} => by unfold st2; rw [if_neg hp]
          rw [this, st2_ne (h7 r hr), st2_ne h5, c1 _ _ (h7 r hr), g1 _ _ h5 (fun i hi _ => h7 i hi)]
        clear hA
        have b1 : ∀ x : Int, st2 ivA (b + 2) r x b 15 = w := fun x => by rw [st2_ne (by omega), a15]
        rw [a4, b1]
        have fin : ∀ iv' : mIv, iv' = st2 (st2 (st2 ivA (b + 2) r (iv (b + 4) q)) (b + 3) r w) (b + 4) q (ivA (b + 2) r) → Q none iv' (RV sa sb) := by
          intro iv' hiv
          have k2 : ∀ i, iv' (b + 2) i = if i = r then iv (b + 4) q else iv (b + 2) i := fun i => by
            rw [hiv, st2_ne (by omega), st2_ne (by omega)]
            by_cases c : i = r
            · rw [if_pos c, c, st2_eq]
            · rw [if_neg c, st2_nk c, a2]
          have k3 : ∀ i, iv' (b + 3) i = if i = r then w else iv (b + 3) i := fun i => by
            rw [hiv, st2_ne (by omega)]
            by_cases c : i = r
            · rw [if_pos c, c, st2_eq]
            · rw [if_neg c, st2_nk c, st2_ne (by omega), a3]
          have k4 : ∀ j, iv' (b + 4) j = if j = q then iv (b + 2) r else iv (b + 4) j := fun j => by
            rw [hiv]
            by_cases c : j = q
            · rw [if_pos c, c, st2_eq, a2]
            · rw [if_neg c, st2_nk c, st2_ne (by omega), st2_ne (by omega), a4]
          have kO : ∀ p j, p ≠ b + 2 → p ≠ b + 3 → p ≠ b + 4 → iv' p j = ivA p j := fun p j p2 p3 p4 => by rw [hiv, st2_ne p4, st2_ne p3, st2_ne p2]
          refine hk iv' (fun p j hp p2 p3 p4 p5 p7 => by rw [kO p j p2 p3 p4, aO p j hp p5 p7]) ⟨fun j hj => ?_, fun i hi => ?_, ?_, fun i hi hne j hj hjq => ?_, fun i hi hne => ?_, fun j hj hjq => ?_, ?_, fun i hi hne => ?_, ?_⟩ (fun i _ => k2 i) (fun j _ => k4 j) (fun i _ => k3 i)
          · show lnC iv' b j = upn (lnC iv b) q (lnR iv b r) j
            unfold lnC upn lnR
            rw [k4]
            by_cases c : j = q
            · rw [if_pos c, if_pos c]
            · rw [if_neg c, if_neg c]
          · show lnR iv' b i = upn (lnR iv b) r (lnC iv b q) i
            unfold lnR upn lnC
            rw [k2]
            by_cases c : i = r
            · rw [if_pos c, if_pos c]
            · rw [if_neg c, if_neg c]
          · show iv' b 0 = sg * ceF iv b r q
            rw [kO b 0 (by omega) (by omega) (by omega), a0]
          · show iv b 0 * iv' (b + 7 + i) j = ceF iv b i j * (sg * ceF iv b r q) - sg * ceF iv b i q * ceF iv b r j
            rw [kO _ _ (by omega) (by omega) (by omega), aC i hi hne, (g2 i hi hne).1 j hj hjq, he i hi hne j hj]
          · show iv' (b + 7 + i) q = sg * ceF iv b i q
            rw [kO _ _ (by omega) (by omega) (by omega), aC i hi hne, (g2 i hi hne).2.1]
          · show iv' (b + 7 + r) j = -sg * ceF iv b r j
            rw [kO _ _ (by omega) (by omega) (by omega), aR j hj, if_neg hjq]
          · show iv' (b + 7 + r) q = sg * iv b 0
            rw [kO _ _ (by omega) (by omega) (by omega), aR q hq, if_pos rfl]
          · show iv b 0 * iv' (b + 5) i = rsF iv b i * (sg * ceF iv b r q) - sg * ceF iv b i q * rsF iv b r
            rw [kO _ _ (by omega) (by omega) (by omega), a5 i hi, if_neg hne, her i hi hne]
          · show iv' (b + 5) r = -sg * rsF iv b r
            rw [kO _ _ (by omega) (by omega) (by omega), a5 r hr, if_pos rfl]
        exact fin _ rfl
      | succ t ih =>
        intro k hk' ivc c1 c2
        have hkn : k < n := by omega
        have xk : ((k : Int)).toNat = k := Int.toNat_natCast k
        have eb : ∀ j, ivc b j = iv b j := fun j => by rw [c1 b j (by omega), g1 b j (by omega) (fun i _ _ => by omega)]
        have e1 : ivc (b + 7 + r) k = ceF iv b r k := by
          have := c2 k hkn
          rw [if_neg (by omega)] at this
          exact this
        have e2 : w64 (ceF iv b r k * w64 (-sg)) = -sg * ceF iv b r k := w_ng hsg (B := 1000000) (by omega) (h11 r hr k hkn)
        rw [b15_92 hb, if_pos (by rw [eb, h1]; omega), b15_101 hb (by omega) (by omega) (by omega) (by omega), xr, xk, e1, e2, w32_of (by omega) (by omega)]
        refine ih (k + 1) (by omega) _ (fun p j hp => by rw [st2_ne hp]; exact c1 p j hp) (fun j hj => ?_)
        show st2 _ _ _ _ (b + 7 + r) j = _
        by_cases ej : j = k
        · rw [ej, st2_eq, if_pos (by omega)]
        · rw [st2_nk ej]
          have := c2 j hj
          by_cases c : j < k
          · rw [if_pos c] at this; rw [if_pos (by omega)]; exact this
          · rw [if_neg c] at this; rw [if_neg (by omega)]; exact this
    refine loop n 0 (by omega) iv1 (fun _ _ _ => rfl) (fun j _ => ?_)
    rw [if_neg (by omega)]
    exact g1 (b + 7 + r) j (by omega) (fun i _ hne => by omega)
  have outer : ∀ t k : Nat, k + t = m → ∀ iv1 : mIv, (∀ p j, p ≠ b + 5 → (∀ i, i < k → i ≠ r → p ≠ b + 7 + i) → iv1 p j = iv p j) → (∀ i, i < k → i ≠ r → (∀ j, j < n → j ≠ q → ceF iv1 b i j = e i j) ∧ ceF iv1 b i q = sg * ceF iv b i q ∧ rsF iv1 b i = er i) → (∀ i, i < m → (k ≤ i ∨ i = r) → rsF iv1 b i = rsF iv b i) → Ex 15 58 [vR b, vI r, vI q, vL sg, none, vL (sg * ceF iv b r q), none, vI k] [] iv1 (RV sa sb) Q := by
    intro t
    induction t with
    | zero =>
      intro k hk' iv1 g1 g2 g3
      have ek : k = m := by omega
      subst ek
      rw [b15_58 hb, if_neg (by rw [g1 b 2 (by omega) (fun i _ _ => by omega), h2]; omega)]
      exact tail iv1 g1 g2 (g3 r hr (Or.inr rfl))
    | succ t ih =>
      intro k hk' iv1 g1 g2 g3
      have hkm : k < m := by omega
      rw [b15_58 hb, if_pos (by rw [g1 b 2 (by omega) (fun i _ _ => by omega), h2]; omega), b15_67 hb]
      by_cases c : k = r
      · rw [if_pos (by rw [c]), b15_83 hb, w32_of (by omega) (by omega)]
        refine ih (k + 1) (by omega) iv1 (fun p j p5 p7 => g1 p j p5 (fun i hi hne => p7 i (by omega) hne)) (fun i hi hne => g2 i (by omega) hne) (fun i hi hor => g3 i hi (by omega))
      · rw [if_neg (by omega), b15_73 hb]
        have eb : ∀ j, iv1 b j = iv b j := fun j => g1 b j (by omega) (fun i _ _ => by omega)
        have eK : ∀ j, ceF iv1 b k j = ceF iv b k j := fun j => g1 (b + 7 + k) j (by omega) (fun i _ _ => by omega)
        have eR : ∀ j, ceF iv1 b r j = ceF iv b r j := fun j => g1 (b + 7 + r) j (by omega) (fun i _ hne => by omega)
        have rK : rsF iv1 b k = rsF iv b k := g3 k hkm (Or.inl (Nat.le_refl k))
        have rR : rsF iv1 b r = rsF iv b r := g3 r hr (Or.inr rfl)
        rw [← eR q]
        refine m16 hb (by omega) (by omega) c (by rw [eb]; exact h1) h3 (by rw [eb]; exact hq14) hq hsg (by rw [eb]; exact h9) (fun j hj => by rw [eK]; exact h11 k hkm j hj) (fun j hj => by rw [eR]; exact h11 r hr j hj) (by rw [rK]; exact hrs k hkm) (by rw [rR]; exact hrs r hr) (e k) (fun j hj => by rw [eb, eK, eK, eR, eR]; exact he k hkm c j hj) (er k) (by rw [eb, rK, rR, eK, eR]; exact her k hkm c) ?_
        intro iv2 f1 f2 f3 f4 f5
        show Ex 15 83 _ [] _ _ _
        rw [b15_83 hb, w32_of (by omega) (by omega), eR q]
        refine ih (k + 1) (by omega) iv2 (fun p j p5 p7 => by rw [f1 p j (p7 k (by omega) c) p5]; exact g1 p j p5 (fun i hi hne => p7 i (by omega) hne)) (fun i hi hne => ?_) (fun i hi hor => ?_)
        · by_cases ci : i = k
          · subst ci
            exact ⟨fun j hj hjq => f3 j hj hjq, by rw [f4, eK], f5⟩
          · have hio := g2 i (by omega) hne
            have eI : ∀ j, ceF iv2 b i j = ceF iv1 b i j := fun j => f1 (b + 7 + i) j (by omega) (by omega)
            have rI : rsF iv2 b i = rsF iv1 b i := f2 i ci
            exact ⟨fun j hj hjq => by rw [eI]; exact hio.1 j hj hjq, by rw [eI]; exact hio.2.1, by rw [rI]; exact hio.2.2⟩
        · have rI : rsF iv2 b i = rsF iv1 b i := f2 i (by omega)
          rw [rI]
          exact g3 i hi (by omega)
  exact outer m 0 (by omega) iv (fun _ _ _ _ => rfl) (fun i hi => by omega) (fun i _ _ => rfl)
