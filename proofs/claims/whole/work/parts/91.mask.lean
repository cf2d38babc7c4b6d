/-! what the model tells of the setting -/
section MAS
variable {sa sb : Nat} {iv : mIv} {Q : Option mV → mIv → mRv → Prop} {g : Sg}
theorem m60l : ∀ (N b a : Nat), b ≤ N → ∀ (x0 x2 : Int) (u8 : Option mV), Ex 60 12 [vL x0, none, vL x2, none, vL a, none, vL b, none, u8, none] [] iv (RV sa sb) Q = Q (vL (Nat.gcd a b : Nat)) iv (RV sa sb) := by
  intro N
  induction N with
  | zero =>
    intro b a hb x0 x2 u8
    have : b = 0 := by omega
    subst this
    rw [b60_12, if_pos (show ((0 : Nat) : Int) = 0 from rfl), b60_37, Nat.gcd_zero_right]
  | succ N ih =>
    intro b a hb x0 x2 u8
    by_cases z : b = 0
    · subst z
      rw [b60_12, if_pos (show ((0 : Nat) : Int) = 0 from rfl), b60_37, Nat.gcd_zero_right]
    · rw [b60_12, if_neg (by omega), b60_19 (by omega)]
      have e1 : ((a : Int)).tmod (b : Int) = ((a % b : Nat) : Int) := rfl
      rw [e1, ← gcd_st a b]
      exact ih (a % b) b (by have := Nat.mod_lt a (show 0 < b by omega); omega) x0 x2 _
theorem m60 {x d : Int} (hd : 0 < d ∧ d ≤ 29160) (hx : -1000000000000000 ≤ x ∧ x ≤ 1000000000000000) : Ex 60 0 [vL x, none, vL d, none, none, none, none, none, none, none] [] iv (RV sa sb) Q = Q (vL (Int.gcd x d : Nat)) iv (RV sa sb) := by
  rw [b60_0, m59 (by omega) (by omega)]
  show Ex 60 4 _ [.inr (.inl (absI x))] _ _ _ = _
  rw [b60_4, m59 (by omega) (by omega)]
  show Ex 60 10 _ [.inr (.inl (absI d))] _ _ _ = _
  rw [b60_10, absI_nat, absI_nat]
  exact m60l _ _ _ (Nat.le_refl _) _ _ _
theorem gcd_pos {x d : Int} (hd : 0 < d) : 0 < (Int.gcd x d : Int) := by
  have : Int.gcd x d ≠ 0 := fun z => by
    have := (Int.gcd_eq_zero_iff.mp z).2
    omega
  omega
theorem m88 {x y : Int} (hx : -1000000000000000 ≤ x ∧ x ≤ 1000000000000000) (hy : 0 < y ∧ y ≤ 1000000000000000) : Ex 88 0 [vL x, none, vL y, none, none, none] [] iv (RV sa sb) Q = Q (vL (x / y)) iv (RV sa sb) := by
  have ht : -1000000000000000 ≤ x.tdiv y ∧ x.tdiv y ≤ 1000000000000000 := by
    have h1 : (x.tdiv y).natAbs ≤ x.natAbs := by
      rw [Int.natAbs_tdiv]
      exact Nat.div_le_self _ _
    omega
  have hm : x.tmod y = 0 ↔ x.tdiv y * y = x := by
    have h := Int.mul_tdiv_add_tmod x y
    have e : x.tdiv y * y = y * x.tdiv y := Int.mul_comm _ _
    omega
  rw [b88_0 (by omega), w64_of (x := x.tdiv y) (by omega) (by omega), fl_tdiv hy.1]
  by_cases c : x.tmod y = 0
  · rw [if_pos c, if_neg (fun z => z.2 (hm.mp c)), b88_26, b88_28]
  · rw [if_neg c, b88_13]
    by_cases d : x < 0
    · rw [if_pos d, if_pos ⟨d, fun z => c (hm.mpr z)⟩, b88_19, b88_28, w64_of (by omega) (by omega)]
    · rw [if_neg d, if_neg (fun z => d z.1), b88_26, b88_28]
theorem m89 {n e : Nat} {c : Cg} {S : Nat → Bool} (hn : n ≤ 5) (he : e < n) (hs : setM iv c n S) : Ex 89 0 [vR 66, vI e] [] iv (RV sa sb) Q = Q (vL (pix (iv 78 e) (iv 66 16))) iv (RV sa sb) := by
  obtain ⟨h1, h2, h3, h4⟩ := hs
  have hd := h1.1
  have hp := h3 e he
  rw [b89_0 (by omega) (by omega), Int.toNat_natCast, w64_of (x := 2 * iv 78 e) (by omega) (by omega), w64_of (x := 2 * iv 78 e + iv 66 16) (by omega) (by omega), w64_of (x := 2 * iv 66 16) (by omega) (by omega), m88 (by omega) (by omega)]
  show Ex 89 26 _ [.inr (.inl _)] _ _ _ = _
  rw [b89_26]
  rfl
theorem e86 (h : Rm iv g) : Ex 86 0 [vR 66] [] iv (RV sa sb) Q = Q (vI g.2.2.2.2.1) iv (RV sa sb) := by
  rw [b86_0, h.2.2.1]
theorem e94 {x : Int} (hB : sB g) (h : Rm iv g) : Ex 94 0 [vR 66, vI x] [] iv (RV sa sb) Q = Q (vI (aStay g x)) iv (RV sa sb) := by
  have hn := hB.1.1
  unfold aStay
  rw [b94_0, m72 hB h]
  by_cases c : 0 ≤ x ∧ x < (g.1 : Int)
  · rw [if_pos c, if_pos c]
    show Ex 94 5 _ [.inl 0] _ _ _ = _
    rw [b94_5, if_pos rfl, b94_13 c.1 (by omega), b94_19, (h.2.2.2.1 x.toNat (by omega)).1]
  · rw [if_neg c, if_neg c]
    show Ex 94 5 _ [.inl 1] _ _ _ = _
    rw [b94_5, if_neg (by omega), b94_8, b94_19]
theorem Rm.stay {iv' : mIv} {st : Nat → Int} (h : Rm iv g) (f : ∀ p j, p ≠ 67 → 66 ≤ p → p < 76 → iv' p j = iv p j) (e : ∀ t, t < 5 → iv' 67 t = st t) : Rm iv' (setC g (cSt (sC g) st)) := by
  obtain ⟨h1, h2, h3, h4, h5⟩ := h
  refine ⟨by rw [f _ _ (by omega) (by omega) (by omega)]; exact h1, by rw [f _ _ (by omega) (by omega) (by omega)]; exact h2, by rw [f _ _ (by omega) (by omega) (by omega)]; exact h3, fun t ht => ⟨e t ht, by rw [f _ _ (by omega) (by omega) (by omega)]; exact (h4 t ht).2⟩, fun w hw => ?_⟩
  rw [f _ _ (by omega) (by omega) (by omega), f _ _ (by omega) (by omega) (by omega), f _ _ (by omega) (by omega) (by omega), f _ _ (by omega) (by omega) (by omega), f _ _ (by omega) (by omega) (by omega), f _ _ (by omega) (by omega) (by omega)]
  obtain ⟨a0, a1, a2, a3, a4, a5, a6⟩ := h5 w hw
  exact ⟨a0, a1, a2, a3, a4, a5, fun e he => by rw [f _ _ (by omega) (by omega) (by omega)]; exact a6 e he⟩
theorem e95 {x y : Int} (hB : sB g) (h : Rm iv g) (hk : ∀ iv' : mIv, frC iv iv' → Rm iv' (aMove g x y).2 → Q (vI (aMove g x y).1) iv' (RV sa sb)) : Ex 95 0 [vR 66, vI x, vI y, none] [] iv (RV sa sb) Q := by
  have hr := hk iv (fun _ _ _ => rfl)
  unfold aMove at hk hr
  have hn := hB.1.1
  rw [b95_0, m72 hB h]
  by_cases c : 0 ≤ x ∧ x < (g.1 : Int)
  · rw [if_pos c]
    rw [if_pos c] at hk hr
    show Ex 95 5 _ [.inl 0] _ _ _
    rw [b95_5, if_pos rfl, b95_11, m58]
    by_cases d : -100000 ≤ y ∧ y ≤ 100000
    · rw [if_pos d]
      rw [if_pos d] at hk
      show Ex 95 22 _ [.inl 1] _ _ _
      rw [b95_22, if_neg (by omega), b95_28 c.1 (by omega), (h.2.2.2.1 x.toNat (by omega)).1]
      refine hk _ (fun p j hp => st2_ne (by omega)) (h.stay (fun p j n67 _ _ => st2_ne n67) (fun t ht => ?_))
      by_cases z : t = x.toNat
      · rw [z, st2_eq, up1_e]
      · rw [st2_nk z, up1_n _ _ z]; exact (h.2.2.2.1 t ht).1
    · rw [if_neg d]
      rw [if_neg d] at hr
      show Ex 95 22 _ [.inl 0] _ _ _
      rw [b95_22, if_pos rfl, b95_25]
      exact hr h
  · rw [if_neg c]
    rw [if_neg c] at hr
    show Ex 95 5 _ [.inl 1] _ _ _
    rw [b95_5, if_neg (by omega), b95_8]
    exact hr h
theorem e87 {x y : Int} (hB : sB g) (hSat : sSat g) (h : Rm iv g) (hk : ∀ iv' : mIv, frC iv iv' → Rm iv' g → Q (vI (aAt g x y)) iv' (RV sa sb)) : Ex 87 0 [vR 66, vI x, vI y, none, none] [] iv (RV sa sb) Q := by
  have hr := hk iv (fun _ _ _ => rfl) h
  have hn := hB.1.1
  unfold aAt at hk hr
  rw [b87_0, m72 hB h]
  by_cases c : 0 ≤ x ∧ x < (g.1 : Int)
  · rw [if_pos c]
    rw [if_pos c] at hr
    show Ex 87 5 _ [.inl 0] _ _ _
    rw [b87_5, if_pos rfl, b87_11, m58]
    by_cases d : 0 ≤ y ∧ y ≤ 1
    · rw [if_pos d]
      show Ex 87 18 _ [.inl 1] _ _ _
      rw [b87_18, if_neg (by omega), b87_24]
      refine m70 hB hSat h (fun iv' f h' hs => ?_)
      show Ex 87 28 _ [] _ _ _
      obtain ⟨h1, h2, h3, h4⟩ := hs
      have hp := h3 x.toNat (by omega)
      have hd := h1.1
      have hg := gcd_pos (x := iv' 78 x.toNat) hd
      have hfin := hk iv' f h'
      rw [if_pos c, if_pos d] at hfin
      have hlow := (oP_eq hB.1 (sS_hi g) h1).1 x.toNat (by omega) y
      have hlow' : low (iv' 78 x.toNat) (iv' 66 16) y = low (oX g x.toNat) (oD g) y := hlow
      rw [← hlow'] at hfin
      unfold low at hfin
      rw [b87_28 c.1 (by omega), m60 ⟨hd, h2⟩ (by omega)]
      show Ex 87 41 _ [.inr (.inl _)] _ _ _
      rw [b87_41]
      by_cases z : y = 0
      · rw [if_pos z] at hfin
        rw [if_pos z, b87_46 c.1 (by omega) (by omega), b87_63, tdiv_bd hg (by omega) (Int.gcd_dvd_left _ _)]
        exact hfin
      · rw [if_neg z] at hfin
        rw [if_neg z, b87_57 (by omega), b87_63, tdiv_bd hg (by omega) (Int.gcd_dvd_right _ _)]
        exact hfin
    · rw [if_neg d]
      rw [if_neg d] at hr
      show Ex 87 18 _ [.inl 0] _ _ _
      rw [b87_18, if_pos rfl, b87_21]
      exact hr
  · rw [if_neg c]
    rw [if_neg c] at hr
    show Ex 87 5 _ [.inl 1] _ _ _
    rw [b87_5, if_neg (by omega), b87_8]
    exact hr
theorem e90 {x : Int} (hB : sB g) (hSat : sSat g) (h : Rm iv g) (hk : ∀ iv' : mIv, frC iv iv' → Rm iv' g → Q (vI (aPix g x)) iv' (RV sa sb)) : Ex 90 0 [vR 66, vI x] [] iv (RV sa sb) Q := by
  have hr := hk iv (fun _ _ _ => rfl) h
  have hn := hB.1.1
  unfold aPix at hk hr
  rw [b90_0, m72 hB h]
  by_cases c : 0 ≤ x ∧ x < (g.1 : Int)
  · rw [if_pos c]
    show Ex 90 5 _ [.inl 0] _ _ _
    rw [b90_5, if_pos rfl, b90_11]
    refine m70 hB hSat h (fun iv' f h' hs => ?_)
    show Ex 90 15 _ [] _ _ _
    obtain ⟨e, he⟩ : ∃ e : Nat, x = e := ⟨x.toNat, by omega⟩
    subst he
    rw [b90_15, m89 hn (by omega) hs]
    show Ex 90 20 _ [.inr (.inl _)] _ _ _
    rw [b90_20]
    have := hk iv' f h'
    rw [if_pos c, Int.toNat_natCast] at this
    rw [(oP_eq hB.1 (sS_hi g) hs.1).2.1 e (by omega)]
    exact this
  · rw [if_neg c]
    rw [if_neg c] at hr
    show Ex 90 5 _ [.inl 1] _ _ _
    rw [b90_5, if_neg (by omega), b90_8]
    exact hr
theorem m64c {w : Nat} {c : Cg} {n : Nat} {S : Nat → Bool} (hw : w < 9) (hB : cB c n) (hW : Wm iv n c) (hs : setM iv c n S) : Ex 64 0 [vR 66, vI w, vR 78, vL (iv 66 16), none, none, none, none] [] iv (RV sa sb) Q = Q (vL (offV (c.2.1 w) (gW c n w (iv 78) (iv 66 16)))) iv (RV sa sb) ∧ -400000000000 ≤ gW c n w (iv 78) (iv 66 16) ∧ gW c n w (iv 78) (iv 66 16) ≤ 400000000000 := by
  obtain ⟨h1, h2, h3, h4⟩ := hs
  exact m64 (Or.inr rfl) hw hB hW ⟨h1.1, h2⟩ (fun e he => by have := h3 e he; omega)
theorem e91 {x y : Int} (hB : sB g) (hSat : sSat g) (h : Rm iv g) (hk : ∀ iv' : mIv, frC iv iv' → Rm iv' g → Q (vL (aOff g x y)) iv' (RV sa sb)) : Ex 91 0 [vR 66, vI x, vI y, none, none, none, none] [] iv (RV sa sb) Q := by
  have hr := hk iv (fun _ _ _ => rfl) h
  unfold aOff at hk hr
  rw [b91_0]
  refine m73 h (fun c => ?_) (fun c => ?_)
  · rw [if_pos c] at hr
    show Ex 91 5 _ [.inl 0] _ _ _
    rw [b91_5, if_pos rfl, b91_12, m58]
    by_cases d : 0 ≤ y ∧ y ≤ 1
    · rw [if_pos d]
      show Ex 91 19 _ [.inl 1] _ _ _
      rw [b91_19, if_neg (by omega), b91_26]
      refine m70 hB hSat h (fun iv' f h' hs => ?_)
      show Ex 91 30 _ [] _ _ _
      obtain ⟨w, he⟩ : ∃ w : Nat, x = w := ⟨x.toNat, by have := c.1; omega⟩
      subst he
      have hw : w < 9 := by have := c.2.1; omega
      obtain ⟨q1, q2⟩ := m64c (c := sC g) (n := g.1) (S := sS g) (sa := sa) (sb := sb) (Q := fun v iv2 rv2 => Ex 91 43 [vR 66, vI w, vI y, none, none, none, none] (mpush v []) iv2 rv2 Q) hw hB.1 h'.W hs
      rw [b91_30, q1]
      show Ex 91 43 _ [.inr (.inl _)] _ _ _
      obtain ⟨h1, h2, h3, h4⟩ := hs
      have q3 := offV_bd (re := (sC g).2.1 w) (B := 400000000000) q2
      have hfin := hk iv' f h'
      rw [if_pos c, if_pos d, Int.toNat_natCast] at hfin
      have hlow : low (offV ((sC g).2.1 w) (gW (sC g) g.1 w (iv' 78) (iv' 66 16))) (iv' 66 16) y = low (oOff g w) (oD g) y := (oP_eq hB.1 (sS_hi g) h1).2.2.1 w y
      rw [← hlow] at hfin
      unfold low at hfin
      have hg := gcd_pos (x := offV ((sC g).2.1 w) (gW (sC g) g.1 w (iv' 78) (iv' 66 16))) h1.1
      rw [b91_43, m60 ⟨h1.1, h2⟩ (by omega)]
      show Ex 91 52 _ [.inr (.inl _)] _ _ _
      have hd1 := h1.1
      rw [b91_52]
      by_cases z : y = 0
      · rw [if_pos z] at hfin
        rw [if_pos z, b91_58 (by omega), b91_72, tdiv_bd hg (by omega) (Int.gcd_dvd_left _ _)]
        exact hfin
      · rw [if_neg z] at hfin
        rw [if_neg z, b91_65 (by omega), b91_72, tdiv_bd hg (by omega) (Int.gcd_dvd_right _ _)]
        exact hfin
    · rw [if_neg d]
      rw [if_neg d] at hr
      show Ex 91 19 _ [.inl 0] _ _ _
      rw [b91_19, if_pos rfl, b91_22]
      exact hr
  · rw [if_neg c] at hr
    show Ex 91 5 _ [.inl 1] _ _ _
    rw [b91_5, if_neg (by omega), b91_8]
    exact hr
theorem e92 {x y : Int} (hB : sB g) (hSat : sSat g) (h : Rm iv g) (hk : ∀ iv' : mIv, frC iv iv' → Rm iv' g → Q (vL (aCost g x y)) iv' (RV sa sb)) : Ex 92 0 [vR 66, vI x, vI y, none, none, none, none] [] iv (RV sa sb) Q := by
  have hr := hk iv (fun _ _ _ => rfl) h
  unfold aCost at hk hr
  have bad : ¬ ((1 ≤ x ∧ x ≤ 3) ∧ 0 ≤ y ∧ y ≤ 1) → Ex 92 22 [vR 66, vI x, vI y, none, none, none, none] [] iv (RV sa sb) Q := fun z => by
    rw [b92_22]
    rw [if_neg z] at hr
    exact hr
  rw [b92_0, m58]
  by_cases c : 1 ≤ x ∧ x ≤ 3
  · rw [if_pos c]
    show Ex 92 9 _ [.inl 1] _ _ _
    rw [b92_9, if_neg (by omega), b92_12, m58]
    by_cases d : 0 ≤ y ∧ y ≤ 1
    · rw [if_pos d]
      show Ex 92 19 _ [.inl 1] _ _ _
      rw [b92_19, if_neg (by omega), b92_26]
      refine m70 hB hSat h (fun iv' f h' hs => ?_)
      show Ex 92 30 _ [] _ _ _
      obtain ⟨L, hLe⟩ : ∃ L : Nat, x = ((L + 1 : Nat) : Int) := ⟨(x - 1).toNat, by omega⟩
      subst hLe
      have hfin := hk iv' f h'
      rw [if_pos ⟨c, d⟩, Int.toNat_natCast] at hfin
      obtain ⟨h1, h2, h3, h4⟩ := hs
      obtain ⟨p1, p2, p3⟩ := h4 L (by omega)
      have hlow : low (cT (sC g) g.1 (sS g) (L + 1) (iv' 78) (iv' 66 16)) (iv' 66 16) y = low (cT (sC g) g.1 (sS g) (L + 1) (oX g) (oD g)) (oD g) y := (oP_eq hB.1 (sS_hi g) h1).2.2.2.1 (L + 1) (by omega) y
      rw [← hlow, ← p1] at hfin
      unfold low at hfin
      have hd1 := h1.1
      have hg := gcd_pos (x := iv' 80 L) hd1
      have e1 : w32 (((L + 1 : Nat) : Int) - 1) = (L : Int) := by rw [w32_of (by omega) (by omega)]; omega
      rw [b92_30 (by rw [e1]; omega) (by rw [e1]; omega), e1, Int.toNat_natCast, m60 ⟨hd1, h2⟩ (by clear e1; omega)]
      clear e1
      show Ex 92 47 _ [.inr (.inl _)] _ _ _
      rw [b92_47]
      by_cases z : y = 0
      · rw [if_pos z] at hfin
        rw [if_pos z, b92_53 (by omega), b92_67, tdiv_bd hg (by omega) (Int.gcd_dvd_left _ _)]
        exact hfin
      · rw [if_neg z] at hfin
        rw [if_neg z, b92_60 (by omega), b92_67, tdiv_bd hg (by omega) (Int.gcd_dvd_right _ _)]
        exact hfin
    · rw [if_neg d]
      show Ex 92 19 _ [.inl 0] _ _ _
      rw [b92_19, if_pos rfl]
      exact bad (fun z => d z.2)
  · rw [if_neg c]
    show Ex 92 9 _ [.inl 0] _ _ _
    rw [b92_9, if_pos rfl]
    exact bad (fun z => c z.1)
theorem e85 {x : Int} (hB : sB g) (hSat : sSat g) (h : Rm iv g) (hk : ∀ iv' : mIv, frC iv iv' → Rm iv' g → Q (vI (aCount g x)) iv' (RV sa sb)) : Ex 85 0 [vR 66, vI x, none, none] [] iv (RV sa sb) Q := by
  have hr := hk iv (fun _ _ _ => rfl) h
  unfold aCount at hk hr
  rw [b85_0, m58]
  by_cases c : 0 ≤ x ∧ x ≤ 3
  · rw [if_pos c]
    show Ex 85 9 _ [.inl 1] _ _ _
    rw [b85_9, if_neg (by omega), b85_15]
    by_cases d : x < 2
    · rw [if_pos d, b85_20]
      by_cases z : x = 0
      · rw [if_pos z] at hr
        rw [if_pos z, b85_24, b85_35, h.1]
        exact hr
      · rw [if_neg z, if_pos (by omega)] at hr
        rw [if_neg z, b85_31, b85_35, h.2.1]
        exact hr
    · rw [if_neg d, b85_36]
      refine m70 hB hSat h (fun iv' f h' hs => ?_)
      show Ex 85 40 _ [] _ _ _
      rw [b85_40]
      have hfin := hk iv' f h'
      rw [if_neg (by omega), if_neg (by omega)] at hfin
      have hq := (oP_eq hB.1 (sS_hi g) hs.1)
      -- what is counted
      have loop : ∀ F : Nat → Bool, (∀ k, k < 9 → (F k = true ↔ sS g k = true ∧ ((x = 2 ∧ (sC g).2.2.1 k = 0) ∨ (x ≠ 2 ∧ oOff g k ≠ 0)))) → Q (vI (nIn F : Nat)) iv' (RV sa sb) → ∀ t k : Nat, k + t = 9 → Ex 85 44 [vR 66, vI x, vI (nth (fun w => if F w = true then 1 else 0) k : Nat), vI k] [] iv' (RV sa sb) Q := by
        intro F hF hend t
        induction t with
        | zero =>
          intro k hk'
          have : k = 9 := by omega
          subst this
          rw [b85_44, if_neg (by omega), b85_122]
          exact hend
        | succ t ih =>
          intro k hk'
          have hk9 : k < 9 := by omega
          have hle := nth_le (fun w => if F w = true then 1 else 0) k
          have hih := ih (k + 1) (by omega)
          obtain ⟨a0, a1, a2, a3, a4, a5, a6⟩ := h'.2.2.2.2 k hk9
          have e0 : F k ≠ true → nth (fun w => if F w = true then 1 else 0) (k + 1) = nth (fun w => if F w = true then 1 else 0) k := fun z => by
            show _ + (if (if F k = true then (1 : Int) else 0) = 0 then 0 else 1) = _
            rw [if_pos (by rw [if_neg z])]; rfl
          have e1 : F k = true → ((nth (fun w => if F w = true then 1 else 0) (k + 1) : Nat) : Int) = (nth (fun w => if F w = true then 1 else 0) k : Nat) + 1 := fun z => by
            show ((_ + (if (if F k = true then (1 : Int) else 0) = 0 then 0 else 1) : Nat) : Int) = _
            rw [if_neg (by rw [if_pos z]; omega)]; omega
          have skip : F k ≠ true → Ex 85 116 [vR 66, vI x, vI (nth (fun w => if F w = true then 1 else 0) k : Nat), vI k] [] iv' (RV sa sb) Q := fun z => by
            rw [e0 z] at hih
            rw [b85_116, w32_of (by omega) (by omega)]
            exact hih
          have one : ∀ y : Int, ((y = 1 ∧ F k = true) ∨ (y = 0 ∧ F k ≠ true)) → Ex 85 114 [vR 66, vI x, vI (nth (fun w => if F w = true then 1 else 0) k : Nat), vI k] [.inl y, .inl (nth (fun w => if F w = true then 1 else 0) k : Nat)] iv' (RV sa sb) Q := fun y hy => by
            rw [b85_114]
            rcases hy with ⟨q1, q2⟩ | ⟨q1, q2⟩
            · rw [q1, w32_of (by omega) (by omega), b85_116, w32_of (by omega) (by omega), ← e1 q2]
              exact hih
            · rw [q1, Int.add_zero, w32_of (by omega) (by omega)]
              exact skip q2
          rw [b85_44, if_pos (by omega), b85_50 (by omega) (by omega), Int.toNat_natCast, a0]
          by_cases z0 : g.2.2.1 k = 0
          · rw [if_pos z0]
            exact skip (fun y => (of_decide_eq_true ((hF k hk9).mp y).1).2.1 z0)
          · rw [if_neg z0, b85_59 (by omega) (by omega), Int.toNat_natCast, a1]
            by_cases z1 : g.2.2.2.1 k = 0
            · have hS : sS g k = true := decide_eq_true ⟨hk9, z0, z1⟩
              rw [if_pos z1, b85_68]
              by_cases z2 : x = 2
              · rw [if_pos z2, b85_74 (by omega) (by omega), Int.toNat_natCast, a3]
                by_cases z3 : (sC g).2.2.1 k = 0
                · rw [if_pos z3, b85_83]
                  exact one 1 (Or.inl ⟨rfl, (hF k hk9).mpr ⟨hS, Or.inl ⟨z2, z3⟩⟩⟩)
                · rw [if_neg z3, b85_87]
                  refine one 0 (Or.inr ⟨rfl, fun y => ?_⟩)
                  rcases ((hF k hk9).mp y).2 with q | q
                  · exact z3 q.2
                  · exact q.1 z2
              · obtain ⟨q1, q2⟩ := m64c (sa := sa) (sb := sb) (Q := fun v iv2 rv2 => Ex 85 104 [vR 66, vI x, vI (nth (fun w => if F w = true then 1 else 0) k : Nat), vI k] (mpush v [.inl (nth (fun w => if F w = true then 1 else 0) k : Nat)]) iv2 rv2 Q) hk9 hB.1 h'.W hs
                rw [if_neg z2, b85_91, q1]
                show Ex 85 104 _ [.inr (.inl _), .inl _] _ _ _
                have hz : offV ((sC g).2.1 k) (gW (sC g) g.1 k (iv' 78) (iv' 66 16)) = 0 ↔ oOff g k = 0 := off0 hs.1.1 hq.2.2.2.2.2 (hq.2.2.2.2.1 k)
                have hnn := offV_nn ((sC g).2.1 k) (gW (sC g) g.1 k (iv' 78) (iv' 66 16))
                rw [b85_104]
                by_cases z3 : 0 < offV ((sC g).2.1 k) (gW (sC g) g.1 k (iv' 78) (iv' 66 16))
                · rw [if_pos z3, b85_109]
                  exact one 1 (Or.inl ⟨rfl, (hF k hk9).mpr ⟨hS, Or.inr ⟨z2, fun y => by have := hz.mpr y; omega⟩⟩⟩)
                · rw [if_neg z3, b85_113]
                  refine one 0 (Or.inr ⟨rfl, fun y => ?_⟩)
                  rcases ((hF k hk9).mp y).2 with q | q
                  · exact z2 q.1
                  · exact q.2 (hz.mp (by omega))
            · rw [if_neg z1]
              exact skip (fun y => z1 (of_decide_eq_true ((hF k hk9).mp y).1).2.2)
      by_cases z : x = 2
      · rw [if_pos z] at hfin
        refine loop (sM g) (fun k hk' => ?_) hfin 9 0 rfl
        constructor
        · intro q
          exact ⟨sM_S q, Or.inl ⟨z, (of_decide_eq_true q).2.2.2⟩⟩
        · rintro ⟨q1, q2 | q2⟩
          · have := of_decide_eq_true q1
            exact decide_eq_true ⟨hk', this.2.1, this.2.2, q2.2⟩
          · exact absurd z q2.1
      · rw [if_neg z, if_pos (by omega)] at hfin
        refine loop (fun w => decide (sS g w = true ∧ oOff g w ≠ 0)) (fun k hk' => ?_) hfin 9 0 rfl
        constructor
        · intro q
          have := of_decide_eq_true q
          exact ⟨this.1, Or.inr ⟨z, this.2⟩⟩
        · rintro ⟨q1, q2 | q2⟩
          · exact absurd q2.1 z
          · exact decide_eq_true ⟨q1, q2.2⟩
  · rw [if_neg c]
    show Ex 85 9 _ [.inl 0] _ _ _
    rw [b85_9, if_pos rfl, b85_12]
    rw [if_neg (by omega), if_neg (by omega), if_neg (by omega), if_neg (by omega)] at hr
    exact hr
theorem sat_sub {c : Cg} {n : Nat} {S S' : Nat → Bool} (hB : cB c n) (hw1 : ∀ w, w < 9 → S w = true → 1 ≤ c.2.2.2.1 w) (h : ∀ w, S' w = true → S w = true) (hs : cSat c n S) : cSat c n S' := by
  rw [sat_iff hB hw1] at hs
  rw [sat_iff hB (fun w hw z => hw1 w hw (h w z))]
  obtain ⟨Y, r, hr, k⟩ := hs
  exact ⟨Y, r, hr, fun w hw z hl => k w hw (h w z) hl⟩
theorem clrS_le {S : Nat → Bool} {v w : Nat} (h : clrS S v w = true) : S w = true := by
  unfold clrS at h
  split at h
  · cases h
  · exact h
theorem e93 {x : Int} (hB : sB g) (hSat : sSat g) (h : Rm iv g) (hk : ∀ iv' : mIv, frC iv iv' → Rm iv' g → Q (vI (aWhy g x)) iv' (RV sa sb)) : Ex 93 0 [vR 66, vI x, none, none, none, none, none, none, none, none] [] iv (RV sa sb) Q := by
  have hr := hk iv (fun _ _ _ => rfl) h
  unfold aWhy at hk hr
  rw [b93_0]
  refine m73 h (fun c => ?_) (fun c => ?_)
  · rw [if_pos c] at hr
    show Ex 93 5 _ [.inl 0] _ _ _
    obtain ⟨w, hwe⟩ : ∃ w : Nat, x = w := ⟨x.toNat, by have := c.1; omega⟩
    subst hwe
    have hw : w < 9 := by have := c.2.1; omega
    rw [b93_5, if_pos rfl, b93_11 (by omega) (by omega), Int.toNat_natCast, (h.2.2.2.2 w hw).2.1]
    rw [Int.toNat_natCast] at hr
    by_cases d : g.2.2.2.1 w = 0
    · rw [if_pos d, b93_22]
      refine m70 hB hSat h (fun iv' f h' hs => ?_)
      show Ex 93 26 _ [] _ _ _
      obtain ⟨q1, q2⟩ := m64c (sa := sa) (sb := sb) (Q := fun v iv2 rv2 => Ex 93 39 [vR 66, vI w, none, none, none, none, none, none, none, none] (mpush v []) iv2 rv2 Q) hw hB.1 h'.W hs
      rw [b93_26, q1]
      show Ex 93 39 _ [.inr (.inl _)] _ _ _
      have hq := (oP_eq hB.1 (sS_hi g) hs.1)
      have hz : offV ((sC g).2.1 w) (gW (sC g) g.1 w (iv' 78) (iv' 66 16)) = 0 ↔ oOff g w = 0 := off0 hs.1.1 hq.2.2.2.2.2 (hq.2.2.2.2.1 w)
      rw [b93_39]
      by_cases y : offV ((sC g).2.1 w) (gW (sC g) g.1 w (iv' 78) (iv' 66 16)) = 0
      · have hfin := hk iv' f h'
        rw [if_pos c, Int.toNat_natCast, if_neg (fun z => z d), if_pos (hz.mp y)] at hfin
        rw [if_pos y, b93_52]
        exact hfin
      · rw [if_neg y, b93_54, m69 h']
        show Ex 93 58 _ [.inl _] _ _ _
        rw [b93_58]
        have hfin : ∀ iv'' : mIv, frC iv iv'' → Rm iv'' g → Q (vI (bo 9 (whyS g w) : Nat)) iv'' (RV sa sb) := fun iv'' f'' h'' => by
          have := hk iv'' f'' h''
          rw [if_pos c, Int.toNat_natCast, if_neg (fun z => z d), if_neg (fun z => y (hz.mpr z))] at this
          exact this
        have hs9 := bo_lt (S := sS g) 9 (by omega)
        generalize hO : offV ((sC g).2.1 w) (gW (sC g) g.1 w (iv' 78) (iv' 66 16)) = o at *
        have ho : 0 ≤ o ∧ o ≤ 400000000000 := by rw [← hO]; exact offV_bd q2
        have hD : 0 < iv' 66 16 ∧ iv' 66 16 ≤ 29160 := ⟨hs.1.1, hs.2.1⟩
        have hoD : oD g * o = iv' 66 16 * oOff g w := by rw [← hO]; exact hq.2.2.2.2.1 w
        have loop : ∀ t k : Nat, k + t = 9 → ∀ (ivc : mIv) (u9 : Option mV), frC iv ivc → Rm ivc g → Ex 93 66 [vR 66, vI w, vL o, none, vL (iv' 66 16), none, vI (bo 9 (sS g) : Nat), vI (bo k (whyS g w) : Nat), vI k, u9] [] ivc (RV sa sb) Q := by
          intro t
          induction t with
          | zero =>
            intro k hk' ivc u9 fc hc
            have : k = 9 := by omega
            subst this
            rw [b93_66, if_neg (by omega), b93_170]
            exact hfin ivc fc hc
          | succ t ih =>
            intro k hk' ivc u9 fc hc
            have hk9 : k < 9 := by omega
            have hlt := bo_lt (S := whyS g w) k (by omega)
            have skip : ∀ (ivd : mIv) (u9 : Option mV), frC iv ivd → Rm ivd g → ¬ (k ≠ w ∧ sS g k = true ∧ (sC g).2.2.1 k ≤ (sC g).2.2.1 w ∧ nearer g w k) → Ex 93 164 [vR 66, vI w, vL o, none, vL (iv' 66 16), none, vI (bo 9 (sS g) : Nat), vI (bo k (whyS g w) : Nat), vI k, u9] [] ivd (RV sa sb) Q := fun ivd u9 fd hd z => by
              have e : bo (k + 1) (whyS g w) = bo k (whyS g w) := by
                show (if whyS g w k = true then _ else _) = _
                rw [if_neg (show ¬ whyS g w k = true from fun y => z (of_decide_eq_true y))]
              have := ih (k + 1) (by omega) ivd u9 fd hd
              rw [e] at this
              rw [b93_164, w32_of (by omega) (by omega)]
              exact this
            obtain ⟨a0, a1, a2, a3, a4, a5, a6⟩ := hc.2.2.2.2 k hk9
            obtain ⟨a0', a1', a2', a3', a4', a5', a6'⟩ := hc.2.2.2.2 w hw
            rw [b93_66, if_pos (by omega), b93_73]
            by_cases e1 : k = w
            · rw [if_pos (by omega)]
              exact skip ivc u9 fc hc (fun z => z.1 e1)
            · rw [if_neg (by omega), b93_79]
              by_cases e2 : sS g k = true
              · have hbk : (bo 9 (sS g)).testBit k = true := by rw [bo_9 hk9]; exact e2
                rw [if_pos ((bt9 hs9 hk9).mpr hbk), b93_90 (by omega) (by omega) (by omega) (by omega), Int.toNat_natCast, Int.toNat_natCast, a3, a3']
                by_cases e3 : (sC g).2.2.1 w < (sC g).2.2.1 k
                · rw [if_pos e3]
                  exact skip ivc u9 fc hc (fun z => by omega)
                · rw [if_neg e3, b93_106, clr_i _ hs9 k hk9]
                  have hcl := clr_lt _ hs9 k hk9
                  have hcS : (clr (bo 9 (sS g)) k).testBit = clrS (sS g) k := by rw [clr_S hs9 hk9, bo_S (sS_hi g)]
                  have f0 : ∀ p j, ¬ (p = 66 ∧ j = 19) → st2 ivc 66 19 (clr (bo 9 (sS g)) k : Nat) p j = ivc p j := fun p j hp => by unfold st2; rw [if_neg hp]
                  have hR : Rm (st2 ivc 66 19 (clr (bo 9 (sS g)) k : Nat)) g := hc.fr (fun p j _ _ hn => f0 p j (by omega))
                  refine m68 hcl hB.1 (fun v hv z => hw_S hB v hv (by rw [hcS] at z; exact clrS_le z)) hR.W st2_eq (fun hno iv2 f2 => ?_) (fun _ iv2 f2 o1 o2 o3 o4 => ?_)
                  · rw [hcS] at hno
                    exact absurd (sat_sub hB.1 (hw_S hB) (fun v z => clrS_le z) hSat) hno
                  · rw [hcS] at o1 o4
                    show Ex 93 123 _ [.inl 1] _ _ _
                    have hR2 : Rm iv2 g := hR.fr (fun p j z1 z2 z3 => f2 p j (by omega) (by omega))
                    have fc2 : frC iv iv2 := fun p j hp => by rw [f2.C p j hp, f0 p j (by omega)]; exact fc p j hp
                    obtain ⟨p1, p2⟩ := m64c (sa := sa) (sb := sb) (Q := fun v' iv3 rv3 => Ex 93 140 [vR 66, vI w, vL o, none, vL (iv' 66 16), none, vI (bo 9 (sS g) : Nat), vI (bo k (whyS g w) : Nat), vI k, vI 1] (mpush v' [.inl (bo k (whyS g w) : Nat)]) iv3 rv3 Q) hw hB.1 hR2.W (⟨o1, o2, o3, o4⟩ : setM iv2 (sC g) g.1 (clrS (sS g) k))
                    rw [b93_123, p1]
                    show Ex 93 140 _ [.inr (.inl _), .inl _] _ _ _
                    rw [b93_140, w_ml (offV_bd p2) hD, w_ml ho ⟨o1.1, o2⟩]
                    have u2 := oP_eq hB.1 (clrS_hi (sS_hi g) k) o1
                    have hiff : offV ((sC g).2.1 w) (gW (sC g) g.1 w (iv2 78) (iv2 66 16)) * iv' 66 16 < o * iv2 66 16 ↔ nearer g w k := frac_lt hD.1 hq.2.2.2.2.2 o1.1 u2.2.2.2.2.2 hoD (u2.2.2.2.2.1 w)
                    by_cases e4 : nearer g w k
                    · have e : bo (k + 1) (whyS g w) = adb (bo k (whyS g w)) k := by
                        show (if whyS g w k = true then _ else _) = _
                        rw [if_pos (show whyS g w k = true from decide_eq_true ⟨e1, e2, by omega, e4⟩)]
                      have := ih (k + 1) (by omega) iv2 (vI 1) fc2 hR2
                      rw [e] at this
                      rw [if_pos (hiff.mpr e4), b93_153, b93_161, adb_i _ hlt k hk9, b93_164, w32_of (by omega) (by omega)]
                      exact this
                    · rw [if_neg (fun z => e4 (hiff.mp z)), b93_160, b93_161, or0_i _ hlt]
                      exact skip iv2 _ fc2 hR2 (fun z => e4 z.2.2.2)
              · have hbk : ¬ (bo 9 (sS g)).testBit k = true := by rw [bo_9 hk9]; exact e2
                rw [if_neg (fun z => hbk ((bt9 hs9 hk9).mp z))]
                exact skip ivc u9 fc hc (fun z => e2 z.2.1)
        exact loop 9 0 rfl iv' none f h'
    · rw [if_neg d, b93_20]
      rw [if_pos d] at hr
      exact hr
  · rw [if_neg c] at hr
    show Ex 93 5 _ [.inl 1] _ _ _
    rw [b93_5, if_neg (by omega), b93_8]
    exact hr
theorem e96 (hB : sB g) (hSat : sSat g) (h : Rm iv g) (hk : ∀ iv' : mIv, frC iv iv' → Rm iv' (aSettle g).2 → Q (vI (aSettle g).1) iv' (RV sa sb)) : Ex 96 0 [vR 66, none, none, none] [] iv (RV sa sb) Q := by
  have hn := hB.1.1
  rw [b96_0]
  refine m70 hB hSat h (fun iv1 f1 h1 hs => ?_)
  show Ex 96 4 _ [] _ _ _
  rw [b96_4]
  have hq := (oP_eq hB.1 (sS_hi g) hs.1)
  have hpx : ∀ e, e < g.1 → pix (iv1 78 e) (iv1 66 16) = pxS g e := fun e he => hq.2.1 e he
  have two : (∀ e, e < g.1 → -100000 ≤ pxS g e ∧ pxS g e ≤ 100000) → Ex 96 40 [vR 66, vI g.1, none, none] [] iv1 (RV sa sb) Q := by
    intro hin
    have hk' := fun iv' hf => hk iv' hf
    unfold aSettle at hk'
    rw [if_pos hin] at hk'
    rw [b96_40]
    have loop : ∀ t k : Nat, k + t = g.1 → ∀ (ivc : mIv) (u3 : Option mV), (∀ p j, p ≠ 67 → ivc p j = iv1 p j) → (∀ e, e < 5 → ivc 67 e = if e < k then pxS g e else (sC g).2.2.2.2.2 e) → Ex 96 44 [vR 66, vI (nth (fun e => if (sC g).2.2.2.2.2 e = pxS g e then 0 else 1) k : Nat), vI k, u3] [] ivc (RV sa sb) Q := by
      intro t
      induction t with
      | zero =>
        intro k hkn ivc u3 fc hst
        have ek : k = g.1 := by omega
        rw [ek] at hst ⊢
        rw [b96_44, if_neg (by rw [fc 66 0 (by omega), h1.1]; omega), b96_90]
        refine hk' ivc (fun p j hp => by rw [fc p j (by omega)]; exact f1 p j hp) (h1.stay (fun p j n67 _ _ => fc p j n67) (fun t ht => ?_))
        rw [hst t ht]; rfl
      | succ t ih =>
        intro k hkn ivc u3 fc hst
        have hle := nth_le (fun e => if (sC g).2.2.2.2.2 e = pxS g e then 0 else 1) k
        have hi := hin k (by omega)
        have e1 : ivc 67 k = (sC g).2.2.2.2.2 k := by rw [hst k (by omega), if_neg (by omega)]
        have hsc : setM ivc (sC g) g.1 (sS g) := by
          have e78 : ivc 78 = iv1 78 := by funext j; exact fc 78 j (by omega)
          unfold setM
          rw [e78, fc 66 16 (by omega)]
          refine ⟨hs.1, hs.2.1, hs.2.2.1, fun k hk => ?_⟩
          rw [fc 80 k (by omega)]; exact hs.2.2.2 k hk
        have hpk : pix (ivc 78 k) (ivc 66 16) = pxS g k := by rw [fc _ _ (by omega), fc _ _ (by omega)]; exact hpx k (by omega)
        have upd' : ∀ e, e < 5 → st2 ivc 67 k (pxS g k) 67 e = if e < k + 1 then pxS g e else (sC g).2.2.2.2.2 e := fun e he => by
          by_cases z : e = k
          · rw [z, st2_eq, if_pos (by omega)]
          · rw [st2_nk z, hst e he]
            by_cases z2 : e < k
            · rw [if_pos z2, if_pos (by omega)]
            · rw [if_neg z2, if_neg (by omega)]
        rw [b96_44, if_pos (by rw [fc 66 0 (by omega), h1.1]; omega), b96_52, m89 hn (by omega) hsc, hpk]
        show Ex 96 57 _ [.inr (.inl _)] _ _ _
        rw [b96_57 (by omega) (by omega), Int.toNat_natCast, w32_of (x := pxS g k) (by omega) (by omega), e1]
        by_cases q : (sC g).2.2.2.2.2 k = pxS g k
        · have e : nth (fun e => if (sC g).2.2.2.2.2 e = pxS g e then 0 else 1) (k + 1) = nth (fun e => if (sC g).2.2.2.2.2 e = pxS g e then 0 else 1) k := by
            show _ + (if (if (sC g).2.2.2.2.2 k = pxS g k then (0 : Int) else 1) = 0 then 0 else 1) = _
            rw [if_pos (by rw [if_pos q])]; rfl
          rw [if_pos q, b96_74, b96_75 (by omega) (by omega), Int.toNat_natCast, Int.add_zero, w32_of (by omega) (by omega), w32_of (by omega) (by omega)]
          have := ih (k + 1) (by omega) (st2 ivc 67 k (pxS g k)) (vI (pxS g k)) (fun p j n67 => by rw [st2_ne n67]; exact fc p j n67) upd'
          rw [e] at this
          exact this
        · have e : ((nth (fun e => if (sC g).2.2.2.2.2 e = pxS g e then 0 else 1) (k + 1) : Nat) : Int) = (nth (fun e => if (sC g).2.2.2.2.2 e = pxS g e then 0 else 1) k : Nat) + 1 := by
            show ((_ + (if (if (sC g).2.2.2.2.2 k = pxS g k then (0 : Int) else 1) = 0 then 0 else 1) : Nat) : Int) = _
            rw [if_neg (by rw [if_neg q]; omega)]; omega
          rw [if_neg q, b96_70, b96_75 (by omega) (by omega), Int.toNat_natCast, w32_of (by omega) (by omega), w32_of (by omega) (by omega)]
          have := ih (k + 1) (by omega) (st2 ivc 67 k (pxS g k)) (vI (pxS g k)) (fun p j n67 => by rw [st2_ne n67]; exact fc p j n67) upd'
          rw [e] at this
          exact this
    refine loop g.1 0 (by omega) iv1 none (fun _ _ _ => rfl) (fun e he => ?_)
    rw [if_neg (by omega)]
    exact (h1.2.2.2.1 e he).1
  have loop : ∀ t k : Nat, k + t = g.1 → (∀ e, e < k → -100000 ≤ pxS g e ∧ pxS g e ≤ 100000) → Ex 96 6 [vR 66, vI k, none, none] [] iv1 (RV sa sb) Q := by
    intro t
    induction t with
    | zero =>
      intro k hkn hin
      have : k = g.1 := by omega
      rw [this] at hin ⊢
      rw [b96_6, if_neg (by rw [h1.1]; omega)]
      exact two hin
    | succ t ih =>
      intro k hkn hin
      rw [b96_6, if_pos (by rw [h1.1]; omega), b96_14, m89 hn (by omega) hs, hpx k (by omega)]
      show Ex 96 19 _ [.inr (.inl _)] _ _ _
      rw [b96_19, m58]
      by_cases z : -100000 ≤ pxS g k ∧ pxS g k ≤ 100000
      · rw [if_pos z]
        show Ex 96 28 _ [.inl 1] _ _ _
        rw [b96_28, if_neg (by omega), b96_34, w32_of (by omega) (by omega)]
        refine ih (k + 1) (by omega) (fun e he => ?_)
        by_cases q : e = k
        · rw [q]; exact z
        · exact hin e (by omega)
      · rw [if_neg z]
        show Ex 96 28 _ [.inl 0] _ _ _
        rw [b96_28, if_pos rfl, b96_31]
        have := hk iv1 f1
        unfold aSettle at this
        rw [if_neg (fun q => z (q k (by omega)))] at this
        exact this h1
  exact loop g.1 0 (by omega) (fun e he => by omega)
end MAS
