/-! areMustsMet, solve, missOf -/
theorem m4 {sa sb : Nat} {iv : mIv} {Q : Option mV → mIv → mRv → Prop} {b n m : Nat} (hb : b = 24 ∨ b = 45) (hv : svB iv b n m) (k0 : (∃ i, i < m ∧ lvF iv b (lnR iv b i) = 0 ∧ rsF iv b i ≠ 0 ∧ slp (abF iv b) (beF iv b) (lnR iv b) (sdF iv b) i ≠ 0) → Q (vI 0) iv (RV sa sb)) (k1 : (∀ i, i < m → lvF iv b (lnR iv b i) = 0 → rsF iv b i = 0 ∨ slp (abF iv b) (beF iv b) (lnR iv b) (sdF iv b) i = 0) → Q (vI 1) iv (RV sa sb)) : Ex 4 0 [vR b, none] [] iv (RV sa sb) Q := by
  obtain ⟨h1, h2, h3, h4, h5, h6, h7, h8, h9, h10, h11⟩ := hv
  rw [b4_0 hb]
  have loop : ∀ t k : Nat, k + t = m → (∀ i, i < k → lvF iv b (lnR iv b i) = 0 → rsF iv b i = 0 ∨ slp (abF iv b) (beF iv b) (lnR iv b) (sdF iv b) i = 0) → Ex 4 2 [vR b, vI k] [] iv (RV sa sb) Q := by
    intro t
    induction t with
    | zero =>
      intro k hk h
      have : k = m := by omega
      subst this
      rw [b4_2 hb, if_neg (by rw [h2]; omega), b4_53 hb]
      exact k1 h
    | succ t ih =>
      intro k hk h
      have xk : ((k : Int)).toNat = k := Int.toNat_natCast k
      have l5 := h5 k (by omega)
      have l14 : lnR iv b k < 14 := by unfold lnR; omega
      have l7 := h7 _ l14
      have next : (lvF iv b (lnR iv b k) = 0 → rsF iv b k = 0 ∨ slp (abF iv b) (beF iv b) (lnR iv b) (sdF iv b) k = 0) → Ex 4 47 [vR b, vI k] [] iv (RV sa sb) Q := fun hk' => by
        rw [b4_47 hb, w32_of (by omega) (by omega)]
        refine ih (k + 1) (by omega) (fun i hi => ?_)
        by_cases e : i = k
        · rw [e]; exact hk'
        · exact h i (by omega)
      rw [b4_2 hb, if_pos (by rw [h2]; omega), b4_10 hb (by omega) (by omega) (by rw [xk]; exact l5.1) (by rw [xk]; exact l5.2), xk]
      by_cases c : iv (b + 17) (iv (b + 2) k).toNat = 0
      · have c' : lvF iv b (lnR iv b k) = 0 := by
          show (iv (b + 17) (iv (b + 2) k).toNat).toNat = 0
          rw [c]; rfl
        rw [if_pos c, b4_24 hb (by omega) (by omega), xk]
        by_cases z : iv (b + 5) k = 0
        · rw [if_pos z]; exact next (fun _ => Or.inl z)
        · rw [if_neg z, b4_35 hb, m10 hb (by omega) l5 (h8 _).2.2]
          show Ex 4 40 _ [.inr (.inl (slp (abF iv b) (beF iv b) (lnR iv b) (sdF iv b) k))] _ _ _
          rw [b4_40 hb]
          by_cases y : slp (abF iv b) (beF iv b) (lnR iv b) (sdF iv b) k = 0
          · rw [if_pos y]; exact next (fun _ => Or.inr y)
          · rw [if_neg y, b4_45 hb]
            exact k0 ⟨k, by omega, c', z, y⟩
      · rw [if_neg c]
        refine next (fun z => absurd ?_ c)
        have : (iv (b + 17) (lnR iv b k)).toNat = 0 := z
        show iv (b + 17) (lnR iv b k) = 0
        omega
  exact loop m 0 (by omega) (fun i hi => by omega)
/-- the cost of a level at the tableau's point -/
theorem okL.at {c : Cg} {n : Nat} {S : Nat → Bool} {iv : mIv} {b m : Nat} (h : okL c n S iv b m) {X : Nat → Int} (hX : ∀ j, j < n → gp (cA c n S) (cK c n S) (lnC iv b j) X (iv b 0) = 0) : (∀ i, i < m → gp (cA c n S) (cK c n S) (lnR iv b i) X (iv b 0) = rsF iv b i) ∧ ∀ L, cT c n S L X (iv b 0) = sm m (fun i => ind (lvF iv b (lnR iv b i) = L) (slp (abF iv b) (beF iv b) (lnR iv b) (sdF iv b) i * rsF iv b i)) := by
  have h0 := h
  obtain ⟨⟨a1, a2, a3, a4, a5, a6, a7, a8, hT, hp, hs, hg⟩, e2, e3⟩ := h
  have hXr : ∀ i, i < m → gp (cA c n S) (cK c n S) (lnR iv b i) X (iv b 0) = rsF iv b i := fun i hi => by
    have := hT.gap a3 (fun j _ => cA_flat c n S _) hi (cA_flat c n S _) X (iv b 0)
    rw [sm_0 (fun j hj => by
      have e : gp (cA c n S) (cK c n S) ((dcM iv b).1 j) X (iv b 0) = 0 := hX j hj
      rw [e, Int.mul_zero]), Int.add_zero, Int.mul_comm] at this
    exact Int.eq_of_mul_eq_mul_right (show iv b 0 ≠ 0 by have : 0 < iv b 0 := hT.pos; omega) this
  refine ⟨hXr, fun L => ?_⟩
  rw [← h0.totC, tot_prt hp]
  rw [sm_0 (n := n) (fun j hj => by
    have e : gp (cA c n S) (cK c n S) ((dcM iv b).1 j) X (iv b 0) = 0 := hX j hj
    rw [e, lcst_0]; unfold ind; simp), Int.add_zero]
  exact sm_congr (fun i hi => by
    have e : gp (cA c n S) (cK c n S) ((dcM iv b).2.1 i) X (iv b 0) = rsF iv b i := hXr i hi
    rw [e]
    show ind _ (lcst (abF iv b (lnR iv b i)) (beF iv b (lnR iv b i)) (rsF iv b i)) = _
    rw [slp_eq (side := sdF iv b) (Rl := lnR iv b) (hs i hi) (hg i hi)])
theorem lxn1 {v : Nat → Int} (h : lxn 1 v) : 0 ≤ v 0 := by
  rcases h with h | ⟨h, _⟩ <;> omega
/-- behind lessenCost of the musts alone: they are met just if they can be -/
theorem must_iff {c : Cg} {n : Nat} {S : Nat → Bool} {iv : mIv} {b m : Nat} (hB : cB c n) (h : okL c n S iv b m) (hno : ∀ j, j < n → ∀ v : Int, (v = 1 ∨ v = -1) → ¬ lng 1 (chD iv b m (sdF iv b) j v)) : (∀ i, i < m → lvF iv b (lnR iv b i) = 0 → rsF iv b i = 0 ∨ slp (abF iv b) (beF iv b) (lnR iv b) (sdF iv b) i = 0) ↔ cSat c n S := by
  obtain ⟨X, hX⟩ := h.1.2.2.2.2.2.2.2.2.1.vert h.1.2.2.1
  obtain ⟨hr, ht⟩ := h.at hX
  obtain ⟨hd, ho⟩ := h.optC hno hX
  have hg := h.1.2.2.2.2.2.2.2.2.2.2.2
  have hs := h.1.2.2.2.2.2.2.2.2.2.2.1
  have h8 := h.1.2.2.2.2.2.2.2.1
  constructor
  · intro h1
    refine ⟨X, iv b 0, hd, ?_⟩
    rw [ht]
    exact sm_0 (fun i hi => by
      unfold ind
      split
      · rename_i z
        rcases h1 i hi z with e | e
        · rw [e, Int.mul_zero]
        · rw [e, Int.zero_mul]
      · rfl)
  · rintro ⟨Y, r, hr0, hY⟩ i hi hz
    have := lxn1 (ho Y r hr0)
    rw [hY, Int.mul_zero] at this
    have h0 : r * cT c n S 0 X (iv b 0) ≤ 0 := by omega
    have nn : ∀ i, i < m → 0 ≤ ind (lvF iv b (lnR iv b i) = 0) (slp (abF iv b) (beF iv b) (lnR iv b) (sdF iv b) i * rsF iv b i) := fun i hi => by
      unfold ind
      split
      · rw [← slp_eq (hs i hi) (hg i hi)]
        exact lcst_nn (h8 _).1 (h8 _).2.2.1
      · omega
    have hle : ind (lvF iv b (lnR iv b i) = 0) (slp (abF iv b) (beF iv b) (lnR iv b) (sdF iv b) i * rsF iv b i) ≤ cT c n S 0 X (iv b 0) := by
      rw [ht]
      exact sm_le1 (f := fun i => ind (lvF iv b (lnR iv b i) = 0) (slp (abF iv b) (beF iv b) (lnR iv b) (sdF iv b) i * rsF iv b i)) hi nn
    have hni := nn i hi
    have z : slp (abF iv b) (beF iv b) (lnR iv b) (sdF iv b) i * rsF iv b i = 0 := by
      unfold ind at hle hni
      rw [if_pos hz] at hle hni
      rcases Int.lt_or_eq_of_le hni with g | g
      · have := Int.mul_pos hr0 (show 0 < cT c n S 0 X (iv b 0) by omega)
        omega
      · exact g.symm
    rcases Int.mul_eq_zero.mp z with e | e
    · exact Or.inr e
    · exact Or.inl e
/-- what solve may change -/
def onlyV (b : Nat) (iv iv' : mIv) : Prop := ∀ p j, ¬ (p = b ∧ (j = 0 ∨ j = 14 ∨ j = 15)) → p ≠ b + 1 → p ≠ b + 2 → p ≠ b + 3 → p ≠ b + 4 → p ≠ b + 5 → (∀ i, i < 9 → p ≠ b + 7 + i) → p ≠ b + 20 → iv' p j = iv p j
theorem okL.w {c : Cg} {n : Nat} {S : Nat → Bool} {iv iv' : mIv} {b m : Nat} (h : okL c n S iv b m) (o : onlyW b iv iv') (h' : okS (cA c n S) (cK c n S) (lP n S) iv' b n m) : okL c n S iv' b m := by
  refine ⟨h', fun l hl hP => ?_, fun e he => ?_⟩
  · obtain ⟨q1, q2, q3⟩ := h.2.1 l hl hP
    refine ⟨?_, ?_, ?_⟩
    · rw [← q1]; unfold lvF; rw [o (b + 17) l (by omega) (by omega) (by omega) (by omega) (by omega) (fun i _ => by omega) (by omega)]
    · rw [← q2]; exact o (b + 18) l (by omega) (by omega) (by omega) (by omega) (by omega) (fun i _ => by omega) (by omega)
    · rw [← q3]; exact o (b + 19) l (by omega) (by omega) (by omega) (by omega) (by omega) (fun i _ => by omega) (by omega)
  · rw [← h.2.2 e he]; exact o (b + 16) e (by omega) (by omega) (by omega) (by omega) (by omega) (fun i _ => by omega) (by omega)
/-- lessenCost over the lines of a config -/
theorem m7c {c : Cg} {S : Nat → Bool} {sa sb : Nat} {iv : mIv} {Q : Option mV → mIv → mRv → Prop} {b n m levels : Nat} (hb : b = 24 ∨ b = 45) (hlv : levels ≤ 9) (hB : cB c n) (h : okL c n S iv b m) (hk : ∀ iv' : mIv, onlyW b iv iv' → okL c n S iv' b m → (∀ j, j < n → ∀ v : Int, (v = 1 ∨ v = -1) → ¬ lng levels (chD iv' b m (sdF iv' b) j v)) → Q none iv' (RV sa sb)) : Ex 7 0 [vR b, vI levels, none, none] [] iv (RV sa sb) Q :=
  m7 hb hlv (hB.ln S) (fun l _ _ => cA_flat c n S l) h.1 (fun iv' o h' hno => hk iv' o (h.w o h') hno)
theorem w_pl {s d : Int} (hs : -100000 ≤ s ∧ s ≤ 100000) (hd : 0 < d ∧ d ≤ 29160) : w64 (s * d) = s * d ∧ -2916000000 ≤ s * d ∧ s * d ≤ 2916000000 := by
  have h := mul_bd (B := 100000) (C := 29160) hs (show -29160 ≤ d ∧ d ≤ 29160 by omega)
  exact ⟨w64_of (by omega) (by omega), by omega, by omega⟩
/-- the setting stands in the solver at b -/
def solS (c : Cg) (n : Nat) (S : Nat → Bool) (iv : mIv) (b : Nat) : Prop := ∃ m, okL c n S iv b m ∧ cOpt c n S (4 + n) (iv (b + 1)) (iv b 0) ∧ iv b 0 ≤ 29160 ∧ ∀ e, e < n → -21000000000 ≤ iv (b + 1) e ∧ iv (b + 1) e ≤ 21000000000
theorem okL.V {c : Cg} {n : Nat} {S : Nat → Bool} {iv iv' : mIv} {b m : Nat} (h : okL c n S iv b m) (o : ∀ p j, p ≠ b + 1 → iv' p j = iv p j) : okL c n S iv' b m := by
  obtain ⟨⟨a1, a2, a3, a4, a5, a6, a7, a8, a9⟩, e2, e3⟩ := h
  refine ⟨⟨by rw [o b 3 (by omega)]; exact a1, by rw [o b 2 (by omega)]; exact a2, a3, a4, fun i hi => by rw [o (b + 2) i (by omega)]; exact a5 i hi, fun j hj => by rw [o (b + 4) j (by omega)]; exact a6 j hj, fun l hl => by rw [o (b + 17) l (by omega)]; exact a7 l hl, fun l => ?_, DI_congr (fun j _ => ?_) (fun i _ => ?_) ?_ (fun i hi j _ => ?_) (fun i _ => ?_) (fun i _ => ?_) a9⟩, fun l hl hP => ?_, fun e he => by rw [o (b + 16) e (by omega)]; exact e3 e he⟩
  · unfold abF beF
    rw [o (b + 18) l (by omega), o (b + 19) l (by omega)]; exact a8 l
  · show lnC iv' b j = lnC iv b j
    unfold lnC; rw [o (b + 4) j (by omega)]
  · show lnR iv' b i = lnR iv b i
    unfold lnR; rw [o (b + 2) i (by omega)]
  · exact o b 0 (by omega)
  · exact o (b + 7 + i) j (by omega)
  · exact o (b + 5) i (by omega)
  · exact o (b + 3) i (by omega)
  · unfold lvF abF beF
    rw [o (b + 17) l (by omega), o (b + 18) l (by omega), o (b + 19) l (by omega)]
    exact e2 l hl hP
theorem m5 {c : Cg} {S : Nat → Bool} {sa sb : Nat} {iv : mIv} {Q : Option mV → mIv → mRv → Prop} {b n m : Nat} (hb : b = 24 ∨ b = 45) (hB : cB c n) (h : okL c n S iv b m) (hk : ∀ iv' : mIv, onlyV b iv iv' → solS c n S iv' b → Q none iv' (RV sa sb)) : Ex 5 0 [vR b, none] [] iv (RV sa sb) Q := by
  have hn : n ≤ 5 := hB.1
  rw [b5_0 hb, h.1.1]
  have e4 : w32 (4 + (n : Int)) = ((4 + n : Nat) : Int) := by rw [w32_of (by omega) (by omega)]; omega
  rw [e4]
  refine m7c hb (by omega) hB h (fun iv1 o1 h1 hno => ?_)
  show Ex 5 10 _ [] _ _ _
  rw [b5_10 hb]
  obtain ⟨X, hX⟩ := h1.1.2.2.2.2.2.2.2.2.1.vert hn
  have hX' : ∀ j, j < n → gp (cA c n S) (cK c n S) (lnC iv1 b j) X (iv1 b 0) = 0 := hX
  obtain ⟨hXr, ht⟩ := h1.at hX'
  have hopt := h1.optC hno hX'
  have hT := h1.1.2.2.2.2.2.2.2.2.1
  have hd1 : 0 < iv1 b 0 := hT.pos
  have hd2 : iv1 b 0 ≤ 29160 := hT.bdd (hB.ln S).1
  have hrb : ∀ i, i < m → -17496000000 ≤ rsF iv1 b i ∧ rsF iv1 b i ≤ 17496000000 := fun i hi => hT.bdr hn (hB.ln S).1 (hB.ln S).2 hi
  have hpt : ∀ e, e < n → gp (cA c n S) (cK c n S) (9 + e) X (iv1 b 0) = X e - c.2.2.2.2.2 e * iv1 b 0 := fun e he => gp_stay c S hn he X _
  have hst : ∀ e, e < n → iv1 (b + 16) e = c.2.2.2.2.2 e := h1.2.2
  have h3 : iv1 b 3 = n := h1.1.1
  have h2 : iv1 b 2 = m := h1.1.2.1
  have hm9 : m ≤ 9 := h1.1.2.2.2.1
  obtain ⟨hsv, _⟩ := h1.1.sv (hB.ln S)
  have h5 := hsv.2.2.2.2.1
  have hp := h1.1.2.2.2.2.2.2.2.2.2.1
  have lPe : ∀ e, e < n → lP n S (9 + e) = true := fun e he => by
    unfold lP; rw [if_neg (by omega)]; exact decide_eq_true (by omega)
  -- second loop
  have rows : ∀ t k : Nat, k + t = m → ∀ ivc : mIv, (∀ p j, p ≠ b + 1 → ivc p j = iv1 p j) → (∀ e, e < n → ivc (b + 1) e = c.2.2.2.2.2 e * iv1 b 0 + sm k (fun i => ind (lnR iv1 b i = 9 + e) (rsF iv1 b i))) → Ex 5 46 [vR b, vI k] [] ivc (RV sa sb) Q := by
    intro t
    induction t with
    | zero =>
      intro k hkm ivc o2 hpl
      have : k = m := by omega
      subst this
      rw [b5_46 hb, if_neg (by rw [o2 b 2 (by omega), h2]; omega), b5_94 hb]
      have hXe : ∀ e, e < n → X e = ivc (b + 1) e := fun e he => by
        rw [hpl e he]
        have g := hpt e he
        rcases hp.2.2.2.2.2 (9 + e) (by omega) (lPe e he) with ⟨j, hj, ej⟩ | ⟨i, hi, ei⟩
        · have ej' : lnC iv1 b j = 9 + e := ej
          have := hX' j hj
          rw [ej'] at this
          rw [sm_0 (fun i hi => by
            unfold ind
            rw [if_neg (fun z => hp.2.2.2.2.1 i j hi hj (by show lnR iv1 b i = lnC iv1 b j; rw [z, ej']))])]
          omega
        · have ei' : lnR iv1 b i = 9 + e := ei
          have := hXr i hi
          rw [ei'] at this
          rw [sm_one (k := i) hi (fun i' hi' hne => by
            unfold ind
            rw [if_neg (fun z => hne (hp.2.2.2.1 i' i hi' hi (by show lnR iv1 b i' = lnR iv1 b i; rw [z, ei'])))])]
          unfold ind
          rw [if_pos ei']
          omega
      refine hk ivc (fun p j n0 n1 n2 n3 n4 n5 n7 n20 => by rw [o2 p j n1]; exact o1 p j n0 n2 n3 n4 n5 n7 n20) ⟨k, h1.V o2, ?_, by rw [o2 b 0 (by omega)]; exact hd2, fun e he => ?_⟩
      · rw [o2 b 0 (by omega)]
        refine ⟨hopt.1, fun Y r hr => ?_⟩
        have := hopt.2 Y r hr
        exact lxn_congr (fun L _ => by rw [cT_ext hn hXe]) this
      · rw [hpl e he]
        have b1 := (w_pl (hB.2.2.2 e (by omega)) ⟨hd1, hd2⟩).2
        have b2 : -17496000000 ≤ sm k (fun i => ind (lnR iv1 b i = 9 + e) (rsF iv1 b i)) ∧ sm k (fun i => ind (lnR iv1 b i = 9 + e) (rsF iv1 b i)) ≤ 17496000000 := by
          by_cases z : ∃ i, i < k ∧ lnR iv1 b i = 9 + e
          · obtain ⟨i, hi, ei⟩ := z
            rw [sm_one (k := i) hi (fun i' hi' hne => by
              unfold ind
              rw [if_neg (fun z => hne (hp.2.2.2.1 i' i hi' hi (by show lnR iv1 b i' = lnR iv1 b i; rw [z, ei])))])]
            unfold ind
            rw [if_pos ei]
            exact hrb i hi
          · rw [sm_0 (fun i hi => by
              unfold ind
              rw [if_neg (fun y => z ⟨i, hi, y⟩)])]
            omega
        omega
    | succ t ih =>
      intro k hkm ivc o2 hpl
      have xk : ((k : Int)).toNat = k := Int.toNat_natCast k
      have l5 := h5 k (by omega)
      have el : ivc (b + 2) k = iv1 (b + 2) k := o2 _ _ (by omega)
      have er : ivc (b + 5) k = rsF iv1 b k := o2 _ _ (by omega)
      have lk : lnR iv1 b k = (iv1 (b + 2) k).toNat := rfl
      rw [b5_46 hb, if_pos (by rw [o2 b 2 (by omega), h2]; omega), b5_54 hb (by omega) (by omega), xk, el]
      by_cases c9 : iv1 (b + 2) k < 9
      · rw [if_pos c9, b5_88 hb, w32_of (by omega) (by omega)]
        refine ih (k + 1) (by omega) ivc o2 (fun e he => ?_)
        rw [hpl e he]
        show _ = _ + (sm k (fun i => ind (lnR iv1 b i = 9 + e) (rsF iv1 b i)) + ind (lnR iv1 b k = 9 + e) (rsF iv1 b k))
        have : ind (lnR iv1 b k = 9 + e) (rsF iv1 b k) = 0 := by unfold ind; rw [if_neg (by omega)]
        rw [this]; omega
      · -- the row of an edge's stay
        have hPk := (hp.2.1 k (by omega)).2
        have hPk' : lP n S (lnR iv1 b k) = true := hPk
        have hen : lnR iv1 b k - 9 < n := by
          unfold lP at hPk'
          rw [if_neg (by omega)] at hPk'
          exact of_decide_eq_true hPk'
        have e9 : w32 (iv1 (b + 2) k - 9) = ((lnR iv1 b k - 9 : Nat) : Int) := by
          rw [w32_of (by omega) (by omega)]; omega
        have hold := hpl _ hen
        have zero : sm k (fun i => ind (lnR iv1 b i = 9 + (lnR iv1 b k - 9)) (rsF iv1 b i)) = 0 := sm_0 (fun i hi => by
          unfold ind
          rw [if_neg (fun z => by
            have : i = k := hp.2.2.2.1 i k (by omega) (by omega) (by show lnR iv1 b i = lnR iv1 b k; rw [z]; omega)
            omega)])
        rw [zero, Int.add_zero] at hold
        have b1 := (w_pl (hB.2.2.2 (lnR iv1 b k - 9) (by omega)) ⟨hd1, hd2⟩).2
        have b2 := hrb k (by omega)
        rw [if_neg c9, b5_65 hb (by omega) (by omega) (by rw [xk, el, e9]; omega) (by rw [xk, el, e9]; omega), xk, el, e9, Int.toNat_natCast, er, hold, w64_of (by omega) (by omega), b5_88 hb, w32_of (by omega) (by omega)]
        refine ih (k + 1) (by omega) _ (fun p j hp1 => by rw [st2_ne hp1]; exact o2 p j hp1) (fun e he => ?_)
        show _ = _ + (sm k (fun i => ind (lnR iv1 b i = 9 + e) (rsF iv1 b i)) + ind (lnR iv1 b k = 9 + e) (rsF iv1 b k))
        by_cases ce : e = lnR iv1 b k - 9
        · subst ce
          rw [st2_eq, zero]
          unfold ind
          rw [if_pos (by omega)]; omega
        · rw [st2_nk ce, hpl e he]
          have : ind (lnR iv1 b k = 9 + e) (rsF iv1 b k) = 0 := by unfold ind; rw [if_neg (by omega)]
          rw [this]; omega
  -- first loop
  have cols : ∀ t k : Nat, k + t = n → ∀ ivc : mIv, (∀ p j, p ≠ b + 1 → ivc p j = iv1 p j) → (∀ e, e < k → ivc (b + 1) e = c.2.2.2.2.2 e * iv1 b 0) → Ex 5 12 [vR b, vI k] [] ivc (RV sa sb) Q := by
    intro t
    induction t with
    | zero =>
      intro k hkm ivc o2 hpl
      have : k = n := by omega
      rw [b5_12 hb, if_neg (by rw [o2 b 3 (by omega), h3]; omega), b5_44 hb]
      refine rows m 0 (by omega) ivc o2 (fun e he => ?_)
      rw [hpl e (by omega)]
      show _ = _ + (0 : Int)
      omega
    | succ t ih =>
      intro k hkm ivc o2 hpl
      have xk : ((k : Int)).toNat = k := Int.toNat_natCast k
      rw [b5_12 hb, if_pos (by rw [o2 b 3 (by omega), h3]; omega), b5_20 hb (by omega) (by omega), xk, o2 (b + 16) k (by omega), o2 b 0 (by omega), hst k (by omega), (w_pl (hB.2.2.2 k (by omega)) ⟨hd1, hd2⟩).1, w32_of (by omega) (by omega)]
      refine ih (k + 1) (by omega) _ (fun p j hp1 => by rw [st2_ne hp1]; exact o2 p j hp1) (fun e he => ?_)
      by_cases ce : e = k
      · rw [ce, st2_eq]
      · rw [st2_nk ce]; exact hpl e (by omega)
  exact cols n 0 (by omega) iv1 (fun _ _ _ => rfl) (fun e he => by omega)
