/-! a loaded solver stands as a tableau -/
theorem dv_uu {C : Nat → Nat → Int} (h : ∀ j, j < 5 → ∀ t, t < 5 → C j t = unit j t) {j : Nat} (hj : j < 5) (a : Nat → Int) : dv (uv C j a) = a j := by
  have h1 : dv C = 1 := by rw [dv_ext h, dv_unit]
  have h2 := crm hj C a
  rw [h1, Int.one_mul, sm_one (k := j) hj (fun k hk hne => by
    rw [h k hk j hj]
    unfold unit
    rw [if_neg hne, Int.mul_zero]), h j hj j hj] at h2
  rw [h2]
  unfold unit
  rw [if_pos rfl, Int.mul_one]
/-- the solver at b holds the lines of the wishes S -/
def okL (c : Cg) (n : Nat) (S : Nat → Bool) (iv : mIv) (b m : Nat) : Prop := okS (cA c n S) (cK c n S) (lP n S) iv b n m ∧ (∀ l, l < 14 → lP n S l = true → lvF iv b l = clv c S l ∧ abF iv b l = cab c n S l ∧ beF iv b l = cbe c n S l) ∧ (∀ e, e < n → iv (b + 16) e = c.2.2.2.2.2 e)
theorem rowI_ok {iv iv' : mIv} {b n m : Nat} {S : Nat → Bool} (hB : cB (cM iv) n) (h : rowI iv b n S 9 m iv') : okL (cM iv) n S iv' b m := by
  obtain ⟨⟨c1, c2, c3, c4, c5, c6⟩, h2, h3, h4, h5, h6⟩ := h
  have hB0 := hB
  obtain ⟨hn, b2, b3, b4⟩ := hB
  have lC : ∀ j, j < n → lnC iv' b j = 9 + j := fun j hj => by
    unfold lnC
    rw [(c4 j hj).2.1]
    omega
  have lR : ∀ i, i < m → ∀ l : Nat, iv' (b + 2) i = l → lnR iv' b i = l := fun i hi l hl => by
    unfold lnR
    rw [hl]
    omega
  have cu : ∀ j, j < 5 → ∀ t, t < 5 → ccv (cA (cM iv) n S) n (lnC iv' b) j t = unit j t := fun j hj t ht => by
    unfold ccv
    split
    · rename_i hjn
      rw [lC j hjn]
      unfold cA lA unit
      rw [if_neg (by omega)]
      by_cases e : j = t
      · rw [if_pos (by omega), if_pos e]
      · rw [if_neg (by omega), if_neg e]
    · rfl
  have fA : ∀ l, l < 9 → S l = true → ∀ j, j < n → cA (cM iv) n S l j = iv (7 + 2 * l) j := fun l hl hS j hj => by
    unfold cA lA
    rw [if_pos hl, if_pos ⟨hS, hj⟩]
    rfl
  have kC : ∀ j, j < n → cK (cM iv) n S (lnC iv' b j) = iv 1 j := fun j hj => by
    rw [lC j hj]
    unfold cK lK
    rw [if_neg (by omega), if_pos (by omega), show 9 + j - 9 = j by omega]
    rfl
  have kR : ∀ l, l < 9 → S l = true → cK (cM iv) n S l = iv (6 + 2 * l) 5 := fun l hl hS => by
    unfold cK lK
    rw [if_pos hl, if_pos hS]
    rfl
  refine ⟨⟨c3, h2, hn, h3, fun i hi => ?_, fun j hj => ?_, c6, c5, ⟨1, Or.inl rfl, ?_, ?_, fun i hi j hj => ?_, fun i hi => ?_⟩, ⟨fun j hj => ?_, fun i hi => ?_, fun j k hj hk e => ?_, fun i k hi hk e => ?_, fun i j hi hj e => ?_, fun l hl hP => ?_⟩, fun i hi => ?_, fun i hi => ?_⟩, fun l hl hP => ?_, fun e he => (c4 e he).1⟩
  · obtain ⟨l, _, _, e, _⟩ := h4 i hi
    omega
  · have := (c4 j hj).2.1
    omega
  · show 0 < iv' b 0
    rw [c2]; omega
  · show iv' b 0 = 1 * dv (ccv (cA (cM iv) n S) n (lnC iv' b))
    rw [c2, dv_ext cu, dv_unit]
    rfl
  · obtain ⟨l, l1, l2, l3, l4, l5, l6⟩ := h4 i hi
    show iv' (b + 7 + i) j = 1 * dv (uv (ccv (cA (cM iv) n S) n (lnC iv' b)) j (cA (cM iv) n S (lnR iv' b i)))
    rw [dv_uu cu (by omega), lR i hi l l3, fA l l1 l2 j hj, l4 j hj, Int.one_mul]
  · obtain ⟨l, l1, l2, l3, l4, l5, l6⟩ := h4 i hi
    show iv' (b + 5) i = sm n (fun j => iv' (b + 7 + i) j * cK (cM iv) n S (lnC iv' b j)) - iv' b 0 * cK (cM iv) n S (lnR iv' b i)
    rw [l5, c2, Int.one_mul, lR i hi l l3, kR l l1 l2]
    unfold gapL
    congr 1
    exact sm_congr (fun j hj => by rw [l4 j hj, kC j hj])
  · show lnC iv' b j < 14 ∧ lP n S (lnC iv' b j) = true
    rw [lC j hj]
    refine ⟨by omega, ?_⟩
    unfold lP
    rw [if_neg (by omega)]
    exact decide_eq_true (by omega)
  · obtain ⟨l, l1, l2, l3, l4, l5, l6⟩ := h4 i hi
    show lnR iv' b i < 14 ∧ lP n S (lnR iv' b i) = true
    rw [lR i hi l l3]
    refine ⟨by omega, ?_⟩
    unfold lP
    rw [if_pos l1]
    exact l2
  · have e' : lnC iv' b j = lnC iv' b k := e
    rw [lC j hj, lC k hk] at e'
    omega
  · obtain ⟨l, l1, l2, l3, _⟩ := h4 i hi
    obtain ⟨l', l1', l2', l3', _⟩ := h4 k hk
    have e' : lnR iv' b i = lnR iv' b k := e
    rw [lR i hi l l3, lR k hk l' l3'] at e'
    exact h5 i k hi hk (by rw [l3, l3', e'])
  · obtain ⟨l, l1, l2, l3, _⟩ := h4 i hi
    have e' : lnR iv' b i = lnC iv' b j := e
    rw [lR i hi l l3, lC j hj] at e'
    omega
  · unfold lP at hP
    by_cases c : l < 9
    · rw [if_pos c] at hP
      obtain ⟨⟨i, i1, i2⟩, _⟩ := h6 l c hP
      exact Or.inr ⟨i, i1, lR i i1 l i2⟩
    · rw [if_neg c] at hP
      have := of_decide_eq_true hP
      exact Or.inl ⟨l - 9, this, by show lnC iv' b (l - 9) = l; rw [lC _ this]; omega⟩
  · obtain ⟨l, l1, l2, l3, l4, l5, l6⟩ := h4 i hi
    show iv' (b + 3) i = 1 ∨ iv' (b + 3) i = -1
    rw [l6]
    split
    · exact Or.inr rfl
    · exact Or.inl rfl
  · obtain ⟨l, l1, l2, l3, l4, l5, l6⟩ := h4 i hi
    show 0 ≤ iv' (b + 3) i * iv' (b + 5) i
    rw [l5, l6]
    split <;> omega
  · unfold lP at hP
    by_cases c : l < 9
    · rw [if_pos c] at hP
      obtain ⟨_, q1, q2, q3⟩ := h6 l c hP
      refine ⟨?_, ?_, ?_⟩
      · unfold lvF clv llv
        rw [q1, if_pos c, if_pos hP]
        rfl
      · show iv' (b + 18) l = cab (cM iv) n S l
        rw [q2]
        unfold cab lab
        rw [if_pos c]
        by_cases z : iv (6 + 2 * l) 2 = 2
        · rw [if_pos z, if_neg (fun y => y.2 z)]
        · rw [if_neg z, if_pos ⟨hP, z⟩]
          rfl
      · show iv' (b + 19) l = cbe (cM iv) n S l
        rw [q3]
        unfold cbe lbe
        rw [if_pos c]
        by_cases z : iv (6 + 2 * l) 2 = 1
        · rw [if_pos z, if_neg (fun y => y.2 z)]
        · rw [if_neg z, if_pos ⟨hP, z⟩]
          rfl
    · rw [if_neg c] at hP
      have hl9 := of_decide_eq_true hP
      obtain ⟨q1, q2, q3, q4, q5⟩ := c4 (l - 9) hl9
      rw [show 9 + (l - 9) = l by omega] at q3 q4 q5
      refine ⟨?_, ?_, ?_⟩
      · unfold lvF clv llv
        rw [q3, if_neg c]
        omega
      · show iv' (b + 18) l = cab (cM iv) n S l
        unfold cab lab
        rw [q4, if_neg c, if_pos hl9]
      · show iv' (b + 19) l = cbe (cM iv) n S l
        unfold cbe lbe
        rw [q5, if_neg c, if_pos hl9]
theorem m0 {sa sb : Nat} {iv : mIv} {Q : Option mV → mIv → mRv → Prop} {b n s : Nat} (hb : b = 24 ∨ b = 45) (hs : s < 512) (hB : cB (cM iv) n) (hsol : solB iv b) (hQ : ∀ (iv' : mIv) (m : Nat), frB b iv iv' → okL (cM iv) n s.testBit iv' b m → Q none iv' (RV sa sb)) : Ex 0 0 [vR b, vR 5, vI s, vR 1, vI n, none] [] iv (RV sa sb) Q :=
  m0r hb hs hB hsol (fun iv' m h => hQ iv' m h.1.1 (rowI_ok hB h))
/-- the costs of the memory are the costs of the config -/
theorem okL.totC {c : Cg} {n : Nat} {S : Nat → Bool} {iv : mIv} {b m : Nat} (h : okL c n S iv b m) (L : Nat) (X : Nat → Int) (q : Int) : tot (cA c n S) (cK c n S) (abF iv b) (beF iv b) (lvF iv b) (lP n S) L X q = cT c n S L X q := by
  unfold cT tot
  exact sm_congr (fun l hl => by
    by_cases hP : lP n S l = true
    · obtain ⟨e1, e2, e3⟩ := h.2.1 l hl hP
      rw [e1, e2, e3]
    · unfold ind
      rw [if_neg (fun z => hP z.1), if_neg (fun z => hP z.1)])
theorem cT_ext {c : Cg} {n : Nat} {S : Nat → Bool} (hn : n ≤ 5) {X X' : Nat → Int} (h : ∀ t, t < n → X t = X' t) (L : Nat) (q : Int) : cT c n S L X q = cT c n S L X' q := by
  unfold cT tot
  exact sm_congr (fun l _ => by
    have : gp (cA c n S) (cK c n S) l X q = gp (cA c n S) (cK c n S) l X' q := by
      unfold gp
      congr 1
      rw [sm_take hn (fun t h1 h2 => by rw [cA_flat c n S l t h1 h2, Int.zero_mul]), sm_take hn (fun t h1 h2 => by rw [cA_flat c n S l t h1 h2, Int.zero_mul])]
      exact sm_congr (fun t ht => by rw [h t ht])
    rw [this])
/-- where nothing lessens, the point of the tableau is best -/
theorem okL.optC {c : Cg} {n : Nat} {S : Nat → Bool} {iv : mIv} {b m Kl : Nat} (h : okL c n S iv b m) (hno : ∀ j, j < n → ∀ v : Int, (v = 1 ∨ v = -1) → ¬ lng Kl (chD iv b m (sdF iv b) j v)) {X : Nat → Int} (hX : ∀ j, j < n → gp (cA c n S) (cK c n S) (lnC iv b j) X (iv b 0) = 0) : cOpt c n S Kl X (iv b 0) := by
  have h0 := h
  obtain ⟨⟨a1, a2, a3, a4, a5, a6, a7, a8, hT, hp, hs, hg⟩, e2, e3⟩ := h
  refine ⟨hT.pos, fun Y r hr => ?_⟩
  have := opt (ab := abF iv b) (be := beF iv b) (lev := lvF iv b) (P := lP n S) (side := sdF iv b) (Kl := Kl) hT a3 hp (fun j _ => cA_flat c n S _) (fun i _ => cA_flat c n S _) (fun l => (a8 l).1) (fun l => (a8 l).2.2.1) hs hg hX (fun j hj w hw => lxn_of (hno j hj w hw)) (Y := Y) hr
  exact lxn_congr (fun L _ => by rw [h0.totC, h0.totC]) this
