/-! findGrowth -/
theorem idx5 {L k : Nat} (hL : L < 9) (hk : k < 5) : w32 ((w32 ((L : Int) * 5)) + (k : Int)) = ((L * 5 + k : Nat) : Int) := by
  rw [w32_of (x := (L : Int) * 5) (by omega) (by omega), w32_of (by omega) (by omega)]; omega
/-- the solver's numbers fit: lines, levels, bounds of cells -/
def svB (iv : mIv) (b : Nat) (n m : Nat) : Prop := iv b 3 = n ∧ iv b 2 = m ∧ n ≤ 5 ∧ m ≤ 9 ∧ (∀ i, i < m → 0 ≤ iv (b + 2) i ∧ iv (b + 2) i < 14) ∧ (∀ j, j < n → 0 ≤ iv (b + 4) j ∧ iv (b + 4) j < 14) ∧ (∀ l, l < 14 → 0 ≤ iv (b + 17) l ∧ iv (b + 17) l < 9) ∧ (∀ l, 0 ≤ abF iv b l ∧ abF iv b l ≤ 1000 ∧ 0 ≤ beF iv b l ∧ beF iv b l ≤ 1000) ∧ 0 < iv b 0 ∧ iv b 0 ≤ 1000000 ∧ (∀ i, i < m → ∀ j, j < n → -1000000 ≤ ceF iv b i j ∧ ceF iv b i j ≤ 1000000)
/-- growth as it stands when rows below k have been put in -/
def grK (iv : mIv) (b levels k : Nat) (L j : Nat) : Int := sm k (fun i => ind (lvF iv b (lnR iv b i) = L ∧ L < levels) (slp (abF iv b) (beF iv b) (lnR iv b) (sdF iv b) i * ceF iv b i j))
theorem grK_s (iv : mIv) (b levels k L j : Nat) : grK iv b levels (k + 1) L j = grK iv b levels k L j + ind (lvF iv b (lnR iv b k) = L ∧ L < levels) (slp (abF iv b) (beF iv b) (lnR iv b) (sdF iv b) k * ceF iv b k j) := rfl
/-- only the row of growth differs -/
def onlyG (b : Nat) (iv iv' : mIv) : Prop := ∀ p j, p ≠ b + 20 → iv' p j = iv p j
theorem onlyG.trans {b : Nat} {iv iv' iv'' : mIv} (h : onlyG b iv iv') (g : onlyG b iv' iv'') : onlyG b iv iv'' := fun p j hp => (g p j hp).trans (h p j hp)
theorem slp_bd {ab be : Nat → Int} {Rl : Nat → Nat} {sd : Nat → Int} {i : Nat} (h : 0 ≤ ab (Rl i) ∧ ab (Rl i) ≤ 1000 ∧ 0 ≤ be (Rl i) ∧ be (Rl i) ≤ 1000) : -1000 ≤ slp ab be Rl sd i ∧ slp ab be Rl sd i ≤ 1000 := by
  unfold slp; split <;> omega
theorem mul_bd {x y B C : Int} (h1 : -B ≤ x ∧ x ≤ B) (h2 : -C ≤ y ∧ y ≤ C) : -(B * C) ≤ x * y ∧ x * y ≤ B * C := by
  have hB : 0 ≤ B := by omega
  have hC : 0 ≤ C := by omega
  have a : (x * y).natAbs ≤ (B * C).natAbs := by
    rw [Int.natAbs_mul, Int.natAbs_mul]
    exact Nat.mul_le_mul (by omega) (by omega)
  have : 0 ≤ B * C := Int.mul_nonneg hB hC
  omega
theorem grK_bd {iv : mIv} {b n m levels : Nat} (h : svB iv b n m) {k L j : Nat} (hk : k ≤ m) (hj : j < n) : -(1000000000 * (k : Int)) ≤ grK iv b levels k L j ∧ grK iv b levels k L j ≤ 1000000000 * (k : Int) := by
  obtain ⟨-, -, h3, h4, h5, h6, h7, h8, h9, h10, h11⟩ := h
  have : ∀ i, i < k → -(1000000000 : Int) ≤ ind (lvF iv b (lnR iv b i) = L ∧ L < levels) (slp (abF iv b) (beF iv b) (lnR iv b) (sdF iv b) i * ceF iv b i j) ∧ ind (lvF iv b (lnR iv b i) = L ∧ L < levels) (slp (abF iv b) (beF iv b) (lnR iv b) (sdF iv b) i * ceF iv b i j) ≤ 1000000000 := fun i hi => by
    have a := mul_bd (B := 1000) (C := 1000000) (slp_bd (sd := sdF iv b) (i := i) (Rl := lnR iv b) (h8 (lnR iv b i))) (h11 i (by omega) j hj)
    unfold ind; split <;> omega
  have s := sm_abs (n := k) (g := fun _ => 1000000000) this
  have c : sm k (fun _ => (1000000000 : Int)) = 1000000000 * (k : Int) := by
    have := sm_mul k 1000000000 (fun _ => 1)
    rw [sm_const] at this
    simp only [Int.mul_one] at this
    exact this
  rw [c] at s
  exact s
theorem m9 {sa sb : Nat} {iv : mIv} {b n m levels : Nat} (hb : b = 24 ∨ b = 45) (hlv : levels ≤ 9) (hv : svB iv b n m) :
    ∃ iv', (∀ Q : Option mV → mIv → mRv → Prop, Ex 9 0 [some (.inr (.inr (some b))), some (.inl (levels : Int)), none, none, none, none, none] [] iv (RV sa sb) Q = Q none iv' (RV sa sb)) ∧ onlyG b iv iv' ∧ ∀ L j, L < 9 → j < 5 → iv' (b + 20) (L * 5 + j) = if j < n then grK iv b levels m L j else 0 := by
  have hv0 := hv
  obtain ⟨h1, h2, h3, h4, h5, h6, h7, h8, h9, h10, h11⟩ := hv
  have hq : b + 20 = 44 ∨ b + 20 = 65 := by omega
  -- inner loop: columns of row i
  have inner : ∀ (i : Nat) (c4 : Int) (L : Nat), i < m → L < 9 → L < levels → lvF iv b (lnR iv b i) = L → c4 = slp (abF iv b) (beF iv b) (lnR iv b) (sdF iv b) i → ∀ (r k : Nat), k + r = n → ∀ ivc : mIv, onlyG b iv ivc → (∀ j, j < n → ivc (b + 20) (L * 5 + j) = grK iv b levels i L j + if j < k then c4 * ceF iv b i j else 0) → ∃ iv', (∀ Q : Option mV → mIv → mRv → Prop, Ex 9 52 [some (.inr (.inr (some b))), some (.inl (levels : Int)), some (.inl (i : Int)), some (.inl (L : Int)), some (.inr (.inl c4)), none, some (.inl (k : Int))] [] ivc (RV sa sb) Q = Ex 9 93 [some (.inr (.inr (some b))), some (.inl (levels : Int)), some (.inl (i : Int)), some (.inl (L : Int)), some (.inr (.inl c4)), none, some (.inl (n : Int))] [] iv' (RV sa sb) Q) ∧ onlyG b iv iv' ∧ (∀ j, j < n → iv' (b + 20) (L * 5 + j) = grK iv b levels i L j + c4 * ceF iv b i j) ∧ (∀ q, (∀ j, j < n → q ≠ L * 5 + j) → iv' (b + 20) q = ivc (b + 20) q) := by
    intro i c4 L hi hL hLl hlev hc4 r
    induction r with
    | zero =>
      intro k hk ivc ho hc
      have : k = n := by omega
      subst this
      refine ⟨ivc, fun Q => ?_, ho, fun j hj => by rw [hc j hj, if_pos hj], fun q _ => rfl⟩
      rw [b9_52 hb, if_neg (by rw [ho b 3 (by omega), h1]; omega)]
    | succ r ih =>
      intro k hk ivc ho hc
      have hk5 : k < 5 := by omega
      have ei : ((i : Int)).toNat = i := Int.toNat_natCast i
      have hcell : ivc (b + 7 + i) k = ceF iv b i k := ho _ _ (by omega)
      have hold := hc k (by omega)
      rw [if_neg (by omega), Int.add_zero] at hold
      have bd1 := grK_bd (levels := levels) hv0 (show i ≤ m by omega) (L := L) (show k < n by omega)
      have bd2 := mul_bd (B := 1000) (C := 1000000) (slp_bd (sd := sdF iv b) (i := i) (Rl := lnR iv b) (h8 (lnR iv b i))) (h11 i hi k (by omega))
      rw [← hc4] at bd2
      obtain ⟨iv', p1, p2, p3, p4⟩ := ih (k + 1) (by omega) (st2 ivc (b + 20) (L * 5 + k) (grK iv b levels i L k + c4 * ceF iv b i k)) (fun p j hp => by rw [st2_ne hp]; exact ho p j hp) (fun j hj => by
        by_cases e : j = k
        · subst e; rw [st2_eq, if_pos (by omega)]
        · rw [st2_nk (by omega), hc j hj]
          by_cases e2 : j < k
          · rw [if_pos e2, if_pos (by omega)]
          · rw [if_neg e2, if_neg (by omega)])
      refine ⟨iv', fun Q => ?_, p2, p3, fun q hqn => by rw [p4 q hqn, st2_nk (hqn k (by omega))]⟩
      rw [b9_52 hb, if_pos (by rw [ho b 3 (by omega), h1]; omega), b9_61 hb (by rw [idx5 hL hk5]; omega) (by rw [idx5 hL hk5]; omega) (by omega) (by omega) (by omega) (by omega), idx5 hL hk5, Int.toNat_natCast, ei, Int.toNat_natCast, hcell, hold, w64_of (x := c4 * ceF iv b i k) (by omega) (by omega), w64_of (by omega) (by omega), w32_of (by omega) (by omega)]
      exact p1 Q
  -- outer loop
  have outer : ∀ (r i : Nat), i + r = m → ∀ (ivc : mIv), onlyG b iv ivc → (∀ L j, L < 9 → j < 5 → ivc (b + 20) (L * 5 + j) = if j < n then grK iv b levels i L j else 0) → ∀ u3 u4 u6, ∃ iv', (∀ Q : Option mV → mIv → mRv → Prop, Ex 9 10 [some (.inr (.inr (some b))), some (.inl (levels : Int)), some (.inl (i : Int)), u3, u4, none, u6] [] ivc (RV sa sb) Q = Q none iv' (RV sa sb)) ∧ onlyG b iv iv' ∧ ∀ L j, L < 9 → j < 5 → iv' (b + 20) (L * 5 + j) = if j < n then grK iv b levels m L j else 0 := by
    intro r
    induction r with
    | zero =>
      intro i hi ivc ho hc u3 u4 u6
      have : i = m := by omega
      subst this
      refine ⟨ivc, fun Q => ?_, ho, hc⟩
      rw [b9_10 hb, if_neg (by rw [ho b 2 (by omega), h2]; omega), b9_99 hb]
    | succ r ih =>
      intro i hi ivc ho hc u3 u4 u6
      have ei : ((i : Int)).toNat = i := Int.toNat_natCast i
      have hln : ivc (b + 2) i = iv (b + 2) i := ho _ _ (by omega)
      have hl5 := h5 i (by omega)
      have hl14 : lnR iv b i < 14 := by unfold lnR; omega
      have hsl : slp (abF ivc b) (beF ivc b) (lnR ivc b) (sdF ivc b) i = slp (abF iv b) (beF iv b) (lnR iv b) (sdF iv b) i := by
        unfold slp abF beF lnR sdF
        rw [ho (b + 3) _ (by omega), ho (b + 2) _ (by omega), ho (b + 18) _ (by omega), ho (b + 19) _ (by omega)]
      have hlevc : ivc (b + 17) (iv (b + 2) i).toNat = ((lvF iv b (lnR iv b i) : Nat) : Int) := by
        rw [ho (b + 17) _ (by omega)]
        have := (h7 (lnR iv b i) hl14).1
        unfold lvF lnR at *
        omega
      have hlev9 : lvF iv b (lnR iv b i) < 9 := by
        have := (h7 (lnR iv b i) hl14).2
        unfold lvF; omega
      have start : ∀ Q, Ex 9 10 [some (.inr (.inr (some b))), some (.inl (levels : Int)), some (.inl (i : Int)), u3, u4, none, u6] [] ivc (RV sa sb) Q = Ex 9 35 [some (.inr (.inr (some b))), some (.inl (levels : Int)), some (.inl (i : Int)), some (.inl ((lvF iv b (lnR iv b i) : Nat) : Int)), u4, none, u6] [.inr (.inl (slp (abF iv b) (beF iv b) (lnR iv b) (sdF iv b) i))] ivc (RV sa sb) Q := fun Q => by
        rw [b9_10 hb, if_pos (by rw [ho b 2 (by omega), h2]; omega), b9_18 hb (by omega) (by omega) (by rw [ei, hln]; exact hl5.1) (by rw [ei, hln]; exact hl5.2), m10 hb (by omega) (by rw [hln]; exact hl5) (by
          have := h8 (lnR iv b i)
          unfold beF lnR at *
          rw [ho (b + 2) _ (by omega), ho (b + 19) _ (by omega)]
          exact this.2.2), hsl, ei, hln, hlevc]
        rfl
      have next : ∀ (ivd : mIv) (c4 : Int) (v6 : Option mV) (Q : Option mV → mIv → mRv → Prop), Ex 9 93 [some (.inr (.inr (some b))), some (.inl (levels : Int)), some (.inl (i : Int)), some (.inl ((lvF iv b (lnR iv b i) : Nat) : Int)), some (.inr (.inl c4)), none, v6] [] ivd (RV sa sb) Q = Ex 9 10 [some (.inr (.inr (some b))), some (.inl (levels : Int)), some (.inl ((i + 1 : Nat) : Int)), some (.inl ((lvF iv b (lnR iv b i) : Nat) : Int)), some (.inr (.inl c4)), none, v6] [] ivd (RV sa sb) Q := fun ivd c4 v6 Q => by
        rw [b9_93 hb, w32_of (by omega) (by omega)]
        rfl
      -- a row that adds nothing
      have skip : (slp (abF iv b) (beF iv b) (lnR iv b) (sdF iv b) i = 0 ∨ ¬ lvF iv b (lnR iv b i) < levels) → ∀ L j, L < 9 → j < 5 → ivc (b + 20) (L * 5 + j) = if j < n then grK iv b levels (i + 1) L j else 0 := fun hz L j hL hj => by
        rw [hc L j hL hj]
        split
        · rw [grK_s]
          unfold ind
          by_cases e : lvF iv b (lnR iv b i) = L ∧ L < levels
          · rw [if_pos e]
            rcases hz with hz | hz
            · rw [hz]; omega
            · rw [e.1] at hz; exact absurd e.2 hz
          · rw [if_neg e]; omega
        · rfl
      by_cases hz : slp (abF iv b) (beF iv b) (lnR iv b) (sdF iv b) i = 0
      · obtain ⟨iv', p1, p2, p3⟩ := ih (i + 1) (by omega) ivc ho (skip (Or.inl hz)) (some (.inl ((lvF iv b (lnR iv b i) : Nat) : Int))) (some (.inr (.inl (slp (abF iv b) (beF iv b) (lnR iv b) (sdF iv b) i)))) u6
        refine ⟨iv', fun Q => ?_, p2, p3⟩
        rw [start, b9_35 hb, if_pos hz, next]
        exact p1 Q
      · by_cases hl : lvF iv b (lnR iv b i) < levels
        · obtain ⟨ivd, d1, d2, d3, d4⟩ := inner i _ (lvF iv b (lnR iv b i)) (by omega) hlev9 hl rfl rfl n 0 (by omega) ivc ho (fun j hj => by rw [hc _ j hlev9 (by omega), if_pos hj, if_neg (by omega), Int.add_zero])
          obtain ⟨iv', p1, p2, p3⟩ := ih (i + 1) (by omega) ivd d2 (fun L j hL hj => by
            by_cases e : lvF iv b (lnR iv b i) = L
            · by_cases ej : j < n
              · rw [if_pos ej, ← e, d3 j ej]
                rw [grK_s]
                unfold ind
                rw [if_pos ⟨rfl, hl⟩]
              · rw [if_neg ej, d4 _ (fun k hk => by omega), hc L j hL hj, if_neg ej]
            · rw [d4 _ (fun k hk => by omega), hc L j hL hj]
              split
              · rw [grK_s]
                unfold ind
                rw [if_neg (fun z => e z.1)]; omega
              · rfl) (some (.inl ((lvF iv b (lnR iv b i) : Nat) : Int))) (some (.inr (.inl (slp (abF iv b) (beF iv b) (lnR iv b) (sdF iv b) i)))) (some (.inl (n : Int)))
          refine ⟨iv', fun Q => ?_, p2, p3⟩
          rw [start, b9_35 hb, if_neg hz, b9_44 hb, if_pos (by omega), b9_49 hb]
          have := d1 Q
          rw [show ((0 : Nat) : Int) = 0 from rfl] at this
          rw [this, next]
          exact p1 Q
        · obtain ⟨iv', p1, p2, p3⟩ := ih (i + 1) (by omega) ivc ho (skip (Or.inr hl)) (some (.inl ((lvF iv b (lnR iv b i) : Nat) : Int))) (some (.inr (.inl (slp (abF iv b) (beF iv b) (lnR iv b) (sdF iv b) i)))) u6
          refine ⟨iv', fun Q => ?_, p2, p3⟩
          rw [start, b9_35 hb, if_neg hz, b9_44 hb, if_neg (by omega), next]
          exact p1 Q
  obtain ⟨iv', p1, p2, p3⟩ := outer m 0 (by omega) (fil iv (b + 20) 45 0) (fun p j hp => by unfold fil; rw [if_neg (fun z => hp z.1)]) (fun L j hL hj => by
    unfold fil
    rw [if_pos ⟨rfl, by omega⟩]
    split
    · rfl
    · rfl) none none none
  refine ⟨iv', fun Q => ?_, p2, p3⟩
  rw [b9_0 hb, m102 hq]
  show Ex 9 8 _ [] _ _ Q = _
  rw [b9_8 hb]
  exact p1 Q
