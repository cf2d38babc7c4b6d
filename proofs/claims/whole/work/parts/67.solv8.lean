/-! even divisions, bounds, lessenCost -/
section EXD
variable {A : Nat → Nat → Int} {K : Nat → Int} {n m : Nat} {Cl Rl : Nat → Nat} {d : Int} {cell : Nat → Nat → Int} {rest : Nat → Int}
theorem TI.exc (h : TI A K n m Cl Rl d cell rest) (hn : n ≤ 5) {q r : Nat} (hq : q < n) (hr : r < m) (sg : Int) {i j : Nat} (hi : i < m) (hj : j < n) : ∃ e, d * e = cell i j * (sg * cell r q) - sg * cell i q * cell r j := by
  obtain ⟨s, hs, hd, e, hc, hre⟩ := h
  by_cases c : j = q
  · exact ⟨0, by rw [c]; grind⟩
  · have ss : s * s = 1 := by rcases hs with rfl | rfl <;> rfl
    have hdv : dv (ccv A n Cl) = s * d := by rw [e, ← Int.mul_assoc, ss, Int.one_mul]
    have hcv : ∀ i, i < m → ∀ j, j < n → dv (uv (ccv A n Cl) j (A (Rl i))) = s * cell i j := fun i hi j hj => by rw [hc i hi j hj, ← Int.mul_assoc, ss, Int.one_mul]
    have hpl := plu (C := ccv A n Cl) (show q < 5 by omega) (show j < 5 by omega) (fun z => c z.symm) (A (Rl r)) (A (Rl i))
    rw [hdv, hcv i hi j hj, hcv r hr q hq, hcv i hi q hq, hcv r hr j hj] at hpl
    refine ⟨sg * (s * dv (uv (uv (ccv A n Cl) q (A (Rl r))) j (A (Rl i)))), ?_⟩
    generalize dv (uv (uv (ccv A n Cl) q (A (Rl r))) j (A (Rl i))) = X at hpl ⊢
    have h3 : s * cell i j * (s * cell r q) = s * s * (cell i j * cell r q) := by grind
    have h4 : s * cell i q * (s * cell r j) = s * s * (cell i q * cell r j) := by grind
    rw [h3, h4, ss] at hpl
    have h5 : d * (sg * (s * X)) = sg * (s * d * X) := by grind
    rw [h5, hpl]
    grind
theorem TI.exr (h : TI A K n m Cl Rl d cell rest) (hn : n ≤ 5) {q r : Nat} (hq : q < n) (hr : r < m) (sg : Int) {i : Nat} (hi : i < m) : ∃ e, d * e = rest i * (sg * cell r q) - sg * cell i q * rest r := by
  have hx : ∀ j, ∃ e : Int, j < n → d * e = cell i j * (sg * cell r q) - sg * cell i q * cell r j := fun j => by
    by_cases c : j < n
    · obtain ⟨e, he⟩ := h.exc hn hq hr sg hi c
      exact ⟨e, fun _ => he⟩
    · exact ⟨0, fun z => absurd z c⟩
  obtain ⟨s, hs, hd, e, hc, hre⟩ := h
  refine ⟨sm n (fun j => (hx j).choose * K (Cl j)) - K (Rl i) * (sg * cell r q) + sg * cell i q * K (Rl r), ?_⟩
  have e1 : d * sm n (fun j => (hx j).choose * K (Cl j)) = sg * cell r q * sm n (fun j => cell i j * K (Cl j)) - sg * cell i q * sm n (fun j => cell r j * K (Cl j)) := by
    rw [← sm_mul, ← sm_mul, ← sm_mul, ← sm_sub]
    exact sm_congr (fun j hj => by
      have := (hx j).choose_spec hj
      rw [← Int.mul_assoc, this]
      grind)
  rw [hre i hi, hre r hr]
  generalize (sm n fun j => (hx j).choose * K (Cl j)) = S1 at e1 ⊢
  generalize (sm n fun j => cell i j * K (Cl j)) = S2 at e1 ⊢
  generalize (sm n fun j => cell r j * K (Cl j)) = S3 at e1 ⊢
  have : d * (S1 - K (Rl i) * (sg * cell r q) + sg * cell i q * K (Rl r)) = d * S1 - d * K (Rl i) * (sg * cell r q) + sg * cell i q * (d * K (Rl r)) := by grind
  rw [this, e1]
  grind
theorem ccv_bd (hA : ∀ l t, -3 ≤ A l t ∧ A l t ≤ 3) (j t : Nat) : -3 ≤ ccv A n Cl j t ∧ ccv A n Cl j t ≤ 3 := by
  unfold ccv
  split
  · exact hA _ _
  · unfold unit; split <;> omega
theorem TI.bdd (h : TI A K n m Cl Rl d cell rest) (hA : ∀ l t, -3 ≤ A l t ∧ A l t ≤ 3) : d ≤ 29160 := by
  obtain ⟨s, hs, hd, e, hc, hre⟩ := h
  have := dv_bd (ccv_bd (n := n) (Cl := Cl) hA)
  rw [e]
  rcases hs with rfl | rfl <;> omega
theorem TI.bdc (h : TI A K n m Cl Rl d cell rest) (hA : ∀ l t, -3 ≤ A l t ∧ A l t ≤ 3) {i j : Nat} (hi : i < m) (hj : j < n) : -29160 ≤ cell i j ∧ cell i j ≤ 29160 := by
  obtain ⟨s, hs, hd, e, hc, hre⟩ := h
  have := dv_bd (C := uv (ccv A n Cl) j (A (Rl i))) (fun k t => by
    unfold uv; split
    · exact hA _ _
    · exact ccv_bd hA k t)
  rw [hc i hi j hj]
  rcases hs with rfl | rfl <;> omega
theorem TI.bdr (h : TI A K n m Cl Rl d cell rest) (hn : n ≤ 5) (hA : ∀ l t, -3 ≤ A l t ∧ A l t ≤ 3) (hK : ∀ l, -100000 ≤ K l ∧ K l ≤ 100000) {i : Nat} (hi : i < m) : -17496000000 ≤ rest i ∧ rest i ≤ 17496000000 := by
  have h1 := h.bdd hA
  have h2 := h.pos
  have hb := fun j hj => mul_bd (B := 29160) (C := 100000) (h.bdc hA hi (j := j) hj) (hK (Cl j))
  have hd := mul_bd (B := 29160) (C := 100000) (show -29160 ≤ d ∧ d ≤ 29160 by omega) (hK (Rl i))
  obtain ⟨s, hs, hd', e, hc, hre⟩ := h
  rw [hre i hi]
  have s1 := sm_abs (n := n) (f := fun j => cell i j * K (Cl j)) (g := fun _ => 2916000000 * 1) (fun j hj => by have := hb j hj; omega)
  rw [sm_mul, sm_const] at s1
  omega
end EXD
theorem DI_congr {A : Nat → Nat → Int} {K : Nat → Int} {n m : Nat} {P : Nat → Bool} {D D' : Dc} (h1 : ∀ j, j < n → D'.1 j = D.1 j) (h2 : ∀ i, i < m → D'.2.1 i = D.2.1 i) (h3 : D'.2.2.1 = D.2.2.1) (h4 : ∀ i, i < m → ∀ j, j < n → D'.2.2.2.1 i j = D.2.2.2.1 i j) (h5 : ∀ i, i < m → D'.2.2.2.2.1 i = D.2.2.2.2.1 i) (h6 : ∀ i, i < m → D'.2.2.2.2.2 i = D.2.2.2.2.2 i) (h : DI A K n m P D) : DI A K n m P D' := by
  obtain ⟨hT, hp, hs, hg⟩ := h
  refine ⟨?_, prt_congr h1 h2 hp, fun i hi => by rw [h6 i hi]; exact hs i hi, fun i hi => by rw [h6 i hi, h5 i hi]; exact hg i hi⟩
  have hT2 := TI_congr h1 h2 hT
  obtain ⟨s, t1, t2, t3, t4, t5⟩ := hT2
  refine ⟨s, t1, by rw [h3]; exact t2, by rw [h3]; exact t3, fun i hi j hj => by rw [h4 i hi j hj]; exact t4 i hi j hj, fun i hi => ?_⟩
  rw [h5 i hi, t5 i hi, h3]
  congr 1
  exact sm_congr (fun j hj => by rw [h4 i hi j hj])
/-- the solver at b stands as a tableau of the lines A, K, P -/
def okS (A : Nat → Nat → Int) (K : Nat → Int) (P : Nat → Bool) (iv : mIv) (b n m : Nat) : Prop := iv b 3 = n ∧ iv b 2 = m ∧ n ≤ 5 ∧ m ≤ 9 ∧ (∀ i, i < m → 0 ≤ iv (b + 2) i) ∧ (∀ j, j < n → 0 ≤ iv (b + 4) j) ∧ (∀ l, l < 14 → 0 ≤ iv (b + 17) l ∧ iv (b + 17) l < 9) ∧ (∀ l, 0 ≤ abF iv b l ∧ abF iv b l ≤ 1000 ∧ 0 ≤ beF iv b l ∧ beF iv b l ≤ 1000) ∧ DI A K n m P (dcM iv b)
def lnB (A : Nat → Nat → Int) (K : Nat → Int) : Prop := (∀ l t, -3 ≤ A l t ∧ A l t ≤ 3) ∧ ∀ l, -100000 ≤ K l ∧ K l ≤ 100000
theorem okS.sv {A : Nat → Nat → Int} {K : Nat → Int} {P : Nat → Bool} {iv : mIv} {b n m : Nat} (hL : lnB A K) (h : okS A K P iv b n m) : svB iv b n m ∧ (∀ i, i < m → -100000000000 ≤ rsF iv b i ∧ rsF iv b i ≤ 100000000000) := by
  obtain ⟨h1, h2, h3, h4, h5, h6, h7, h8, h9⟩ := h
  obtain ⟨hT, hp, hs, hg⟩ := h9
  refine ⟨⟨h1, h2, h3, h4, fun i hi => ⟨h5 i hi, ?_⟩, fun j hj => ⟨h6 j hj, ?_⟩, h7, h8, hT.pos, ?_, fun i hi j hj => ?_⟩, fun i hi => ?_⟩
  · have : lnR iv b i < 14 := (hp.2.1 i hi).1
    have := h5 i hi
    unfold lnR at *; omega
  · have : lnC iv b j < 14 := (hp.1 j hj).1
    have := h6 j hj
    unfold lnC at *; omega
  · have : iv b 0 ≤ 29160 := hT.bdd hL.1
    omega
  · have : -29160 ≤ ceF iv b i j ∧ ceF iv b i j ≤ 29160 := hT.bdc hL.1 hi hj
    omega
  · have : -17496000000 ≤ rsF iv b i ∧ rsF iv b i ≤ 17496000000 := hT.bdr h3 hL.1 hL.2 hi
    omega
/-- what lessenCost may change -/
def onlyW (b : Nat) (iv iv' : mIv) : Prop := ∀ p j, ¬ (p = b ∧ (j = 0 ∨ j = 14 ∨ j = 15)) → p ≠ b + 2 → p ≠ b + 3 → p ≠ b + 4 → p ≠ b + 5 → (∀ i, i < 9 → p ≠ b + 7 + i) → p ≠ b + 20 → iv' p j = iv p j
theorem chD_congr {iv iv' : mIv} {b m : Nat} {sd sd' : Nat → Int} {q : Nat} {w : Int} (h1 : abF iv' b = abF iv b) (h2 : beF iv' b = beF iv b) (h3 : lvF iv' b = lvF iv b) (h4 : lnC iv' b = lnC iv b) (h5 : lnR iv' b = lnR iv b) (h6 : iv' b 0 = iv b 0) (h7 : ∀ i, i < m → ceF iv' b i q = ceF iv b i q) (h8 : ∀ i, i < m → sd' i = sd i) : chD iv' b m sd' q w = chD iv b m sd q w := by
  funext L
  unfold chD chg grw
  rw [h1, h2, h3, h4, h5, h6]
  congr 2
  exact sm_congr (fun i hi => by
    rw [h7 i hi]
    unfold slp
    rw [h8 i hi])
theorem grw_congr {ab be : Nat → Int} {lev Rl : Nat → Nat} {m : Nat} {cell cell' : Nat → Nat → Int} {sd sd' : Nat → Int} {L q : Nat} (h7 : ∀ i, i < m → cell' i q = cell i q) (h8 : ∀ i, i < m → sd' i = sd i) : grw ab be lev Rl m cell' sd' L q = grw ab be lev Rl m cell sd L q := by
  unfold grw
  exact sm_congr (fun i hi => by
    rw [h7 i hi]
    unfold slp
    rw [h8 i hi])
