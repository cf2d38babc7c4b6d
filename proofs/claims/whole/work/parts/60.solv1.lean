/-! the solver's methods: slopeOf, fill, lessens -/
theorem w32_of {x : Int} (h1 : -2147483648 ≤ x) (h2 : x < 2147483648) : w32 x = x := w32_eq ⟨h1, h2⟩
theorem w64_of {x : Int} (h1 : -9223372036854775808 ≤ x) (h2 : x < 9223372036854775808) : w64 x = x := w64_eq ⟨h1, h2⟩
def lnR (iv : mIv) (b : Nat) (i : Nat) : Nat := (iv (b + 2) i).toNat
def lnC (iv : mIv) (b : Nat) (j : Nat) : Nat := (iv (b + 4) j).toNat
def lvF (iv : mIv) (b : Nat) (l : Nat) : Nat := (iv (b + 17) l).toNat
def abF (iv : mIv) (b : Nat) (l : Nat) : Int := iv (b + 18) l
def beF (iv : mIv) (b : Nat) (l : Nat) : Int := iv (b + 19) l
def sdF (iv : mIv) (b : Nat) (i : Nat) : Int := iv (b + 3) i
def rsF (iv : mIv) (b : Nat) (i : Nat) : Int := iv (b + 5) i
def ceF (iv : mIv) (b : Nat) (i j : Nat) : Int := iv (b + 7 + i) j
theorem m10 {sa sb : Nat} {iv : mIv} {Q : Option mV → mIv → mRv → Prop} {b : Nat} (hb : b = 24 ∨ b = 45) {i : Nat} (hi : i < 9) (hl : 0 ≤ iv (b + 2) i ∧ iv (b + 2) i < 14) (hbe : 0 ≤ beF iv b (lnR iv b i) ∧ beF iv b (lnR iv b i) ≤ 1000) : Ex 10 0 [some (.inr (.inr (some b))), some (.inl (i : Int))] [] iv (RV sa sb) Q = Q (some (.inr (.inl (slp (abF iv b) (beF iv b) (lnR iv b) (sdF iv b) i)))) iv (RV sa sb) := by
  rw [b10_0 hb (by omega) (by omega)]
  unfold slp
  have e : ((i : Int)).toNat = i := by omega
  rw [e]
  by_cases h : 0 < iv (b + 3) i
  · rw [if_pos h, b10_9 hb (by omega) (by omega) (by rw [e]; exact hl.1) (by rw [e]; exact hl.2), b10_37 hb, if_pos (show 0 < sdF iv b i from h), e]
    rfl
  · rw [if_neg h, b10_24 hb (by omega) (by omega) (by rw [e]; exact hl.1) (by rw [e]; exact hl.2), b10_37 hb, if_neg (show ¬ 0 < sdF iv b i from h), e]
    have : w32 (-(iv (b + 19) (iv (b + 2) i).toNat)) = -(beF iv b (lnR iv b i)) := by
      apply w32_of
      · show -2147483648 ≤ -(beF iv b (lnR iv b i)); omega
      · show -(beF iv b (lnR iv b i)) < 2147483648; omega
    rw [this]
/-- one place's row filled up to k -/
def fil (iv : mIv) (q k : Nat) (x : Int) : mIv := fun p j => if p = q ∧ j < k then x else iv p j
theorem fil_0 (iv : mIv) (q : Nat) (x : Int) : fil iv q 0 x = iv := by
  funext p j; unfold fil; rw [if_neg (fun h => by omega)]
theorem fil_s (iv : mIv) (q k : Nat) (x : Int) : st2 (fil iv q k x) q k x = fil iv q (k + 1) x := by
  funext p j
  unfold st2 fil
  by_cases h : p = q
  · by_cases h2 : j = k
    · rw [if_pos ⟨h, h2⟩, if_pos ⟨h, by omega⟩]
    · rw [if_neg (fun z => h2 z.2)]
      by_cases h3 : j < k
      · rw [if_pos ⟨h, h3⟩, if_pos ⟨h, by omega⟩]
      · rw [if_neg (fun z => h3 z.2), if_neg (fun z => by omega)]
  · rw [if_neg (fun z => h z.1), if_neg (fun z => h z.1), if_neg (fun z => h z.1)]
theorem m102 {sa sb : Nat} {iv : mIv} {Q : Option mV → mIv → mRv → Prop} {q : Nat} (hq : q = 44 ∨ q = 65) {x : Int} : Ex 102 0 [some (.inr (.inr (some q))), some (.inr (.inl x)), none, none, none] [] iv (RV sa sb) Q = Q none (fil iv q 45 x) (RV sa sb) := by
  rw [b102_0 hq]
  have loop : ∀ r k : Nat, k + r = 45 → Ex 102 6 [some (.inr (.inr (some q))), some (.inr (.inl x)), none, some (.inl (k : Int)), some (.inl 45)] [] (fil iv q k x) (RV sa sb) Q = Q none (fil iv q 45 x) (RV sa sb) := by
    intro r
    induction r with
    | zero =>
      intro k hk
      have : k = 45 := by omega
      subst this
      rw [b102_6 hq, if_neg (by omega), b102_22 hq]
    | succ r ih =>
      intro k hk
      rw [b102_6 hq, if_pos (by omega), b102_12 hq (by omega) (by omega), show ((k : Int)).toNat = k by omega, fil_s, w32_of (by omega) (by omega)]
      exact ih (k + 1) (by omega)
  have := loop 45 0 rfl
  rw [fil_0] at this
  exact this
def fili (iv : mIv) (q k : Nat) (x : Int) : mIv := fil iv q k x
theorem m103 {sa sb : Nat} {iv : mIv} {Q : Option mV → mIv → mRv → Prop} {f : Nat} (hf : f = 2 ∨ f = 3) {x : Int} : Ex 103 0 [some (.inr (.inr (some f))), some (.inl x), none, none] [] iv (RV sa sb) Q = Q none (fil iv f 5 x) (RV sa sb) := by
  rw [b103_0 hf]
  have loop : ∀ r k : Nat, k + r = 5 → Ex 103 5 [some (.inr (.inr (some f))), some (.inl x), some (.inl (k : Int)), some (.inl 5)] [] (fil iv f k x) (RV sa sb) Q = Q none (fil iv f 5 x) (RV sa sb) := by
    intro r
    induction r with
    | zero =>
      intro k hk
      have : k = 5 := by omega
      subst this
      rw [b103_5 hf, if_neg (by omega), b103_20 hf]
    | succ r ih =>
      intro k hk
      rw [b103_5 hf, if_pos (by omega), b103_10 hf (by omega) (by omega), show ((k : Int)).toNat = k by omega, fil_s, w32_of (by omega) (by omega)]
      exact ih (k + 1) (by omega)
  have := loop 5 0 rfl
  rw [fil_0] at this
  exact this
/-- how lessens sees the change of level l -/
def chJ (iv : mIv) (b col : Nat) (w : Int) (l : Nat) : Int := w * iv (b + 20) (l * 5 + col) + ind (lvF iv b (lnC iv b col) = l) (iv b 0 * (if 0 < w then abF iv b (lnC iv b col) else beF iv b (lnC iv b col)))
def grB (iv : mIv) (b : Nat) : Prop := (∀ q, q < 45 → -1000000000000 ≤ iv (b + 20) q ∧ iv (b + 20) q ≤ 1000000000000) ∧ 0 < iv b 0 ∧ iv b 0 ≤ 1000000 ∧ (∀ l, 0 ≤ abF iv b l ∧ abF iv b l ≤ 1000 ∧ 0 ≤ beF iv b l ∧ beF iv b l ≤ 1000)
theorem m11 {sa sb : Nat} {iv : mIv} {Q : Option mV → mIv → mRv → Prop} {b : Nat} (hb : b = 24 ∨ b = 45) {col levels : Nat} {w : Int} (hc : col < 5) (hlv : levels ≤ 9) (hw : w = 1 ∨ w = -1) (hl : 0 ≤ iv (b + 4) col ∧ iv (b + 4) col < 14) (hlev : 0 ≤ iv (b + 17) (lnC iv b col)) (hg : grB iv b) :
    (lng levels (chJ iv b col w) → Ex 11 0 [some (.inr (.inr (some b))), some (.inl (col : Int)), some (.inl w), some (.inl (levels : Int)), none, none, none, none] [] iv (RV sa sb) Q = Q (some (.inl 1)) iv (RV sa sb)) ∧ (¬ lng levels (chJ iv b col w) → Ex 11 0 [some (.inr (.inr (some b))), some (.inl (col : Int)), some (.inl w), some (.inl (levels : Int)), none, none, none, none] [] iv (RV sa sb) Q = Q (some (.inl 0)) iv (RV sa sb)) := by
  have ec : ((col : Int)).toNat = col := by omega
  rw [b11_0 hb (by omega) (by omega), ec]
  obtain ⟨g1, g2, g3, g4⟩ := hg
  have loop : ∀ r k : Nat, k + r = levels → ∀ u6, (lng r (fun t => chJ iv b col w (k + t)) → Ex 11 11 [some (.inr (.inr (some b))), some (.inl (col : Int)), some (.inl w), some (.inl (levels : Int)), some (.inl (iv (b + 4) col)), some (.inl (k : Int)), u6, none] [] iv (RV sa sb) Q = Q (some (.inl 1)) iv (RV sa sb)) ∧ (¬ lng r (fun t => chJ iv b col w (k + t)) → Ex 11 11 [some (.inr (.inr (some b))), some (.inl (col : Int)), some (.inl w), some (.inl (levels : Int)), some (.inl (iv (b + 4) col)), some (.inl (k : Int)), u6, none] [] iv (RV sa sb) Q = Q (some (.inl 0)) iv (RV sa sb)) := by
    intro r
    induction r with
    | zero =>
      intro k hk u6
      have e1 : Ex 11 11 [some (.inr (.inr (some b))), some (.inl (col : Int)), some (.inl w), some (.inl (levels : Int)), some (.inl (iv (b + 4) col)), some (.inl (k : Int)), u6, none] [] iv (RV sa sb) Q = Q (some (.inl 0)) iv (RV sa sb) := by
        rw [b11_11 hb, if_neg (by omega), b11_103 hb]
      exact ⟨fun h => absurd h id, fun _ => e1⟩
    | succ r ih =>
      intro k hk u6
      have e5 : w32 ((w32 ((k : Int) * 5)) + (col : Int)) = ((k * 5 + col : Nat) : Int) := by
        rw [w32_of (x := (k : Int) * 5) (by omega) (by omega), w32_of (by omega) (by omega)]; omega
      have e6 : (((k * 5 + col : Nat) : Int)).toNat = k * 5 + col := by omega
      have hgr := g1 (k * 5 + col) (by omega)
      have hwg : w64 (w * iv (b + 20) (k * 5 + col)) = w * iv (b + 20) (k * 5 + col) := by
        rcases hw with rfl | rfl <;> exact w64_of (by omega) (by omega)
      have hgo : ∀ x6 : Int, x6 = chJ iv b col w k → (lng (r + 1) (fun t => chJ iv b col w (k + t)) → Ex 11 77 [some (.inr (.inr (some b))), some (.inl (col : Int)), some (.inl w), some (.inl (levels : Int)), some (.inl (iv (b + 4) col)), some (.inl (k : Int)), some (.inr (.inl x6)), none] [] iv (RV sa sb) Q = Q (some (.inl 1)) iv (RV sa sb)) ∧ (¬ lng (r + 1) (fun t => chJ iv b col w (k + t)) → Ex 11 77 [some (.inr (.inr (some b))), some (.inl (col : Int)), some (.inl w), some (.inl (levels : Int)), some (.inl (iv (b + 4) col)), some (.inl (k : Int)), some (.inr (.inl x6)), none] [] iv (RV sa sb) Q = Q (some (.inl 0)) iv (RV sa sb)) := by
        intro x6 hx
        rw [b11_77 hb]
        have hih := ih (k + 1) (by omega) (some (.inr (.inl x6)))
        have esh : (fun t => chJ iv b col w (k + 1 + t)) = (fun t => chJ iv b col w (k + (t + 1))) := by
          funext t; rw [show k + 1 + t = k + (t + 1) by omega]
        rw [esh] at hih
        by_cases hz : x6 = 0
        · rw [if_pos hz, b11_97 hb, w32_of (by omega) (by omega)]
          have hz' : chJ iv b col w (k + 0) = 0 := by rw [Nat.add_zero, ← hx]; exact hz
          have e9 : ((k : Int) + 1) = ((k + 1 : Nat) : Int) := by omega
          rw [e9]
          refine ⟨fun h => hih.1 ?_, fun h => hih.2 (fun z => h (Or.inr ⟨hz', z⟩))⟩
          rcases h with h | ⟨_, h⟩
          · have : chJ iv b col w (k + 0) < 0 := h
            omega
          · exact h
        · rw [if_neg hz, b11_84 hb]
          have hz' : chJ iv b col w (k + 0) ≠ 0 := by rw [Nat.add_zero, ← hx]; exact hz
          by_cases hn : x6 < 0
          · rw [if_pos hn, b11_91 hb, b11_96 hb (Or.inr rfl)]
            refine ⟨fun _ => rfl, fun h => absurd (Or.inl ?_) h⟩
            show chJ iv b col w (k + 0) < 0
            rw [Nat.add_zero, ← hx]; exact hn
          · rw [if_neg hn, b11_95 hb, b11_96 hb (Or.inl rfl)]
            refine ⟨fun h => ?_, fun _ => rfl⟩
            rcases h with h | ⟨h, _⟩
            · have : chJ iv b col w (k + 0) < 0 := h
              rw [Nat.add_zero, ← hx] at this
              omega
            · exact absurd h hz'
      rw [b11_11 hb, if_pos (by omega), b11_17 hb (by rw [e5]; omega) (by rw [e5]; omega) hl.1 hl.2, e5, e6, hwg]
      by_cases he : (k : Int) = iv (b + 17) (iv (b + 4) col).toNat
      · rw [if_pos he, b11_45 hb]
        have hlk : lvF iv b (lnC iv b col) = k := by
          show (iv (b + 17) (iv (b + 4) col).toNat).toNat = k
          rw [← he]; omega
        have hg4 := g4 (lnC iv b col)
        have hprod : ∀ y : Int, 0 ≤ y → y ≤ 1000 → w64 (iv b 0 * y) = iv b 0 * y ∧ 0 ≤ iv b 0 * y ∧ iv b 0 * y ≤ 1000000000 := fun y y1 y2 => by
          have a1 : 0 ≤ iv b 0 * y := Int.mul_nonneg (by omega) y1
          have a2 : iv b 0 * y ≤ 1000000 * 1000 := Int.mul_le_mul g3 y2 y1 (by omega)
          exact ⟨w64_of (by omega) (by omega), a1, by omega⟩
        have hwg2 : -1000000000000 ≤ w * iv (b + 20) (k * 5 + col) ∧ w * iv (b + 20) (k * 5 + col) ≤ 1000000000000 := by
          rcases hw with rfl | rfl <;> omega
        by_cases hp : 0 < w
        · rw [if_pos hp, b11_55 hb hl.1 hl.2, b11_72 hb]
          obtain ⟨p1, p2, p3⟩ := hprod (iv (b + 18) (iv (b + 4) col).toNat) hg4.1 hg4.2.1
          rw [p1, w64_of (by omega) (by omega)]
          refine hgo _ ?_
          unfold chJ ind
          rw [if_pos hlk, if_pos hp]
          rfl
        · rw [if_neg hp, b11_65 hb hl.1 hl.2, b11_72 hb]
          obtain ⟨p1, p2, p3⟩ := hprod (iv (b + 19) (iv (b + 4) col).toNat) hg4.2.2.1 hg4.2.2.2
          rw [p1, w64_of (by omega) (by omega)]
          refine hgo _ ?_
          unfold chJ ind
          rw [if_pos hlk, if_neg hp]
          rfl
      · rw [if_neg he]
        refine hgo _ ?_
        unfold chJ ind
        rw [if_neg, Int.add_zero]
        intro z
        apply he
        have : lvF iv b (lnC iv b col) = k := z
        unfold lvF at this
        unfold lnC at this hlev
        omega
  have := loop levels 0 (by omega) none
  simp only [Nat.zero_add] at this
  exact this
