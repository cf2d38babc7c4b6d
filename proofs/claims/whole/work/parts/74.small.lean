/-! sets as bits, and the small methods of the class -/
def clr (s k : Nat) : Nat := if s.testBit k = true then s - 2 ^ k else s
def adb (s k : Nat) : Nat := if s.testBit k = true then s else s + 2 ^ k
theorem clr_t : ∀ s, s < 512 → ∀ k, k < 9 → ∀ l, l < 9 → (clr s k).testBit l = if l = k then false else s.testBit l := by decide +kernel
theorem adb_t : ∀ s, s < 512 → ∀ k, k < 9 → ∀ l, l < 9 → (adb s k).testBit l = if l = k then true else s.testBit l := by decide +kernel
theorem clr_lt : ∀ s, s < 512 → ∀ k, k < 9 → clr s k < 512 := by decide +kernel
theorem adb_lt : ∀ s, s < 512 → ∀ k, k < 9 → adb s k < 512 := by decide +kernel
theorem clr_i : ∀ s : Nat, s < 512 → ∀ k : Nat, k < 9 → (Int32.ofInt (s : Int) &&& Int32.ofInt ((Int32.ofInt ((Int32.ofInt 1 <<< (Int32.ofInt (k : Int) &&& 31)).toInt) ^^^ Int32.ofInt (-1)).toInt)).toInt = ((clr s k : Nat) : Int) := by decide +kernel
theorem adb_i : ∀ s : Nat, s < 512 → ∀ k : Nat, k < 9 → (Int32.ofInt (s : Int) ||| Int32.ofInt ((Int32.ofInt 1 <<< (Int32.ofInt (k : Int) &&& 31)).toInt)).toInt = ((adb s k : Nat) : Int) := by decide +kernel
theorem clr_eq : ∀ s : Nat, s < 512 → ∀ k : Nat, k < 9 → (clr s k = s ↔ s.testBit k = false) := by decide +kernel
theorem bit_hi {s l : Nat} (hs : s < 512) (hl : 9 ≤ l) : s.testBit l = false := Nat.testBit_lt_two_pow (Nat.lt_of_lt_of_le hs (by
  have : 2 ^ 9 ≤ 2 ^ l := Nat.pow_le_pow_right (by omega) hl
  omega))
theorem clr_S {s k : Nat} (hs : s < 512) (hk : k < 9) : (clr s k).testBit = clrS s.testBit k := by
  funext l
  unfold clrS
  by_cases c : l < 9
  · exact clr_t s hs k hk l c
  · rw [bit_hi (clr_lt s hs k hk) (by omega), bit_hi hs (by omega)]
    split <;> rfl
theorem bits_eq {s t : Nat} (hs : s < 512) (ht : t < 512) (h : ∀ l, l < 9 → s.testBit l = t.testBit l) : s = t := by
  apply Nat.eq_of_testBit_eq
  intro l
  by_cases c : l < 9
  · exact h l c
  · rw [bit_hi hs (by omega), bit_hi ht (by omega)]
/-- the first k of S as bits -/
def bo : Nat → (Nat → Bool) → Nat
  | 0, _ => 0
  | k + 1, S => if S k = true then adb (bo k S) k else bo k S
theorem bo_lt {S : Nat → Bool} : ∀ k, k ≤ 9 → bo k S < 512
  | 0, _ => by show 0 < 512; omega
  | k + 1, h => by
    unfold bo
    split
    · exact adb_lt _ (bo_lt k (by omega)) k (by omega)
    · exact bo_lt k (by omega)
theorem bo_t {S : Nat → Bool} : ∀ k, k ≤ 9 → ∀ l, l < 9 → (bo k S).testBit l = (if l < k then S l else false)
  | 0, _, l, _ => by
    show (0 : Nat).testBit l = _
    rw [Nat.zero_testBit, if_neg (by omega)]
  | k + 1, h, l, hl => by
    have ih := bo_t (S := S) k (by omega) l hl
    unfold bo
    split
    · rename_i hS
      rw [adb_t _ (bo_lt k (by omega)) k (by omega) l hl]
      by_cases c : l = k
      · rw [if_pos c, if_pos (by omega), c, hS]
      · rw [if_neg c, ih]
        by_cases c2 : l < k
        · rw [if_pos c2, if_pos (by omega)]
        · rw [if_neg c2, if_neg (by omega)]
    · rename_i hS
      rw [ih]
      by_cases c : l = k
      · rw [if_neg (by omega), if_pos (by omega), c]
        cases hh : S k with
        | true => exact absurd hh hS
        | false => rfl
      · by_cases c2 : l < k
        · rw [if_pos c2, if_pos (by omega)]
        · rw [if_neg c2, if_neg (by omega)]
theorem bo_9 {S : Nat → Bool} {l : Nat} (hl : l < 9) : (bo 9 S).testBit l = S l := by
  rw [bo_t 9 (by omega) l hl, if_pos hl]
theorem bo_S {S : Nat → Bool} (h : ∀ l, 9 ≤ l → S l = false) : (bo 9 S).testBit = S := by
  funext l
  by_cases c : l < 9
  · exact bo_9 c
  · rw [bit_hi (bo_lt 9 (by omega)) (by omega), h l (by omega)]
theorem bo_congr {S S' : Nat → Bool} (h : ∀ l, l < 9 → S l = S' l) : bo 9 S = bo 9 S' := bits_eq (bo_lt 9 (by omega)) (bo_lt 9 (by omega)) (fun l hl => by rw [bo_9 hl, bo_9 hl, h l hl])
section SMA
variable {sa sb : Nat} {iv : mIv} {Q : Option mV → mIv → mRv → Prop}
theorem m18 {k : Nat} (hk : k < 9) : Ex 18 0 [vR (6 + 2 * k)] [] iv (RV sa sb) Q = Q (vI (if iv (6 + 2 * k) 0 ≠ 0 ∧ iv (6 + 2 * k) 1 = 0 then 1 else 0)) iv (RV sa sb) := by
  rw [b18_0 hk]
  by_cases c : iv (6 + 2 * k) 0 = 0
  · rw [if_pos c, if_neg (fun z => z.1 c), b18_18 hk, b18_19 hk (Or.inl rfl)]
  · rw [if_neg c, b18_7 hk]
    by_cases d : iv (6 + 2 * k) 1 = 0
    · rw [if_pos d, if_pos ⟨c, d⟩, b18_14 hk, b18_19 hk (Or.inr rfl)]
    · rw [if_neg d, if_neg (fun z => d z.2), b18_18 hk, b18_19 hk (Or.inl rfl)]
theorem m40 {x B : Int} (hB : 0 ≤ B ∧ B ≤ 100000) : Ex 40 0 [vI x, vI B] [] iv (RV sa sb) Q = Q (vI (if -B ≤ x ∧ x ≤ B then 1 else 0)) iv (RV sa sb) := by
  rw [b40_0, w32_of (by omega) (by omega)]
  by_cases c : x < -B
  · rw [if_pos c, if_neg (by omega), b40_15, b40_16 (Or.inl rfl)]
  · rw [if_neg c, b40_6]
    by_cases d : B < x
    · rw [if_pos d, if_neg (by omega), b40_15, b40_16 (Or.inl rfl)]
    · rw [if_neg d, if_pos (by omega), b40_11, b40_16 (Or.inr rfl)]
theorem m41 {x y : Int} : Ex 41 0 [vI x, vI y] [] iv (RV sa sb) Q = Q (vI (if 0 ≤ x ∧ x ≤ 3 ∧ 1 ≤ y ∧ y ≤ 9 then 1 else 0)) iv (RV sa sb) := by
  rw [b41_0]
  by_cases c : x < 0
  · rw [if_pos c, if_neg (by omega), b41_24, b41_25 (Or.inl rfl)]
  · rw [if_neg c, b41_4]
    by_cases d : x < 4
    · rw [if_pos d, b41_9]
      by_cases e : y < 1
      · rw [if_pos e, if_neg (by omega), b41_24, b41_25 (Or.inl rfl)]
      · rw [if_neg e, b41_14]
        by_cases f : 9 < y
        · rw [if_pos f, if_neg (by omega), b41_24, b41_25 (Or.inl rfl)]
        · rw [if_neg f, if_pos (by omega), b41_20, b41_25 (Or.inr rfl)]
    · rw [if_neg d, if_neg (by omega), b41_24, b41_25 (Or.inl rfl)]
theorem m42 {x : Int} : Ex 42 0 [vI x] [] iv (RV sa sb) Q = Q (vI (if 0 ≤ x ∧ x ≤ 1 then 1 else 0)) iv (RV sa sb) := by
  rw [b42_0]
  by_cases c : x = 0
  · rw [if_pos c, if_pos (by omega), b42_9, b42_14 (Or.inr rfl)]
  · rw [if_neg c, b42_4]
    by_cases d : x = 1
    · rw [if_pos d, if_pos (by omega), b42_9, b42_14 (Or.inr rfl)]
    · rw [if_neg d, if_neg (by omega), b42_13, b42_14 (Or.inl rfl)]
theorem m43 {x : Int} : Ex 43 0 [vR 0, vI x] [] iv (RV sa sb) Q = Q (vI (if 0 ≤ x ∧ x < iv 0 5 then 1 else 0)) iv (RV sa sb) := by
  rw [b43_0]
  by_cases c : x < 0
  · rw [if_pos c, if_neg (by omega), b43_16, b43_17 (Or.inl rfl)]
  · rw [if_neg c, b43_4]
    by_cases d : x < iv 0 5
    · rw [if_pos d, if_pos (by omega), b43_12, b43_17 (Or.inr rfl)]
    · rw [if_neg d, if_neg (by omega), b43_16, b43_17 (Or.inl rfl)]
theorem m44 {x : Int} : Ex 44 0 [vR 0, vI x] [] iv (RV sa sb) Q = Q (vI (if 0 ≤ x ∧ x < 9 ∧ iv (6 + 2 * x.toNat) 0 ≠ 0 then 1 else 0)) iv (RV sa sb) := by
  rw [b44_0]
  by_cases c : x < 0
  · rw [if_pos c, if_neg (by omega), b44_26, b44_27 (Or.inl rfl)]
  · rw [if_neg c, b44_4]
    by_cases d : x < 9
    · rw [if_pos d, b44_10 (by omega) d]
      by_cases e : iv (6 + 2 * x.toNat) 0 = 0
      · rw [if_pos e, if_neg (fun z => z.2.2 e), b44_26, b44_27 (Or.inl rfl)]
      · rw [if_neg e, if_pos ⟨by omega, d, e⟩, b44_22, b44_27 (Or.inr rfl)]
    · rw [if_neg d, if_neg (by omega), b44_26, b44_27 (Or.inl rfl)]
/-- all of the factors from e on are 0 -/
def az (f : Nat → Int) (e : Nat) : Prop := ∀ t, e ≤ t → t < 5 → f t = 0
theorem m45 {f : Nat} (hf : f = 2 ∨ f = 3) {e : Nat} (he : e ≤ 5) (k1 : az (iv f) e → Q (vI 1) iv (RV sa sb)) (k0 : ¬ az (iv f) e → Q (vI 0) iv (RV sa sb)) : Ex 45 0 [vR f, vI e, none] [] iv (RV sa sb) Q := by
  rw [b45_0 hf]
  have loop : ∀ t k : Nat, k + t = 5 → e ≤ k → (∀ i, e ≤ i → i < k → iv f i = 0) → Ex 45 2 [vR f, vI e, vI k] [] iv (RV sa sb) Q := by
    intro t
    induction t with
    | zero =>
      intro k hk _ h
      rw [b45_2 hf, if_neg (by omega), b45_22 hf]
      exact k1 (fun i h1 h2 => h i h1 (by omega))
    | succ t ih =>
      intro k hk hek h
      have xk : ((k : Int)).toNat = k := Int.toNat_natCast k
      rw [b45_2 hf, if_pos (by omega), b45_8 hf (by omega) (by omega), xk]
      by_cases c : iv f k = 0
      · rw [if_pos c, b45_16 hf, w32_of (by omega) (by omega)]
        refine ih (k + 1) (by omega) (by omega) (fun i h1 h2 => ?_)
        by_cases z : i = k
        · rw [z]; exact c
        · exact h i h1 (by omega)
      · rw [if_neg c, b45_14 hf]
        exact k0 (fun z => c (z k hek (by omega)))
  exact loop (5 - e) e (by omega) (Nat.le_refl e) (fun i h1 h2 => by omega)
/-- the first wish that is not there -/
def frW (th : Nat → Int) : Nat → Nat → Option Nat
  | 0, _ => none
  | t + 1, k => if th k = 0 then some k else frW th t (k + 1)
theorem frW_lt {th : Nat → Int} : ∀ t k w, frW th t k = some w → k ≤ w ∧ w < k + t ∧ th w = 0
  | 0, k, w, h => by cases h
  | t + 1, k, w, h => by
    unfold frW at h
    split at h
    · rename_i z; cases h; exact ⟨by omega, by omega, z⟩
    · have := frW_lt t (k + 1) w h
      exact ⟨by omega, by omega, this.2.2⟩
theorem frW_none {th : Nat → Int} : ∀ t k, frW th t k = none → ∀ w, k ≤ w → w < k + t → th w ≠ 0
  | 0, k, _, w, h1, h2 => by omega
  | t + 1, k, h, w, h1, h2 => by
    unfold frW at h
    split at h
    · cases h
    · rename_i z
      by_cases e : w = k
      · rw [e]; exact z
      · exact frW_none t (k + 1) h w (by omega) (by omega)
def opI : Option Nat → Int
  | none => -1
  | some w => w
theorem m47 : Ex 47 0 [vR 0, none] [] iv (RV sa sb) Q = Q (vI (opI (frW (fun w => iv (6 + 2 * w) 0) 9 0))) iv (RV sa sb) := by
  rw [b47_0]
  have loop : ∀ t k : Nat, k + t = 9 → Ex 47 2 [vR 0, vI k] [] iv (RV sa sb) Q = Q (vI (opI (frW (fun w => iv (6 + 2 * w) 0) t k))) iv (RV sa sb) := by
    intro t
    induction t with
    | zero =>
      intro k hk
      rw [b47_2, if_neg (by omega), b47_28]
      rfl
    | succ t ih =>
      intro k hk
      have xk : ((k : Int)).toNat = k := Int.toNat_natCast k
      rw [b47_2, if_pos (by omega), b47_8 (by omega) (by omega), xk]
      unfold frW
      by_cases c : iv (6 + 2 * k) 0 = 0
      · rw [if_pos c, if_pos c, b47_20]
        rfl
      · rw [if_neg c, if_neg c, b47_22, w32_of (by omega) (by omega)]
        exact ih (k + 1) (by omega)
  exact loop 9 0 rfl
/-- how many of the first k are there -/
def nth (th : Nat → Int) : Nat → Nat
  | 0 => 0
  | k + 1 => nth th k + if th k = 0 then 0 else 1
theorem nth_le (th : Nat → Int) : ∀ k, nth th k ≤ k
  | 0 => Nat.le_refl 0
  | k + 1 => by
    have := nth_le th k
    unfold nth
    split <;> omega
theorem m48 : Ex 48 0 [vR 0, none, none] [] iv (RV sa sb) Q = Q (vI (nth (fun w => iv (6 + 2 * w) 0) 9 : Nat)) iv (RV sa sb) := by
  rw [b48_0]
  have loop : ∀ t k : Nat, k + t = 9 → Ex 48 4 [vR 0, vI (nth (fun w => iv (6 + 2 * w) 0) k : Nat), vI k] [] iv (RV sa sb) Q = Q (vI (nth (fun w => iv (6 + 2 * w) 0) 9 : Nat)) iv (RV sa sb) := by
    intro t
    induction t with
    | zero =>
      intro k hk
      have : k = 9 := by omega
      subst this
      rw [b48_4, if_neg (by omega), b48_31]
    | succ t ih =>
      intro k hk
      have xk : ((k : Int)).toNat = k := Int.toNat_natCast k
      have hle := nth_le (fun w => iv (6 + 2 * w) 0) k
      have hih := ih (k + 1) (by omega)
      rw [b48_4, if_pos (by omega), b48_10 (by omega) (by omega), xk]
      by_cases c : iv (6 + 2 * k) 0 = 0
      · have e : nth (fun w => iv (6 + 2 * w) 0) (k + 1) = nth (fun w => iv (6 + 2 * w) 0) k := by
          show _ + (if iv (6 + 2 * k) 0 = 0 then 0 else 1) = _
          rw [if_pos c]; rfl
        rw [e] at hih
        rw [if_pos c, b48_25, w32_of (by omega) (by omega)]
        exact hih
      · have e : ((nth (fun w => iv (6 + 2 * w) 0) (k + 1) : Nat) : Int) = (nth (fun w => iv (6 + 2 * w) 0) k : Nat) + 1 := by
          show ((_ + (if iv (6 + 2 * k) 0 = 0 then 0 else 1) : Nat) : Int) = _
          rw [if_neg c]; omega
        rw [e] at hih
        rw [if_neg c, b48_22, b48_25, w32_of (by omega) (by omega), w32_of (by omega) (by omega)]
        exact hih
  exact loop 9 0 rfl
theorem m50 {L : Int} : Ex 50 0 [vR 0, vI L, none, none] [] iv (RV sa sb) Q = Q (vI (bo 9 (fun w => decide (iv (6 + 2 * w) 0 ≠ 0 ∧ iv (6 + 2 * w) 1 = 0 ∧ iv (6 + 2 * w) 3 ≤ L)) : Nat)) iv (RV sa sb) := by
  rw [b50_0]
  generalize hS : (fun w => decide (iv (6 + 2 * w) 0 ≠ 0 ∧ iv (6 + 2 * w) 1 = 0 ∧ iv (6 + 2 * w) 3 ≤ L)) = S
  have loop : ∀ t k : Nat, k + t = 9 → Ex 50 4 [vR 0, vI L, vI (bo k S : Nat), vI k] [] iv (RV sa sb) Q = Q (vI (bo 9 S : Nat)) iv (RV sa sb) := by
    intro t
    induction t with
    | zero =>
      intro k hk
      have : k = 9 := by omega
      subst this
      rw [b50_4, if_neg (by omega), b50_47]
    | succ t ih =>
      intro k hk
      have xk : ((k : Int)).toNat = k := Int.toNat_natCast k
      have hih := ih (k + 1) (by omega)
      have hlt := bo_lt (S := S) k (by omega)
      have hSk : S k = decide (iv (6 + 2 * k) 0 ≠ 0 ∧ iv (6 + 2 * k) 1 = 0 ∧ iv (6 + 2 * k) 3 ≤ L) := by rw [← hS]
      rw [b50_4, if_pos (by omega), b50_10 (by omega) (by omega), xk, m18 (by omega)]
      have skip : S k = false → Ex 50 41 [vR 0, vI L, vI (bo k S : Nat), vI k] [] iv (RV sa sb) Q = Q (vI (bo 9 S : Nat)) iv (RV sa sb) := fun h => by
        have e : bo (k + 1) S = bo k S := by
          show (if S k = true then _ else _) = _
          rw [if_neg (by rw [h]; exact Bool.false_ne_true)]
        rw [e] at hih
        rw [b50_41, w32_of (by omega) (by omega)]
        exact hih
      by_cases c : iv (6 + 2 * k) 0 ≠ 0 ∧ iv (6 + 2 * k) 1 = 0
      · rw [if_pos c]
        show Ex 50 19 _ [.inl 1] _ _ _ = _
        rw [b50_19, if_neg (by omega), b50_22 (by omega) (by omega), xk]
        by_cases d : L < iv (6 + 2 * k) 3
        · rw [if_pos d]
          exact skip (by rw [hSk]; exact decide_eq_false (fun z => by omega))
        · have hT : S k = true := by rw [hSk]; exact decide_eq_true ⟨c.1, c.2, by omega⟩
          have e : bo (k + 1) S = adb (bo k S) k := by
            show (if S k = true then _ else _) = _
            rw [if_pos hT]
          rw [e] at hih
          rw [if_neg d, b50_35, adb_i _ hlt k (by omega), b50_41, w32_of (by omega) (by omega)]
          exact hih
      · rw [if_neg c]
        show Ex 50 19 _ [.inl 0] _ _ _ = _
        rw [b50_19, if_pos rfl]
        exact skip (by rw [hSk]; exact decide_eq_false (fun z => c ⟨z.1, z.2.1⟩))
  exact loop 9 0 rfl
end SMA
