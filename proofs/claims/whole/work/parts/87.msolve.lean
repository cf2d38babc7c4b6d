/-! the model's solve -/
def frV (iv iv' : mIv) : Prop := ∀ p j, (p < 76 ∨ 80 < p) → ¬ (p = 66 ∧ (j = 14 ∨ j = 16)) → iv' p j = iv p j
theorem cbt_le (T k : Nat) : cbt T k ≤ k := by
  induction k with
  | zero => exact Nat.le_refl 0
  | succ k ih => show cbt T k + _ ≤ k + 1; split <;> omega
section MSO
variable {sa sb : Nat} {Q : Option mV → mIv → mRv → Prop} {n s : Nat} {c : Cg}
theorem mL_c {iv : mIv} (hW : Wm iv n c) (hn : n ≤ 5) {S : Nat → Bool} {l : Nat} (hl : l < 14) (hP : lP n S l = true) : (∀ t, t < n → mLa iv l t = cA c n S l t) ∧ mLb iv l = cK c n S l := by
  unfold lP at hP
  by_cases c9 : l < 9
  · rw [if_pos c9] at hP
    obtain ⟨a1, a2, a3, a4, a5⟩ := hW.2.2 l c9
    refine ⟨fun t ht => ?_, ?_⟩
    · unfold mLa cA lA
      rw [if_pos c9, if_pos c9, if_pos ⟨hP, ht⟩]; exact a5 t (by omega)
    · unfold mLb cK lK
      rw [if_pos c9, if_pos c9, if_pos hP]; exact a4
  · rw [if_neg c9] at hP
    have hln := of_decide_eq_true hP
    refine ⟨fun t ht => ?_, ?_⟩
    · unfold mLa cA lA
      rw [if_neg c9, if_neg c9]
      by_cases z : l - 9 = t
      · rw [if_pos z, if_pos ⟨hln, z.symm⟩]
      · rw [if_neg z, if_neg (fun y => z y.2.symm)]
    · unfold mLb cK lK
      rw [if_neg c9, if_neg c9, if_pos hln]; exact hW.2.1 _ (by omega)
theorem m68a {iv : mIv} {T : Nat} {f : Int} {u6 : Option mV} (hs : s < 512) (hn : n ≤ 5) (hT : T < 16384) (h0 : iv 66 0 = n) (hl : iv 66 19 = s) (hk : ∀ fi : Int, ((fi = 1 ∧ ∀ l, l < 14 → T.testBit l = true → lP n s.testBit l = true) ∨ (fi = 0 ∧ ∃ l, l < 14 ∧ T.testBit l = true ∧ lP n s.testBit l ≠ true)) → Ex 68 93 [vR 66, vI f, vI T, vI (cbt T 14 : Nat), vI fi, vI 14, u6] [] iv (RV sa sb) Q) : ∀ (t k : Nat), k + t = 14 → ∀ fi : Int, ((fi = 1 ∧ ∀ l, l < k → T.testBit l = true → lP n s.testBit l = true) ∨ (fi = 0 ∧ ∃ l, l < k ∧ T.testBit l = true ∧ lP n s.testBit l ≠ true)) → Ex 68 24 [vR 66, vI f, vI T, vI (cbt T k : Nat), vI fi, vI k, u6] [] iv (RV sa sb) Q := by
  intro t
  induction t with
  | zero =>
    intro k hk' fi hfi
    have : k = 14 := by omega
    subst this
    rw [b68_24, if_neg (by omega)]
    exact hk fi hfi
  | succ t ih =>
    intro k hk' fi hfi
    have hk14 : k < 14 := by omega
    have hle := cbt_le T k
    rw [b68_24, if_pos (by omega), b68_31]
    by_cases z : T.testBit k = true
    · have e : ((cbt T (k + 1) : Nat) : Int) = (cbt T k : Nat) + 1 := by
        show ((cbt T k + if T.testBit k = true then 1 else 0 : Nat) : Int) = _
        rw [if_pos z]; omega
      rw [if_pos ((bt14 hT hk14).mpr z), b68_41, w32_of (by omega) (by omega), ← e]
      have next : ∀ fi' : Int, ((fi' = 1 ∧ ∀ l, l < k + 1 → T.testBit l = true → lP n s.testBit l = true) ∨ (fi' = 0 ∧ ∃ l, l < k + 1 ∧ T.testBit l = true ∧ lP n s.testBit l ≠ true)) → ∀ x4 : Int, Ex 68 85 [vR 66, vI f, vI T, vI (cbt T (k + 1) : Nat), vI x4, vI k, u6] [.inl fi'] iv (RV sa sb) Q := fun fi' h x4 => by
        rw [b68_85, b68_87, w32_of (by omega) (by omega)]
        exact ih (k + 1) (by omega) fi' h
      rcases hfi with ⟨q1, q2⟩ | ⟨q1, l, q2, q3, q4⟩
      · rw [if_neg (by omega), b68_49]
        have yes : lP n s.testBit k = true → ∀ l, l < k + 1 → T.testBit l = true → lP n s.testBit l = true := fun h l hl' hb => by
          by_cases y : l = k
          · rw [y]; exact h
          · exact q2 l (by omega) hb
        by_cases c9 : k < 9
        · rw [if_pos (by omega), b68_56, m65 hs c9 hl]
          have e1 : lP n s.testBit k = s.testBit k := by unfold lP; rw [if_pos c9]
          by_cases y : s.testBit k = true
          · rw [if_pos y]
            show Ex 68 62 _ [.inl 1] _ _ _
            rw [b68_62, if_neg (by omega), b68_65, b68_80]
            exact next 1 (Or.inl ⟨rfl, yes (by rw [e1]; exact y)⟩) _
          · rw [if_neg y]
            show Ex 68 62 _ [.inl 0] _ _ _
            rw [b68_62, if_pos rfl, b68_84]
            exact next 0 (Or.inr ⟨rfl, k, by omega, z, by rw [e1]; exact y⟩) _
        · have e9 : w32 ((k : Int) - 9) = ((k - 9 : Nat) : Int) := by rw [w32_of (by omega) (by omega)]; omega
          have e1 : lP n s.testBit k = decide (k - 9 < n) := by unfold lP; rw [if_neg c9]
          rw [if_neg (by omega), b68_68, e9, h0]
          clear e9
          by_cases y : k - 9 < n
          · rw [if_pos (by omega), b68_80]
            exact next 1 (Or.inl ⟨rfl, yes (by rw [e1]; exact decide_eq_true y)⟩) _
          · rw [if_neg (by omega), b68_84]
            exact next 0 (Or.inr ⟨rfl, k, by omega, z, by rw [e1]; exact fun x => y (of_decide_eq_true x)⟩) _
      · rw [if_pos q1, b68_84]
        exact next 0 (Or.inr ⟨rfl, l, by omega, q3, q4⟩) _
    · have e : cbt T (k + 1) = cbt T k := by
        show cbt T k + (if T.testBit k = true then 1 else 0) = _
        rw [if_neg z]; rfl
      rw [if_neg (fun y => z ((bt14 hT hk14).mp y)), b68_87, w32_of (by omega) (by omega), ← e]
      refine ih (k + 1) (by omega) fi ?_
      rcases hfi with ⟨q1, q2⟩ | ⟨q1, l, q2, q3, q4⟩
      · refine Or.inl ⟨q1, fun l hl' hb => ?_⟩
        by_cases y : l = k
        · rw [y] at hb; exact absurd hb z
        · exact q2 l (by omega) hb
      · exact Or.inr ⟨q1, l, by omega, q3, q4⟩
/-- the rows are put in -/
theorem m68b {iv : mIv} {T : Nat} {f x3 x4 : Int} (hn : n ≤ 5) (hT : T < 16384) (hcb : cbt T 14 = n) (h0 : iv 66 0 = n) (hk : ∀ (iv' : mIv) (ln : Nat → Nat), (∀ p j, p ≠ 76 → iv' p j = iv p j) → (∀ i, i < n → ln i < 14 ∧ T.testBit (ln i) = true) → (∀ l, l < 14 → T.testBit l = true → ∃ i, i < n ∧ ln i = l) → (∀ i, i < n → (∀ t, t < n → mR iv' i t = mLa iv (ln i) t) ∧ mR iv' i 5 = mLb iv (ln i)) → Ex 68 149 [vR 66, vI f, vI T, vI x3, vI x4, vI n, vI 14] [] iv' (RV sa sb) Q) : ∀ (t k : Nat), k + t = 14 → ∀ (ivc : mIv) (ln : Nat → Nat), (∀ p j, p ≠ 76 → ivc p j = iv p j) → (∀ i, i < cbt T k → ln i < k ∧ T.testBit (ln i) = true) → (∀ l, l < k → T.testBit l = true → ∃ i, i < cbt T k ∧ ln i = l) → (∀ i, i < cbt T k → (∀ t, t < n → mR ivc i t = mLa iv (ln i) t) ∧ mR ivc i 5 = mLb iv (ln i)) → Ex 68 115 [vR 66, vI f, vI T, vI x3, vI x4, vI (cbt T k : Nat), vI k] [] ivc (RV sa sb) Q := by
  intro t
  induction t with
  | zero =>
    intro k hk' ivc ln f1 f2 f3 f4
    have : k = 14 := by omega
    subst this
    rw [hcb] at f2 f3 f4 ⊢
    rw [b68_115, if_neg (by omega)]
    exact hk ivc ln f1 f2 f3 f4
  | succ t ih =>
    intro k hk' ivc ln f1 f2 f3 f4
    have hk14 : k < 14 := by omega
    have hmo := cbt_mono T (show k + 1 ≤ 14 by omega)
    rw [b68_115, if_pos (by omega), b68_122]
    by_cases z : T.testBit k = true
    · have e : cbt T (k + 1) = cbt T k + 1 := by
        show cbt T k + (if T.testBit k = true then 1 else 0) = _
        rw [if_pos z]
      rw [if_pos ((bt14 hT hk14).mpr z), b68_132]
      have hla : ∀ l t, mLa ivc l t = mLa iv l t := fun l t => by unfold mLa; rw [f1 75 _ (by omega)]
      have hlb : ∀ l, mLb ivc l = mLb iv l := fun l => by unfold mLb; rw [f1 73 _ (by omega), f1 67 _ (by omega)]
      refine m61 (r := cbt T k) (l := k) (by omega) hk14 (by rw [f1 66 0 (by omega)]; exact h0) hn (fun iv1 g1 g2 g3 g4 => ?_)
      show Ex 68 140 _ [] _ _ _
      rw [b68_140, b68_143, w32_of (by omega) (by omega), w32_of (by omega) (by omega)]
      have := ih (k + 1) (by omega) iv1 (fun i => if i = cbt T k then k else ln i) (fun p j hp => by rw [g1 p j hp]; exact f1 p j hp) (fun i hi => ?_) (fun l hl hb => ?_) (fun i hi => ?_)
      · rw [e] at this; exact this
      · rw [e] at hi
        by_cases y : i = cbt T k
        · simp only [if_pos y]; exact ⟨by omega, z⟩
        · simp only [if_neg y]
          have := f2 i (by omega)
          exact ⟨by omega, this.2⟩
      · by_cases y : l = k
        · exact ⟨cbt T k, by omega, by simp only [if_true]; exact y.symm⟩
        · obtain ⟨i, i1, i2⟩ := f3 l (by omega) hb
          exact ⟨i, by omega, by simp only [if_neg (show i ≠ cbt T k by omega)]; exact i2⟩
      · rw [e] at hi
        by_cases y : i = cbt T k
        · simp only [if_pos y]
          rw [y]
          exact ⟨fun t ht => by rw [g3 t ht, hla], by rw [g4, hlb]⟩
        · simp only [if_neg y]
          obtain ⟨q1, q2⟩ := f4 i (by omega)
          exact ⟨fun t ht => by rw [g2 i t y (by omega)]; exact q1 t ht, by rw [g2 i 5 y (by omega)]; exact q2⟩
    · have e : cbt T (k + 1) = cbt T k := by
        show cbt T k + (if T.testBit k = true then 1 else 0) = _
        rw [if_neg z]; rfl
      rw [if_neg (fun y => z ((bt14 hT hk14).mp y)), b68_143, w32_of (by omega) (by omega), ← e]
      refine ih (k + 1) (by omega) ivc ln f1 (fun i hi => ?_) (fun l hl hb => ?_) (fun i hi => ?_)
      · rw [e] at hi
        have := f2 i hi
        exact ⟨by omega, this.2⟩
      · by_cases y : l = k
        · rw [y] at hb; exact absurd hb z
        · rw [e]; exact f3 l (by omega) hb
      · rw [e] at hi; exact f4 i hi
theorem m68 {iv : mIv} (hs : s < 512) (hB : cB c n) (hw1 : ∀ w, w < 9 → s.testBit w = true → 1 ≤ c.2.2.2.1 w) (hW : Wm iv n c) (hl : iv 66 19 = s)
    (k0 : ¬ cSat c n s.testBit → ∀ iv' : mIv, frV iv iv' → Q (vI 0) iv' (RV sa sb))
    (k1 : cSat c n s.testBit → ∀ iv' : mIv, frV iv iv' → cOpt c n s.testBit (4 + n) (iv' 78) (iv' 66 16) → iv' 66 16 ≤ 29160 → (∀ e, e < n → -17496000000 ≤ iv' 78 e ∧ iv' 78 e ≤ 17496000000) → (∀ k, k < 8 → iv' 80 k = cT c n s.testBit (k + 1) (iv' 78) (iv' 66 16) ∧ 0 ≤ iv' 80 k ∧ iv' 80 k ≤ 36000000000000) → Q (vI 1) iv' (RV sa sb)) : Ex 68 0 [vR 66, none, none, none, none, none, none] [] iv (RV sa sb) Q := by
  have hn := hB.1
  rw [b68_0]
  have main : ∀ (t T : Nat), T + t = 16384 → ∀ (f : Int) (ivc : mIv) (u3 u4 u5 u6 : Option mV), frV iv ivc → solJ c n s.testBit T f ivc → Ex 68 9 [vR 66, vI f, vI T, u3, u4, u5, u6] [] ivc (RV sa sb) Q := by
    intro t
    induction t with
    | zero =>
      intro T hT f ivc u3 u4 u5 u6 fr hJ
      have : T = 16384 := by omega
      subst this
      rw [b68_9, if_neg (by omega)]
      rcases solJ_end hs hB hw1 hJ with ⟨q1, q2⟩ | ⟨q1, q2, q3, q4, q5, q6⟩
      · rw [b68_252 (Or.inl q1), q1]; exact k0 q2 ivc fr
      · rw [b68_252 (Or.inr q1), q1]; exact k1 q2 ivc fr q3 q4 q5 q6
    | succ t ih =>
      intro T hT f ivc u3 u4 u5 u6 fr hJ
      have hT' : T < 16384 := by omega
      have hWc : Wm ivc n c := hW.fr (fun p j h1 h2 => fr p j h1 (fun z => h2 ⟨z.1, by omega⟩))
      have h0 : ivc 66 0 = n := hWc.1
      have hlc : ivc 66 19 = s := by rw [fr 66 19 (by omega) (by omega)]; exact hl
      have next : ∀ (f' : Int) (iv2 : mIv) (x3 x4 x5 : Int) (u6' : Option mV), frV iv iv2 → solJ c n s.testBit (T + 1) f' iv2 → Ex 68 246 [vR 66, vI f', vI T, vI x3, vI x4, vI x5, u6'] [] iv2 (RV sa sb) Q := fun f' iv2 x3 x4 x5 u6' g1 g2 => by
        rw [b68_246, w32_of (by omega) (by omega)]
        exact ih (T + 1) (by omega) f' iv2 _ _ _ _ g1 g2
      rw [b68_9, if_pos (by omega), b68_16]
      refine m68a hs hn hT' h0 hlc (fun fi hfi => ?_) 14 0 rfl 1 (Or.inl ⟨rfl, fun l hl => by omega⟩)
      rw [b68_93]
      rcases hfi with ⟨q1, hfit⟩ | ⟨q1, l, q2, q3, q4⟩
      · rw [if_neg (by omega), b68_98, h0]
        by_cases hcb : cbt T 14 = n
        · rw [if_pos (by rw [hcb]), b68_109]
          refine m68b hn hT' hcb h0 (fun iv1 ln f1 f2 f3 f4 => ?_) 14 0 rfl ivc (fun _ => 0) (fun _ _ _ => rfl) (fun i hi => absurd hi (Nat.not_lt_zero i)) (fun l hl => by omega) (fun i hi => absurd hi (Nat.not_lt_zero i))
          rw [b68_149]
          have hline : ∀ i, i < n → (∀ t, t < n → mLa ivc (ln i) t = cA c n s.testBit (ln i) t) ∧ mLb ivc (ln i) = cK c n s.testBit (ln i) := fun i hi => mL_c hWc hn (f2 i hi).1 (hfit _ (f2 i hi).1 (f2 i hi).2)
          have hbn := hB.ln s.testBit
          refine m63 (a := fun i t => mLa ivc (ln i) t) (b := fun i => mLb ivc (ln i)) hn (by rw [f1 66 0 (by omega)]; exact h0) (fun r hr t ht => by rw [(hline r hr).1 t ht]; exact hbn.1 _ _) (fun r hr => by rw [(hline r hr).2]; exact hbn.2 _) (fun r hr k hk => (f4 r hr).1 k hk) (fun r hr => (f4 r hr).2) (fun hdep iv2 g1 => ?_) (fun iv2 g1 g2 g3 g4 g5 => ?_)
          · show Ex 68 153 _ [.inl 0] _ _ _
            rw [b68_153, if_pos rfl]
            have ff : ∀ p j, p ≠ 76 → iv2 p j = ivc p j := fun p j hp => by rw [g1 p j hp, f1 p j hp]
            refine next f iv2 _ _ _ _ (fun p j h1 h2 => by rw [ff p j (by omega)]; exact fr p j h1 h2) (solJ_skip hJ (fun X d ho => ?_) (ff 66 16 (by omega)) (fun j => ff 78 j (by omega)) (fun j => ff 80 j (by omega)))
            obtain ⟨x, c', hc', hx, hz⟩ := hdep
            refine hx (ho.2.2.2.2.1 x (fun l hl hb => ?_) c' hc')
            obtain ⟨i, i1, i2⟩ := f3 l hl hb
            rw [← i2, ← hz i i1]
            exact sm_congr (fun t ht => by rw [(hline i i1).1 t ht])
          · show Ex 68 153 _ [.inl 1] _ _ _
            rw [b68_153, if_neg (by omega), b68_156]
            have ff : ∀ p j, p ≠ 76 → p ≠ 77 → ¬ (p = 66 ∧ j = 14) → iv2 p j = ivc p j := fun p j h1 h2 h3 => by rw [g1 p j h1 h2 h3, f1 p j h1]
            have hY : ∀ l, l < 14 → T.testBit l = true → sm n (fun t => cA c n s.testBit l t * iv2 77 t) = cK c n s.testBit l * iv2 66 14 := fun l hl hb => by
              obtain ⟨i, i1, i2⟩ := f3 l hl hb
              rw [← i2, ← (hline i i1).2, ← g5 i i1]
              exact sm_congr (fun t ht => by rw [(hline i i1).1 t ht])
            have fr2 : frV iv iv2 := fun p j h1 h2 => by rw [ff p j (by omega) (by omega) (by omega)]; exact fr p j h1 h2
            have hW2 : Wm iv2 n c := hW.fr (fun p j h1 h2 => fr2 p j h1 (fun z => h2 ⟨z.1, by omega⟩))
            refine m66 hs hB hW2 (by rw [ff 66 19 (by omega) (by omega) (by omega)]; exact hlc) ⟨g2, g3⟩ g4 (fun hno iv3 k1' => ?_) (fun hm iv3 k1' k2' => ?_)
            · show Ex 68 160 _ [.inl 0] _ _ _
              rw [b68_160, if_pos rfl]
              refine next f iv3 _ _ _ _ (fun p j h1 h2 => by rw [k1' p j (by omega)]; exact fr2 p j h1 h2) (solJ_skip hJ (fun X d ho => ?_) (by rw [k1' 66 16 (by omega)]; exact ff 66 16 (by omega) (by omega) (by omega)) (fun j => by rw [k1' 78 j (by omega)]; exact ff 78 j (by omega) (by omega) (by omega)) (fun j => by rw [k1' 80 j (by omega)]; exact ff 80 j (by omega) (by omega) (by omega)))
              exact hno (must_sc ho.1 g2 (okP_eq ho hY) ho.2.2.2.2.2)
            · show Ex 68 160 _ [.inl 1] _ _ _
              rw [b68_160, if_neg (by omega), b68_163]
              have e77 : ∀ j, iv3 77 j = iv2 77 j := fun j => k1' 77 j (by omega)
              have e14 : iv3 66 14 = iv2 66 14 := k1' 66 14 (by omega)
              have e16 : iv3 66 16 = ivc 66 16 := by rw [k1' 66 16 (by omega)]; exact ff 66 16 (by omega) (by omega) (by omega)
              have e78 : ∀ j, iv3 78 j = ivc 78 j := fun j => by rw [k1' 78 j (by omega)]; exact ff 78 j (by omega) (by omega) (by omega)
              have e80 : ∀ j, iv3 80 j = ivc 80 j := fun j => by rw [k1' 80 j (by omega)]; exact ff 80 j (by omega) (by omega) (by omega)
              have fr3 : frV iv iv3 := fun p j h1 h2 => by rw [k1' p j (by omega)]; exact fr2 p j h1 h2
              -- a new best is written down
              have wr : (f = 1 → lng 8 (fun k => ivc 66 16 * cT c n s.testBit (k + 1) (iv2 77) (iv2 66 14) - iv2 66 14 * cT c n s.testBit (k + 1) (ivc 78) (ivc 66 16))) → ∀ x6 : Int, Ex 68 174 [vR 66, vI f, vI T, vI (cbt T 14 : Nat), vI fi, vI n, vI x6] [] iv3 (RV sa sb) Q := fun hless x6 => by
                rw [b68_174]
                have pts : ∀ (t k : Nat), k + t = n → ∀ ivd : mIv, (∀ p j, p ≠ 78 → p ≠ 80 → ¬ (p = 66 ∧ j = 16) → ivd p j = iv3 p j) → ivd 66 16 = iv2 66 14 → (∀ j, j < 8 → ivd 80 j = iv3 79 j) → (∀ j, j < k → ivd 78 j = iv2 77 j) → ∀ x6 : Int, x6 = k → Ex 68 217 [vR 66, vI 1, vI T, vI (cbt T 14 : Nat), vI fi, vI n, vI x6] [] ivd (RV sa sb) Q := by
                  intro t
                  induction t with
                  | zero =>
                    intro k hk ivd d1 d2 d3 d4 x6 hx6
                    have : k = n := by omega
                    subst this
                    subst hx6
                    rw [b68_217, if_neg (by rw [d1 66 0 (by omega) (by omega) (by omega), k1' 66 0 (by omega), hW2.1]; omega)]
                    have ec : ∀ L, cT c k s.testBit L (ivd 78) (ivd 66 16) = cT c k s.testBit L (iv2 77) (iv2 66 14) := fun L => by rw [d2]; exact cT_ext hn d4 L _
                    refine next 1 ivd _ _ _ _ (fun p j h1 h2 => by rw [d1 p j (by omega) (by omega) (by omega)]; exact fr3 p j h1 h2) (solJ_new hn hJ (by rw [d2]; exact ⟨g2, g3⟩) (fun e he => by rw [d4 e he]; exact g4 e he) (must_sc (X := iv2 77) (d := iv2 66 14) g2 (by rw [d2]; exact g2) (fun t ht => by rw [d2, d4 t ht]) hm) (fun j hj => by rw [d3 j hj, ec]; exact k2' j hj) (fun l hl hb => ?_) (fun hf => ?_))
                    · rw [d2, ← hY l hl hb]
                      exact sm_congr (fun t ht => by rw [d4 t ht])
                    · refine lng_congr (fun j _ => ?_) (hless hf)
                      rw [ec, d2]
                  | succ t ih2 =>
                    intro k hk ivd d1 d2 d3 d4 x6 hx6
                    subst hx6
                    rw [b68_217, if_pos (by rw [d1 66 0 (by omega) (by omega) (by omega), k1' 66 0 (by omega), hW2.1]; omega), b68_226 (by omega) (by omega), Int.toNat_natCast, w32_of (by omega) (by omega)]
                    refine ih2 (k + 1) (by omega) _ (fun p j n78 n80 n66 => by rw [st2_ne n78]; exact d1 p j n78 n80 n66) (by rw [st2_ne (by omega)]; exact d2) (fun j hj => by rw [st2_ne (by omega)]; exact d3 j hj) (fun j hj => ?_) _ rfl
                    by_cases y : j = k
                    · rw [y, st2_eq, d1 77 k (by omega) (by omega) (by omega), e77]
                    · rw [st2_nk y]; exact d4 j (by omega)
                have cst : ∀ (t k : Nat), k + t = 8 → ∀ ivd : mIv, (∀ p j, p ≠ 80 → ¬ (p = 66 ∧ j = 16) → ivd p j = iv3 p j) → ivd 66 16 = iv2 66 14 → (∀ j, j < k → ivd 80 j = iv3 79 j) → Ex 68 187 [vR 66, vI 1, vI T, vI (cbt T 14 : Nat), vI fi, vI n, vI k] [] ivd (RV sa sb) Q := by
                  intro t
                  induction t with
                  | zero =>
                    intro k hk ivd d1 d2 d3
                    have : k = 8 := by omega
                    subst this
                    rw [b68_187, if_neg (by omega), b68_214]
                    exact pts n 0 (by omega) ivd (fun p j n78 n80 n66 => d1 p j n80 n66) d2 d3 (fun j hj => by omega) 0 rfl
                  | succ t ih2 =>
                    intro k hk ivd d1 d2 d3
                    rw [b68_187, if_pos (by omega), b68_194 (by omega) (by omega), Int.toNat_natCast, w32_of (by omega) (by omega)]
                    refine ih2 (k + 1) (by omega) _ (fun p j n80 n66 => by rw [st2_ne n80]; exact d1 p j n80 n66) (by rw [st2_ne (by omega)]; exact d2) (fun j hj => ?_)
                    by_cases y : j = k
                    · rw [y, st2_eq, d1 79 k (by omega) (by omega)]
                    · rw [st2_nk y]; exact d3 j (by omega)
                exact cst 8 0 rfl _ (fun p j n80 n66 => by unfold st2; rw [if_neg n66]) (by rw [st2_eq, e14]) (fun j hj => by omega)
              by_cases hf : f = 0
              · rw [if_pos hf]
                exact wr (fun z => by omega) _
              · rw [if_neg hf, b68_167]
                have hf1 : f = 1 := by
                  rcases hJ with q | q
                  · exact absurd q.1 hf
                  · exact q.1
                have hJ1 := hJ
                rw [hf1] at hJ1
                rcases hJ with q | ⟨_, j2, j3, j4, j5, j6, j7⟩
                · exact absurd q.1 hf
                have hlx : ∀ k, k < 8 → iv3 79 k * iv3 66 16 - iv3 80 k * iv3 66 14 = ivc 66 16 * cT c n s.testBit (k + 1) (iv2 77) (iv2 66 14) - iv2 66 14 * cT c n s.testBit (k + 1) (ivc 78) (ivc 66 16) := fun k hk => by
                  rw [(k2' k hk).1, e80, (j6 k hk).1, e16, e14]
                  grind
                refine m67 (by rw [e14]; exact ⟨g2, g3⟩) (by rw [e16]; exact ⟨j2, j3⟩) (fun k hk => (k2' k hk).2) (fun k hk => by rw [e80]; exact (j6 k hk).2) (fun hlt => ?_) (fun hge => ?_)
                · show Ex 68 171 _ [.inl 1] _ _ _
                  rw [b68_171, if_neg (by omega)]
                  exact wr (fun _ => lng_congr hlx hlt) _
                · show Ex 68 171 _ [.inl 0] _ _ _
                  rw [b68_171, if_pos rfl, hf1]
                  refine next 1 iv3 _ _ _ _ fr3 (solJ_keep hn hJ1 g2 hY (lxn_of (fun z => hge (lng_congr (fun k hk => (hlx k hk).symm) z))) e16 e78 e80)
        · rw [if_neg (by omega), b68_106]
          exact next f ivc _ _ _ _ fr (solJ_skip hJ (fun X d ho => hcb ho.2.2.1) rfl (fun _ => rfl) (fun _ => rfl))
      · rw [if_pos q1]
        exact next f ivc _ _ _ _ fr (solJ_skip hJ (fun X d ho => q4 (ho.2.1 l q2 q3)) rfl (fun _ => rfl) (fun _ => rfl))
  exact main 16384 0 (by omega) 0 _ none none none none (fun p j h1 h2 => by unfold st2; rw [if_neg (fun z => h2 ⟨z.1, Or.inr z.2⟩)]) (Or.inl ⟨rfl, fun T' hT' => by omega⟩)
end MSO
