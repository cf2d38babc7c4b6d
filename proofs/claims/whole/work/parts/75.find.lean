/-! what the class's memory holds; findSetting, clashes, leastQuarrel -/
/-- edges, next factors, there, hidden, quarrel; the config -/
abbrev Sg : Type := Nat × (Nat → Int) × (Nat → Int) × (Nat → Int) × Int × Cg
def sS (g : Sg) : Nat → Bool := fun w => decide (w < 9 ∧ g.2.2.1 w ≠ 0 ∧ g.2.2.2.1 w = 0)
def sM (g : Sg) : Nat → Bool := fun w => decide (w < 9 ∧ g.2.2.1 w ≠ 0 ∧ g.2.2.2.1 w = 0 ∧ g.2.2.2.2.2.2.2.1 w = 0)
def sB (g : Sg) : Prop := cB g.2.2.2.2.2 g.1 ∧ (∀ e, e < 5 → -3 ≤ g.2.1 e ∧ g.2.1 e ≤ 3) ∧ ∀ w, w < 9 → (g.2.2.1 w = 0 ∨ g.2.2.1 w = 1) ∧ (g.2.2.2.1 w = 0 ∨ g.2.2.2.1 w = 1) ∧ (g.2.2.1 w ≠ 0 → 1 ≤ g.2.2.2.2.2.2.2.2.1 w)
def sSat (g : Sg) : Prop := cSat g.2.2.2.2.2 g.1 (sS g)
def Wc (iv : mIv) (g : Sg) : Prop := iv 0 5 = g.1 ∧ iv 0 6 = g.2.2.2.2.1 ∧ (∀ e, e < 5 → iv 1 e = g.2.2.2.2.2.2.2.2.2.2 e ∧ iv 2 e = g.2.1 e) ∧ ∀ w, w < 9 → iv (6 + 2 * w) 0 = g.2.2.1 w ∧ iv (6 + 2 * w) 1 = g.2.2.2.1 w ∧ iv (6 + 2 * w) 2 = g.2.2.2.2.2.2.1 w ∧ iv (6 + 2 * w) 3 = g.2.2.2.2.2.2.2.1 w ∧ iv (6 + 2 * w) 4 = g.2.2.2.2.2.2.2.2.1 w ∧ iv (6 + 2 * w) 5 = g.2.2.2.2.2.2.2.2.2.1 w ∧ ∀ e, e < 5 → iv (7 + 2 * w) e = g.2.2.2.2.2.1 w e
def hSS (sa sb : Nat) : Prop := (sa = 24 ∧ sb = 45) ∨ (sa = 45 ∧ sb = 24)
def Rc (iv : mIv) (sa sb : Nat) (g : Sg) : Prop := hSS sa sb ∧ Wc iv g ∧ solB iv 24 ∧ solB iv 45 ∧ (iv 0 9 = 0 ∨ (iv 0 9 = 1 ∧ solS g.2.2.2.2.2 g.1 (sS g) iv sa))
theorem Wc.cE {iv : mIv} {g : Sg} (h : Wc iv g) (hB : sB g) (S : Nat → Bool) : cEq g.1 S (cM iv) g.2.2.2.2.2 := by
  have hn := hB.1.1
  refine ⟨fun w hw _ => ?_, fun e he => (h.2.2.1 e (by omega)).1⟩
  obtain ⟨a0, a1, a2, a3, a4, a5, a6⟩ := h.2.2.2 w hw
  exact ⟨fun t ht => a6 t (by omega), a2, a3, a4, a5⟩
theorem Wc.cB {iv : mIv} {g : Sg} (h : Wc iv g) (hB : sB g) : cB (cM iv) g.1 := by
  obtain ⟨h1, h2, h3, h4⟩ := hB.1
  refine ⟨h1, fun w hw e he => ?_, fun w hw => ?_, fun e he => ?_⟩
  · show -3 ≤ iv (7 + 2 * w) e ∧ iv (7 + 2 * w) e ≤ 3
    rw [(h.2.2.2 w hw).2.2.2.2.2.2 e he]; exact h2 w hw e he
  · obtain ⟨a0, a1, a2, a3, a4, a5, a6⟩ := h.2.2.2 w hw
    show (0 ≤ iv (6 + 2 * w) 2 ∧ iv (6 + 2 * w) 2 ≤ 2) ∧ (0 ≤ iv (6 + 2 * w) 3 ∧ iv (6 + 2 * w) 3 ≤ 3) ∧ (0 ≤ iv (6 + 2 * w) 4 ∧ iv (6 + 2 * w) 4 ≤ 9) ∧ (-1000 ≤ iv (6 + 2 * w) 5 ∧ iv (6 + 2 * w) 5 ≤ 1000)
    rw [a2, a3, a4, a5]; exact h3 w hw
  · show -100000 ≤ iv 1 e ∧ iv 1 e ≤ 100000
    rw [(h.2.2.1 e he).1]; exact h4 e he
/-- all but a solver, the quarrel and 'is set' -/
def frP (b : Nat) (iv iv' : mIv) : Prop := ∀ p j, p < b ∨ b + 20 < p → ¬ (p = 0 ∧ (j = 6 ∨ j = 9)) → iv' p j = iv p j
theorem frB.P {b : Nat} {iv iv' : mIv} (h : frB b iv iv') : frP b iv iv' := fun p j hp _ => h p j hp
theorem onlyW.B {b : Nat} {iv iv' : mIv} (h : onlyW b iv iv') : frB b iv iv' := fun p j hp => h p j (by omega) (by omega) (by omega) (by omega) (by omega) (fun i _ => by omega) (by omega)
theorem onlyV.B {b : Nat} {iv iv' : mIv} (h : onlyV b iv iv') : frB b iv iv' := fun p j hp => h p j (by omega) (by omega) (by omega) (by omega) (by omega) (by omega) (fun i _ => by omega) (by omega)
theorem frB.trans {b : Nat} {iv iv' iv'' : mIv} (h : frB b iv iv') (k : frB b iv' iv'') : frB b iv iv'' := fun p j hp => (k p j hp).trans (h p j hp)
theorem Wc.fr {b : Nat} {iv iv' : mIv} {g : Sg} (hb : b = 24 ∨ b = 45) (h : Wc iv g) (f : frB b iv iv') : Wc iv' g := by
  obtain ⟨h1, h2, h3, h4⟩ := h
  refine ⟨by rw [f _ _ (by omega)]; exact h1, by rw [f _ _ (by omega)]; exact h2, fun e he => by rw [f _ _ (by omega), f _ _ (by omega)]; exact h3 e he, fun w hw => ?_⟩
  rw [f _ _ (by omega), f _ _ (by omega), f _ _ (by omega), f _ _ (by omega), f _ _ (by omega), f _ _ (by omega)]
  obtain ⟨a0, a1, a2, a3, a4, a5, a6⟩ := h4 w hw
  exact ⟨a0, a1, a2, a3, a4, a5, fun e he => by rw [f _ _ (by omega)]; exact a6 e he⟩
theorem Wc.set {iv : mIv} {g : Sg} (h : Wc iv g) (x : Int) : Wc (st2 iv 0 9 x) g := by
  obtain ⟨h1, h2, h3, h4⟩ := h
  refine ⟨by rw [st2_nk (by omega)]; exact h1, by rw [st2_nk (by omega)]; exact h2, fun e he => by rw [st2_ne (by omega), st2_ne (by omega)]; exact h3 e he, fun w hw => ?_⟩
  rw [st2_ne (by omega), st2_ne (by omega), st2_ne (by omega), st2_ne (by omega), st2_ne (by omega), st2_ne (by omega)]
  obtain ⟨a0, a1, a2, a3, a4, a5, a6⟩ := h4 w hw
  exact ⟨a0, a1, a2, a3, a4, a5, fun e he => by rw [st2_ne (by omega)]; exact a6 e he⟩
theorem solB.fr {b d : Nat} {iv iv' : mIv} (f : ∀ p j, d ≤ p → p ≤ d + 20 → iv' p j = iv p j) (h : solB iv d) : solB iv' d := by
  refine ⟨fun l => ?_, fun l hl => by rw [f _ _ (by omega) (by omega)]; exact h.2 l hl⟩
  unfold abF beF
  rw [f _ _ (by omega) (by omega), f _ _ (by omega) (by omega)]
  exact h.1 l
theorem okL.solB {c : Cg} {n : Nat} {S : Nat → Bool} {iv : mIv} {b m : Nat} (h : okL c n S iv b m) : solB iv b := ⟨h.1.2.2.2.2.2.2.2.1, h.1.2.2.2.2.2.2.1⟩
theorem okL.fr {c : Cg} {n : Nat} {S : Nat → Bool} {iv iv' : mIv} {b m : Nat} (f : ∀ p j, b ≤ p → p ≤ b + 20 → iv' p j = iv p j) (h : okL c n S iv b m) : okL c n S iv' b m := by
  obtain ⟨⟨a1, a2, a3, a4, a5, a6, a7, a8, a9⟩, e2, e3⟩ := h
  refine ⟨⟨by rw [f _ _ (by omega) (by omega)]; exact a1, by rw [f _ _ (by omega) (by omega)]; exact a2, a3, a4, fun i hi => by rw [f _ _ (by omega) (by omega)]; exact a5 i hi, fun j hj => by rw [f _ _ (by omega) (by omega)]; exact a6 j hj, fun l hl => by rw [f _ _ (by omega) (by omega)]; exact a7 l hl, fun l => ?_, DI_congr (D := dcM iv b) (fun j _ => ?_) (fun i _ => ?_) ?_ (fun i hi j _ => ?_) (fun i _ => ?_) (fun i _ => ?_) a9⟩, fun l hl hP => ?_, fun e he => by rw [f _ _ (by omega) (by omega)]; exact e3 e he⟩
  · unfold abF beF
    rw [f _ _ (by omega) (by omega), f _ _ (by omega) (by omega)]; exact a8 l
  · show lnC iv' b j = lnC iv b j
    unfold lnC; rw [f _ _ (by omega) (by omega)]
  · show lnR iv' b i = lnR iv b i
    unfold lnR; rw [f _ _ (by omega) (by omega)]
  · exact f _ _ (by omega) (by omega)
  · exact f (b + 7 + i) j (by omega) (by omega)
  · exact f _ _ (by omega) (by omega)
  · exact f _ _ (by omega) (by omega)
  · unfold lvF abF beF
    rw [f _ _ (by omega) (by omega), f _ _ (by omega) (by omega), f _ _ (by omega) (by omega)]
    exact e2 l hl hP
theorem solS.fr {c : Cg} {n : Nat} {S : Nat → Bool} {iv iv' : mIv} {b : Nat} (f : ∀ p j, b ≤ p → p ≤ b + 20 → iv' p j = iv p j) (h : solS c n S iv b) : solS c n S iv' b := by
  obtain ⟨m, h1, h2, h3, h4⟩ := h
  have e : iv' (b + 1) = iv (b + 1) := by funext j; exact f _ _ (by omega) (by omega)
  refine ⟨m, h1.fr f, ?_, by rw [f _ _ (by omega) (by omega)]; exact h3, fun t ht => by rw [e]; exact h4 t ht⟩
  rw [e, f _ _ (by omega) (by omega)]
  exact h2
theorem solS.solB {c : Cg} {n : Nat} {S : Nat → Bool} {iv : mIv} {b : Nat} (h : solS c n S iv b) : solB iv b := by
  obtain ⟨m, h1, _⟩ := h
  exact h1.solB
/-- the bits of the wishes that count -/
theorem cnt4 {iv : mIv} {g : Sg} (h : Wc iv g) (hB : sB g) : (bo 9 (fun w => decide (iv (6 + 2 * w) 0 ≠ 0 ∧ iv (6 + 2 * w) 1 = 0 ∧ iv (6 + 2 * w) 3 ≤ 4))).testBit = sS g := by
  rw [bo_congr (S' := sS g) (fun l hl => ?_), bo_S (fun l hl => by unfold sS; exact decide_eq_false (fun z => by omega))]
  obtain ⟨a0, a1, a2, a3, a4, a5, a6⟩ := h.2.2.2 l hl
  have hl3 := (hB.1.2.2.1 l hl).2.1
  unfold sS
  rw [a0, a1, a3]
  exact decide_eq_decide.mpr ⟨fun z => ⟨hl, z.1, z.2.1⟩, fun z => ⟨z.2.1, z.2.2, by omega⟩⟩
theorem cnt0 {iv : mIv} {g : Sg} (h : Wc iv g) (hB : sB g) : bo 9 (fun w => decide (iv (6 + 2 * w) 0 ≠ 0 ∧ iv (6 + 2 * w) 1 = 0 ∧ iv (6 + 2 * w) 3 ≤ 0)) = bo 9 (sM g) := by
  refine bo_congr (fun l hl => ?_)
  obtain ⟨a0, a1, a2, a3, a4, a5, a6⟩ := h.2.2.2 l hl
  have hl3 := (hB.1.2.2.1 l hl).2.1
  unfold sM
  rw [a0, a1, a3]
  exact decide_eq_decide.mpr ⟨fun z => ⟨hl, z.1, z.2.1, by omega⟩, fun z => ⟨z.2.1, z.2.2.1, by omega⟩⟩
theorem m51 {sa sb : Nat} {iv : mIv} {Q : Option mV → mIv → mRv → Prop} {g : Sg} (hB : sB g) (h : Rc iv sa sb g) (hk : ∀ iv' : mIv, frP sa iv iv' → iv' 0 6 = iv 0 6 → Rc iv' sa sb g → solS g.2.2.2.2.2 g.1 (sS g) iv' sa → Q none iv' (RV sa sb)) : Ex 51 0 [vR 0] [] iv (RV sa sb) Q := by
  obtain ⟨hS, hW, s1, s2, hset⟩ := h
  rw [b51_0]
  by_cases c : iv 0 9 = 0
  · rw [if_pos c, b51_7 hS, m50]
    show Ex 51 20 _ [.inl _, .inr (.inr (some 5)), .inr (.inr (some sa))] _ _ _
    have hb : sa = 24 ∨ sa = 45 := by rcases hS with h | h <;> omega
    rw [b51_20 hS, hW.1]
    refine m0 hb (bo_lt 9 (by omega)) (hW.cB hB) (by rcases hb with rfl | rfl <;> assumption) (fun iv1 m f1 h1 => ?_)
    show Ex 51 31 _ [] _ _ _
    rw [cnt4 hW hB] at h1
    have h1' := (hW.cE hB (sS g)).okL h1
    rw [b51_31 hS]
    refine m5 hb hB.1 h1' (fun iv2 o2 h2 => ?_)
    show Ex 51 38 _ [] _ _ _
    have f2 := f1.trans o2.B
    rw [b51_38, b51_43]
    have hsl : ∀ p j, sa ≤ p → p ≤ sa + 20 → st2 iv2 0 9 1 p j = iv2 p j := fun p j q1 q2 => st2_ne (by omega)
    have hsol := h2.fr hsl
    refine hk _ (fun p j hp hn => ?_) ?_ ⟨hS, ((hW.fr hb f2).set 1), ?_, ?_, Or.inr ⟨by rw [st2_eq], hsol⟩⟩ hsol
    · by_cases z : p = 0
      · rw [z] at hn ⊢
        rw [st2_nk (by omega)]
        exact f2 0 j (by omega)
      · rw [st2_ne z]; exact f2 p j hp
    · rw [st2_nk (by omega)]; exact f2 0 6 (by omega)
    · rcases hb with e | e
      · rw [← e]; exact hsol.solB
      · exact s1.fr (b := 24) (fun p j q1 q2 => by rw [st2_ne (by omega)]; exact f2 p j (by omega))
    · rcases hb with e | e
      · exact s2.fr (b := 24) (fun p j q1 q2 => by rw [st2_ne (by omega)]; exact f2 p j (by omega))
      · rw [← e]; exact hsol.solB
  · rw [if_neg c, b51_43]
    rcases hset with z | z
    · exact absurd z c
    · exact hk iv (fun _ _ _ _ => rfl) rfl ⟨hS, hW, s1, s2, Or.inr z⟩ z.2
/-- the least quarrel, made by taking out -/
noncomputable def lqF (c : Cg) (n : Nat) : Nat → Nat → Nat
  | 0, s => s
  | k + 1, s => @ite Nat ((lqF c n k s).testBit k = true ∧ ¬ cSat c n (clr (lqF c n k s) k).testBit) (Classical.propDecidable _) (clr (lqF c n k s) k) (lqF c n k s)
theorem lqF_y {c : Cg} {n k s : Nat} (h : (lqF c n k s).testBit k = true ∧ ¬ cSat c n (clr (lqF c n k s) k).testBit) : lqF c n (k + 1) s = clr (lqF c n k s) k := if_pos h
theorem lqF_n {c : Cg} {n k s : Nat} (h : ¬ ((lqF c n k s).testBit k = true ∧ ¬ cSat c n (clr (lqF c n k s) k).testBit)) : lqF c n (k + 1) s = lqF c n k s := if_neg h
theorem lqF_lt {c : Cg} {n s : Nat} (hs : s < 512) : ∀ k, k ≤ 9 → lqF c n k s < 512
  | 0, _ => hs
  | k + 1, hk => by
    have ih := lqF_lt (c := c) (n := n) hs k (by omega)
    by_cases h : (lqF c n k s).testBit k = true ∧ ¬ cSat c n (clr (lqF c n k s) k).testBit
    · rw [lqF_y h]; exact clr_lt _ ih k (by omega)
    · rw [lqF_n h]; exact ih
theorem m53 {sa sb : Nat} {iv : mIv} {Q : Option mV → mIv → mRv → Prop} {g : Sg} (hS : hSS sa sb) (hB : sB g) (hW : Wc iv g) (hsol : solB iv sb) (hk : ∀ iv' : mIv, frB sb iv iv' → solB iv' sb → Q (vI (lqF g.2.2.2.2.2 g.1 9 (bo 9 (sM g)) : Nat)) iv' (RV sa sb)) : Ex 53 0 [vR 0, none, none, none] [] iv (RV sa sb) Q := by
  have hb : sb = 24 ∨ sb = 45 := by rcases hS with h | h <;> omega
  rw [b53_0, m50]
  show Ex 53 5 _ [.inl _] _ _ _
  rw [b53_5, cnt0 hW hB]
  have hs0 := bo_lt (S := sM g) 9 (by omega)
  generalize bo 9 (sM g) = s0 at hs0 hk ⊢
  have loop : ∀ t k : Nat, k + t = 9 → ∀ (ivc : mIv) (u3 : Option mV), frB sb iv ivc → solB ivc sb → Ex 53 8 [vR 0, vI (lqF g.2.2.2.2.2 g.1 k s0 : Nat), vI k, u3] [] ivc (RV sa sb) Q := by
    intro t
    induction t with
    | zero =>
      intro k hk' ivc u3 f s
      have : k = 9 := by omega
      subst this
      rw [b53_8, if_neg (by omega), b53_73]
      exact hk ivc f s
    | succ t ih =>
      intro k hk' ivc u3 f s
      have hlt := lqF_lt (c := g.2.2.2.2.2) (n := g.1) hs0 k (by omega)
      have hWc := hW.fr hb f
      rw [b53_8, if_pos (by omega), b53_14, clr_i _ hlt k (by omega)]
      have next : ∀ (x : Nat) (iv' : mIv) (v3 : Int), x = lqF g.2.2.2.2.2 g.1 (k + 1) s0 → frB sb iv iv' → solB iv' sb → Ex 53 67 [vR 0, vI x, vI k, vI v3] [] iv' (RV sa sb) Q := fun x iv' v3 hx f' s' => by
        rw [b53_67, w32_of (by omega) (by omega), hx]
        exact ih (k + 1) (by omega) iv' _ f' s'
      by_cases c : (lqF g.2.2.2.2.2 g.1 k s0).testBit k = true
      · have hne : ¬ ((clr (lqF g.2.2.2.2.2 g.1 k s0) k : Nat) : Int) = (lqF g.2.2.2.2.2 g.1 k s0 : Nat) := fun z => by
          have := (clr_eq _ hlt k (by omega)).mp (by omega)
          rw [this] at c; exact absurd c Bool.false_ne_true
        rw [if_neg hne, b53_27 hS, hWc.1]
        have hcl := clr_lt _ hlt k (by omega)
        refine m0 hb hcl (hWc.cB hB) s (fun iv1 m f1 h1 => ?_)
        have h1' := (hWc.cE hB (clr (lqF g.2.2.2.2.2 g.1 k s0) k).testBit).okL h1
        show Ex 53 47 _ [] _ _ _
        rw [b53_47 hS]
        refine m7c (levels := 1) hb (by omega) hB.1 h1' (fun iv2 o2 h2 hno => ?_)
        have f2 := f.trans (f1.trans o2.B)
        have hiff := must_iff hB.1 h2 hno
        show Ex 53 55 _ [] _ _ _
        rw [b53_55 hS]
        refine m4 hb (h2.1.sv (hB.1.ln _)).1 (fun hx => ?_) (fun hx => ?_)
        · show Ex 53 62 _ [.inl 0] _ _ _
          rw [b53_62, if_pos rfl, b53_65]
          refine next _ iv2 _ (lqF_y ⟨c, fun z => ?_⟩).symm f2 h2.solB
          obtain ⟨i, i1, i2, i3, i4⟩ := hx
          rcases hiff.mpr z i i1 i2 with e | e
          · exact i3 e
          · exact i4 e
        · show Ex 53 62 _ [.inl 1] _ _ _
          rw [b53_62, if_neg (by omega)]
          exact next _ iv2 _ (lqF_n (fun z => z.2 (hiff.mp hx))).symm f2 h2.solB
      · have hc : (lqF g.2.2.2.2.2 g.1 k s0).testBit k = false := by
          cases hh : (lqF g.2.2.2.2.2 g.1 k s0).testBit k with
          | true => exact absurd hh c
          | false => rfl
        rw [(clr_eq _ hlt k (by omega)).mpr hc, if_pos rfl]
        exact next _ ivc _ (lqF_n (fun z => c z.1)).symm f s
  exact loop 9 0 rfl iv none (fun _ _ _ => rfl) hsol
theorem sol_ne {sa sb : Nat} (hS : hSS sa sb) {iv : mIv} (s1 : solB iv 24) (s2 : solB iv 45) : solB iv sa ∧ solB iv sb := by
  rcases hS with ⟨e1, e2⟩ | ⟨e1, e2⟩
  · rw [e1, e2]; exact ⟨s1, s2⟩
  · rw [e1, e2]; exact ⟨s2, s1⟩
/-- clashes: three ways -/
theorem m52 {sa sb : Nat} {iv : mIv} {Q : Option mV → mIv → mRv → Prop} {g : Sg} {k : Nat} (hS : hSS sa sb) (hB : sB g) (hW : Wc iv g) (s1 : solB iv 24) (s2 : solB iv 45) (hk : k < 9)
    (ka : ¬ (g.2.2.1 k ≠ 0 ∧ g.2.2.2.1 k = 0 ∧ g.2.2.2.2.2.2.2.1 k = 0) → Q (vI 0) (st2 iv 0 9 0) (RV sa sb))
    (kb : (g.2.2.1 k ≠ 0 ∧ g.2.2.2.1 k = 0 ∧ g.2.2.2.2.2.2.2.1 k = 0) → ¬ sSat g → ∀ iv' : mIv, frB sb iv iv' → solB iv' sb → Q (vI 1) (st2 iv' 0 6 (lqF g.2.2.2.2.2 g.1 9 (bo 9 (sM g)) : Nat)) (RV sa sb))
    (kc : (g.2.2.1 k ≠ 0 ∧ g.2.2.2.1 k = 0 ∧ g.2.2.2.2.2.2.2.1 k = 0) → sSat g → ∀ iv' : mIv, frB sb iv iv' → solS g.2.2.2.2.2 g.1 (sS g) iv' sb → Q (vI 0) (st2 iv' 0 9 1) (RV sb sa)) : Ex 52 0 [vR 0, vR (6 + 2 * k), none] [] iv (RV sa sb) Q := by
  have hb : sb = 24 ∨ sb = 45 := by rcases hS with h | h <;> omega
  have hsol := (sol_ne hS s1 s2).2
  obtain ⟨a0, a1, a2, a3, a4, a5, a6⟩ := hW.2.2.2 k hk
  rw [b52_0 hk, m18 hk, a0, a1]
  by_cases c : g.2.2.1 k ≠ 0 ∧ g.2.2.2.1 k = 0
  · rw [if_pos c]
    show Ex 52 4 _ [.inl 1] _ _ _
    rw [b52_4 hk, if_neg (by omega), b52_7 hk, a3]
    by_cases d : g.2.2.2.2.2.2.2.1 k = 0
    · rw [if_pos d, b52_21 hk hS, m50]
      show Ex 52 34 _ [.inl _, .inr (.inr (some 5)), .inr (.inr (some sb))] _ _ _
      rw [b52_34 hk hS, hW.1]
      refine m0 hb (bo_lt 9 (by omega)) (hW.cB hB) hsol (fun iv1 m f1 h1 => ?_)
      rw [cnt4 hW hB] at h1
      have h1' := (hW.cE hB (sS g)).okL h1
      show Ex 52 45 _ [] _ _ _
      rw [b52_45 hk hS]
      refine m7c (levels := 1) hb (by omega) hB.1 h1' (fun iv2 o2 h2 hno => ?_)
      have f2 := f1.trans o2.B
      have hiff := must_iff hB.1 h2 hno
      show Ex 52 53 _ [] _ _ _
      rw [b52_53 hk hS]
      refine m4 hb (h2.1.sv (hB.1.ln _)).1 (fun hx => ?_) (fun hx => ?_)
      · have hns : ¬ sSat g := fun z => by
          obtain ⟨i, i1, i2, i3, i4⟩ := hx
          rcases hiff.mpr z i i1 i2 with e | e
          · exact i3 e
          · exact i4 e
        show Ex 52 60 _ [.inl 0] _ _ _
        rw [b52_60 hk, if_pos rfl, b52_63 hk]
        refine m53 hS hB (hW.fr hb f2) h2.solB (fun iv3 f3 s3 => ?_)
        show Ex 52 68 _ [.inl _, .inr (.inr (some 0))] _ _ _
        rw [b52_68 hk]
        exact kb ⟨c.1, c.2, d⟩ hns iv3 (f2.trans f3) s3
      · show Ex 52 60 _ [.inl 1] _ _ _
        rw [b52_60 hk, if_neg (by omega), b52_73 hk hS]
        refine m5 hb hB.1 h2 (fun iv3 o3 h3 => ?_)
        show Ex 52 80 _ [] _ _ _
        rw [b52_80 hk hS, RV_swap]
        exact kc ⟨c.1, c.2, d⟩ (hiff.mp hx) iv3 (f2.trans o3.B) h3
    · rw [if_neg d, b52_14 hk]
      exact ka (fun z => d z.2.2)
  · rw [if_neg c]
    show Ex 52 4 _ [.inl 0] _ _ _
    rw [b52_4 hk, if_pos rfl, b52_14 hk]
    exact ka (fun z => c ⟨z.1, z.2.1⟩)
