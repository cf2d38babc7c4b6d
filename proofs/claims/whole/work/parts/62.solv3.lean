/-! findEntering -/
abbrev vR (p : Nat) : Option mV := some (.inr (.inr (some p)))
abbrev vI (x : Int) : Option mV := some (.inl x)
abbrev vL (x : Int) : Option mV := some (.inr (.inl x))
/-- equal but for growth and the two numbers of what enters -/
def onlyE (b : Nat) (iv iv' : mIv) : Prop := ∀ p j, ¬ (p = b ∧ (j = 14 ∨ j = 15)) → iv' p j = iv p j
theorem chJ_E {b : Nat} {iv iv' : mIv} (h : onlyE b iv iv') (col : Nat) (w : Int) : chJ iv' b col w = chJ iv b col w := by
  funext l
  unfold chJ lvF lnC abF beF
  rw [h (b + 20) _ (by omega), h (b + 4) _ (by omega), h (b + 17) _ (by omega), h b 0 (by omega), h (b + 18) _ (by omega), h (b + 19) _ (by omega)]
theorem grB_E {b : Nat} {iv iv' : mIv} (h : onlyE b iv iv') (g : grB iv b) : grB iv' b := by
  obtain ⟨g1, g2, g3, g4⟩ := g
  refine ⟨fun q hq => by rw [h (b + 20) q (by omega)]; exact g1 q hq, by rw [h b 0 (by omega)]; exact g2, by rw [h b 0 (by omega)]; exact g3, fun l => ?_⟩
  unfold abF beF
  rw [h (b + 18) l (by omega), h (b + 19) l (by omega)]
  exact g4 l
theorem w2 {x : Int} (h : 0 ≤ x ∧ x < 14) : w32 (2 * x) = 2 * x := w32_of (by omega) (by omega)
theorem w21 {x : Int} (h : 0 ≤ x ∧ x < 14) : w32 ((w32 (2 * x)) + 1) = 2 * x + 1 := by rw [w2 h, w32_of (by omega) (by omega)]
/-- what has been found among the first k columns -/
def fnd (iv : mIv) (b levels k : Nat) (ivc : mIv) (first : Int) : Prop := (first = 28 ∧ ∀ j, j < k → ∀ v : Int, (v = 1 ∨ v = -1) → ¬ lng levels (chJ iv b j v)) ∨ ∃ q : Nat, ∃ w : Int, q < k ∧ (w = 1 ∨ w = -1) ∧ first = (vcode (lnC iv b q) w : Nat) ∧ ivc b 14 = q ∧ ivc b 15 = w ∧ lng levels (chJ iv b q w) ∧ ∀ j, j < k → ∀ v : Int, (v = 1 ∨ v = -1) → (vcode (lnC iv b j) v : Int) < first → ¬ lng levels (chJ iv b j v)
theorem vc_bd {l : Nat} {w : Int} (h : l < 14) : vcode l w < 28 := by unfold vcode; split <;> omega
theorem fnd_keep {iv ivc : mIv} {b levels k : Nat} {first : Int} (hl : lnC iv b k < 14) (h : fnd iv b levels k ivc first) (h1 : 2 * (lnC iv b k : Int) < first → ¬ lng levels (chJ iv b k 1)) (h2 : 2 * (lnC iv b k : Int) + 1 < first → ¬ lng levels (chJ iv b k (-1))) : fnd iv b levels (k + 1) ivc first := by
  have two : ∀ v : Int, (v = 1 ∨ v = -1) → (vcode (lnC iv b k) v : Int) < first → ¬ lng levels (chJ iv b k v) := fun v hv hlt => by
    rcases hv with rfl | rfl
    · exact h1 (by unfold vcode at hlt; simp at hlt; omega)
    · exact h2 (by unfold vcode at hlt; simp at hlt; omega)
  rcases h with ⟨e, h⟩ | ⟨q, w, a1, a2, a3, a4, a5, a6, a7⟩
  · refine Or.inl ⟨e, fun j hj v hv => ?_⟩
    by_cases ej : j = k
    · subst ej; exact two v hv (by have := vc_bd (w := v) hl; omega)
    · exact h j (by omega) v hv
  · refine Or.inr ⟨q, w, by omega, a2, a3, a4, a5, a6, fun j hj v hv hlt => ?_⟩
    by_cases ej : j = k
    · subst ej; exact two v hv hlt
    · exact a7 j (by omega) v hv hlt
theorem fnd_new {iv ivc : mIv} {b levels k : Nat} {first w : Int} (hl : lnC iv b k < 14) (h : fnd iv b levels k ivc first) (hw : w = 1 ∨ w = -1) (hlt : (vcode (lnC iv b k) w : Int) < first) (hg : lng levels (chJ iv b k w)) (h1 : w = -1 → ¬ lng levels (chJ iv b k 1)) : fnd iv b levels (k + 1) (st2 (st2 ivc b 14 k) b 15 w) (vcode (lnC iv b k) w : Nat) := by
  refine Or.inr ⟨k, w, by omega, hw, rfl, by rw [st2_nk (by omega), st2_eq], by rw [st2_eq], hg, fun j hj v hv hv2 => ?_⟩
  by_cases ej : j = k
  · subst ej
    have : v = 1 ∧ w = -1 := by unfold vcode at hv2; rcases hv with rfl | rfl <;> rcases hw with rfl | rfl <;> simp at hv2 ⊢; omega
    rw [this.1]; exact h1 this.2
  · rcases h with ⟨e, h⟩ | ⟨q, w', a1, a2, a3, a4, a5, a6, a7⟩
    · exact h j (by omega) v hv
    · exact a7 j (by omega) v hv (by omega)
theorem vc_p {l : Nat} : ((vcode l 1 : Nat) : Int) = 2 * (l : Int) := by unfold vcode; rw [if_pos (by omega)]; omega
theorem vc_m {l : Nat} : ((vcode l (-1) : Nat) : Int) = 2 * (l : Int) + 1 := by unfold vcode; rw [if_neg (by omega)]; omega
theorem onlyE_st {b : Nat} {iv ivc : mIv} {x y : Int} (h : onlyE b iv ivc) : onlyE b iv (st2 (st2 ivc b 14 x) b 15 y) := fun p j hp => by
  have := h p j hp
  unfold st2
  rw [if_neg (fun z => hp ⟨z.1, Or.inr z.2⟩), if_neg (fun z => hp ⟨z.1, Or.inl z.2⟩)]
  exact this
theorem m8l {sa sb : Nat} {iv : mIv} {Q : Option mV → mIv → mRv → Prop} {b n levels : Nat} (hb : b = 24 ∨ b = 45) (hlv : levels ≤ 9) (h3 : iv b 3 = n) (hn : n ≤ 5) (hl : ∀ j, j < n → 0 ≤ iv (b + 4) j ∧ iv (b + 4) j < 14) (hlev : ∀ l, l < 14 → 0 ≤ iv (b + 17) l) (hg : grB iv b) (hQ : ∀ (iv' : mIv) (f' : Int) (u' : Option mV), onlyE b iv iv' → fnd iv b levels n iv' f' → Ex 8 100 [vR b, vI levels, vI f', vI n, u'] [] iv' (RV sa sb) Q) : ∀ (r k : Nat), k + r = n → ∀ (ivc : mIv) (first : Int) (u4 : Option mV), onlyE b iv ivc → fnd iv b levels k ivc first → Ex 8 5 [vR b, vI levels, vI first, vI k, u4] [] ivc (RV sa sb) Q := by
  intro r
  induction r with
  | zero =>
    intro k hk ivc first u4 ho hf
    have : k = n := by omega
    subst this
    rw [b8_5 hb, if_neg (by rw [ho b 3 (by omega), h3]; omega)]
    exact hQ ivc first u4 ho hf
  | succ r ih =>
    intro k hk ivc first u4 ho hf
    have hlk := hl k (by omega)
    have ek : ((k : Int)).toNat = k := Int.toNat_natCast k
    have hc4 : ivc (b + 4) k = iv (b + 4) k := ho _ _ (by omega)
    have hlnat : iv (b + 4) k = ((lnC iv b k : Nat) : Int) := by unfold lnC; omega
    have hln14 : lnC iv b k < 14 := by unfold lnC; omega
    have hlc : lnC ivc b k = lnC iv b k := by unfold lnC; rw [hc4]
    have less := fun (w : Int) (hw : w = 1 ∨ w = -1) (Q : Option mV → mIv → mRv → Prop) => m11 (sa := sa) (sb := sb) (Q := Q) hb (show k < 5 by omega) hlv hw (by rw [hc4]; exact hlk) (by rw [hlc, ho (b + 17) _ (by omega)]; exact hlev _ hln14) (grB_E ho hg)
    simp only [chJ_E ho] at less
    have go : ∀ (iv2 : mIv) (f2 : Int), onlyE b iv iv2 → fnd iv b levels (k + 1) iv2 f2 → Ex 8 94 [vR b, vI levels, vI f2, vI k, vI (iv (b + 4) k)] [] iv2 (RV sa sb) Q := fun iv2 f2 h1 h2 => by
      rw [b8_94 hb, w32_of (by omega) (by omega)]
      exact ih (k + 1) (by omega) iv2 f2 _ h1 h2
    have minus : (2 * (lnC iv b k : Int) < first → ¬ lng levels (chJ iv b k 1)) → Ex 8 57 [vR b, vI levels, vI first, vI k, vI (iv (b + 4) k)] [] ivc (RV sa sb) Q := fun h1 => by
      rw [b8_57 hb, w21 hlk, hlnat]
      by_cases c : 2 * (lnC iv b k : Int) + 1 < first
      · rw [if_pos c, b8_67 hb]
        by_cases g : lng levels (chJ iv b k (-1))
        · rw [(less (-1) (Or.inr rfl) _).1 g]
          show Ex 8 74 _ [.inl 1] _ _ _
          rw [b8_74 hb, if_neg (by omega), b8_77 hb, w21 (by rw [← hlnat]; exact hlk), ← vc_m, ← hlnat]
          exact go _ _ (onlyE_st ho) (fnd_new hln14 hf (Or.inr rfl) (by rw [vc_m]; exact c) g (fun _ => h1 (by omega)))
        · rw [(less (-1) (Or.inr rfl) _).2 g]
          show Ex 8 74 _ [.inl 0] _ _ _
          rw [b8_74 hb, if_pos rfl, ← hlnat]
          exact go _ _ ho (fnd_keep hln14 hf h1 (fun _ => g))
      · rw [if_neg c, ← hlnat]
        exact go _ _ ho (fnd_keep hln14 hf h1 (fun z => absurd z c))
    rw [b8_5 hb, if_pos (by rw [ho b 3 (by omega), h3]; omega), b8_13 hb (by omega) (by omega), ek, hc4, w2 hlk]
    by_cases c : 2 * iv (b + 4) k < first
    · rw [if_pos c, b8_29 hb]
      by_cases g : lng levels (chJ iv b k 1)
      · rw [(less 1 (Or.inl rfl) _).1 g]
        show Ex 8 36 _ [.inl 1] _ _ _
        rw [b8_36 hb, if_neg (by omega), b8_39 hb, w2 hlk]
        have : 2 * iv (b + 4) k = ((vcode (lnC iv b k) 1 : Nat) : Int) := by rw [vc_p, hlnat]
        rw [this]
        exact go _ _ (onlyE_st ho) (fnd_new hln14 hf (Or.inl rfl) (by rw [vc_p, ← hlnat]; exact c) g (fun z => by omega))
      · rw [(less 1 (Or.inl rfl) _).2 g]
        show Ex 8 36 _ [.inl 0] _ _ _
        rw [b8_36 hb, if_pos rfl]
        exact minus (fun _ => g)
    · rw [if_neg c]
      exact minus (fun z => absurd (by rw [hlnat]; exact z) c)
def onlyGE (b : Nat) (iv iv' : mIv) : Prop := ∀ p j, p ≠ b + 20 → ¬ (p = b ∧ (j = 14 ∨ j = 15)) → iv' p j = iv p j
/-- the change as the tableau has it -/
def chD (iv : mIv) (b m : Nat) (sd : Nat → Int) (q : Nat) (w : Int) : Nat → Int := chg (abF iv b) (beF iv b) (lvF iv b) (lnC iv b) (lnR iv b) m (iv b 0) (ceF iv b) sd q w
/-- growth stands as the sides sd have it -/
def groS (iv : mIv) (b n m levels : Nat) (sd : Nat → Int) (iv' : mIv) (j : Nat) : Prop := ∀ L, L < levels → iv' (b + 20) (L * 5 + j) = grw (abF iv b) (beF iv b) (lvF iv b) (lnR iv b) m (ceF iv b) sd L j
def grW (iv : mIv) (b : Nat) (B : Int) : Prop := ∀ q, q < 45 → -B ≤ iv (b + 20) q ∧ iv (b + 20) q ≤ B
theorem m8 {sa sb : Nat} {iv : mIv} {Q : Option mV → mIv → mRv → Prop} {b n m levels : Nat} {x2 : Int} {u3 : Option mV} (hb : b = 24 ∨ b = 45) (hlv : levels ≤ 9) (hv : svB iv b n m)
    (k1 : ∀ (iv' : mIv) (q : Nat) (w : Int), onlyGE b iv iv' → grW iv' b 9000000000 → (∀ j, j < n → groS iv b n m levels (sdF iv b) iv' j) → q < n → (w = 1 ∨ w = -1) → iv' b 14 = q → iv' b 15 = w → lng levels (chD iv b m (sdF iv b) q w) → (∀ j, j < n → ∀ v : Int, (v = 1 ∨ v = -1) → vcode (lnC iv b j) v < vcode (lnC iv b q) w → ¬ lng levels (chD iv b m (sdF iv b) j v)) → Ex 7 18 [vR b, vI levels, vI x2, u3] [.inl 1] iv' (RV sa sb) Q)
    (k0 : ∀ iv' : mIv, onlyGE b iv iv' → (∀ j, j < n → ∀ v : Int, (v = 1 ∨ v = -1) → ¬ lng levels (chD iv b m (sdF iv b) j v)) → Ex 7 18 [vR b, vI levels, vI x2, u3] [.inl 0] iv' (RV sa sb) Q) : Ex 7 8 [vR b, vI levels, vI x2, u3] [] iv (RV sa sb) Q := by
  obtain ⟨iv1, e1, e2, e3⟩ := m9 (sa := sa) (sb := sb) hb hlv hv
  have hv0 := hv
  obtain ⟨h1, h2, h3, h4, h5, h6, h7, h8, h9, h10, h11⟩ := hv
  rw [b7_8 hb, e1]
  show Ex 7 13 _ [] _ _ _
  rw [b7_13 hb, b8_0 hb]
  have gro : ∀ j, j < n → groS iv b n m levels (sdF iv b) iv1 j := fun j hj L hL => by
    rw [e3 L j (by omega) (by omega), if_pos hj]
    unfold grK grw
    exact sm_congr (fun i hi => by
      unfold ind
      by_cases c : lvF iv b (lnR iv b i) = L
      · rw [if_pos ⟨c, hL⟩, if_pos c]
      · rw [if_neg (fun z => c z.1), if_neg c])
  have hch : ∀ j, j < n → ∀ w L, L < levels → chJ iv1 b j w L = chD iv b m (sdF iv b) j w L := fun j hj w L hL => by
    unfold chJ chD chg
    rw [gro j hj L hL]
    unfold lvF lnC abF beF
    rw [e2 (b + 4) _ (by omega), e2 (b + 17) _ (by omega), e2 b 0 (by omega), e2 (b + 18) _ (by omega), e2 (b + 19) _ (by omega)]
  have hgW : grW iv1 b 9000000000 := fun q hq => by
      have := e3 (q / 5) (q % 5) (by omega) (by omega)
      rw [show q / 5 * 5 + q % 5 = q by omega] at this
      rw [this]
      split
      · rename_i hj
        have := grK_bd (levels := levels) hv0 (show m ≤ m by omega) (L := q / 5) hj
        omega
      · omega
  have hgB : grB iv1 b := by
    refine ⟨fun q hq => by have := hgW q hq; omega, by rw [e2 b 0 (by omega)]; exact h9, by rw [e2 b 0 (by omega)]; exact h10, fun l => ?_⟩
    · unfold abF beF
      rw [e2 (b + 18) _ (by omega), e2 (b + 19) _ (by omega)]
      exact h8 l
  have hlC : ∀ j, lnC iv1 b j = lnC iv b j := fun j => by unfold lnC; rw [e2 (b + 4) _ (by omega)]
  refine m8l hb hlv (by rw [e2 b 3 (by omega)]; exact h1) h3 (fun j hj => by rw [e2 (b + 4) _ (by omega)]; exact h6 j hj) (fun l hl => by rw [e2 (b + 17) _ (by omega)]; exact (h7 l hl).1) hgB ?_ n 0 (by omega) iv1 28 none (fun _ _ _ => rfl) (Or.inl ⟨rfl, fun j hj => by omega⟩)
  intro iv' f' u' ho hf
  have oGE : onlyGE b iv iv' := fun p j hp hq => (ho p j hq).trans (e2 p j hp)
  rcases hf with ⟨hf, hno⟩ | ⟨q, w, a1, a2, a3, a4, a5, a6, a7⟩
  · rw [b8_100 hb, if_neg (by omega), b8_110 hb, b8_111 hb (Or.inl rfl)]
    exact k0 iv' oGE (fun j hj v hv z => hno j hj v hv (lng_congr (fun L hL => (hch j hj v L hL).symm) z))
  · have hq14 : lnC iv1 b q < 14 := by rw [hlC]; unfold lnC; have := h6 q a1; omega
    rw [b8_100 hb, if_pos (by rw [a3]; have := vc_bd (w := w) hq14; omega), b8_106 hb, b8_111 hb (Or.inr rfl)]
    refine k1 iv' q w oGE (fun t ht => by rw [ho (b + 20) _ (by omega)]; exact hgW t ht) (fun j hj L hL => by rw [ho (b + 20) _ (by omega)]; exact gro j hj L hL) a1 a2 a4 a5 (lng_congr (fun L hL => hch q a1 w L hL) a6) (fun j hj v hv hlt z => a7 j hj v hv (by rw [a3, hlC, hlC]; omega) (lng_congr (fun L hL => (hch j hj v L hL).symm) z))
