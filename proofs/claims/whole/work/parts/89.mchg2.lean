/-! the model: edge, factor, take, hide, drag, strength, told, stay, move -/
theorem Rm.wish {iv iv' : mIv} {g g' : Sg} {k : Nat} (h : Rm iv g) (f : ∀ p j, 66 ≤ p → p < 76 → ¬ (69 ≤ p ∧ p ≤ 74 ∧ j = k) → ¬ (p = 75 ∧ 5 * k ≤ j ∧ j < 5 * k + 5) → ¬ (p = 66 ∧ (j = 10 ∨ j = 11 ∨ j = 14 ∨ j = 16 ∨ j = 19)) → iv' p j = iv p j) (e1 : g'.1 = g.1) (e10 : iv' 66 10 = (nth g'.2.2.1 9 : Nat)) (e11 : iv' 66 11 = g'.2.2.2.2.1) (e3 : g'.2.1 = g.2.1) (e4 : (sC g').2.2.2.2.2 = (sC g).2.2.2.2.2) (ew : ∀ w, w < 9 → w ≠ k → wfd g' w = wfd g w) (ek : k < 9 → iv' 69 k = g'.2.2.1 k ∧ iv' 74 k = g'.2.2.2.1 k ∧ iv' 70 k = g'.2.2.2.2.2.2.1 k ∧ iv' 71 k = g'.2.2.2.2.2.2.2.1 k ∧ iv' 72 k = g'.2.2.2.2.2.2.2.2.1 k ∧ iv' 73 k = g'.2.2.2.2.2.2.2.2.2.1 k ∧ ∀ e, e < 5 → iv' 75 (5 * k + e) = g'.2.2.2.2.2.1 k e) : Rm iv' g' := by
  obtain ⟨h1, h2, h3, h4, h5⟩ := h
  refine ⟨by rw [f 66 0 (by omega) (by omega) (by omega) (by omega) (by omega), e1]; exact h1, e10, e11, fun e he => ?_, fun w hw => ?_⟩
  · rw [f 67 e (by omega) (by omega) (by omega) (by omega) (by omega), f 68 e (by omega) (by omega) (by omega) (by omega) (by omega), e3]
    have e4' : g'.2.2.2.2.2.2.2.2.2.2 = g.2.2.2.2.2.2.2.2.2.2 := e4
    rw [e4']
    exact h4 e he
  · by_cases c : w = k
    · rw [c]; exact ek (by omega)
    · have hwf := ew w hw c
      obtain ⟨a0, a1, a2, a3, a4, a5, a6⟩ := h5 w hw
      have b0 : g'.2.2.1 w = g.2.2.1 w := congrArg (fun p : Int × Int × Int × Int × Int × Int × (Nat → Int) => p.1) hwf
      have b1 : g'.2.2.2.1 w = g.2.2.2.1 w := congrArg (fun p : Int × Int × Int × Int × Int × Int × (Nat → Int) => p.2.1) hwf
      have b2 : g'.2.2.2.2.2.2.1 w = g.2.2.2.2.2.2.1 w := congrArg (fun p : Int × Int × Int × Int × Int × Int × (Nat → Int) => p.2.2.1) hwf
      have b3 : g'.2.2.2.2.2.2.2.1 w = g.2.2.2.2.2.2.2.1 w := congrArg (fun p : Int × Int × Int × Int × Int × Int × (Nat → Int) => p.2.2.2.1) hwf
      have b4 : g'.2.2.2.2.2.2.2.2.1 w = g.2.2.2.2.2.2.2.2.1 w := congrArg (fun p : Int × Int × Int × Int × Int × Int × (Nat → Int) => p.2.2.2.2.1) hwf
      have b5 : g'.2.2.2.2.2.2.2.2.2.1 w = g.2.2.2.2.2.2.2.2.2.1 w := congrArg (fun p : Int × Int × Int × Int × Int × Int × (Nat → Int) => p.2.2.2.2.2.1) hwf
      have b6 : g'.2.2.2.2.2.1 w = g.2.2.2.2.2.1 w := congrArg (fun p : Int × Int × Int × Int × Int × Int × (Nat → Int) => p.2.2.2.2.2.2) hwf
      have ff : ∀ p, 69 ≤ p → p ≤ 74 → iv' p w = iv p w := fun p q1 q2 => f _ _ (by omega) (by omega) (by omega) (by omega) (by omega)
      rw [ff 69 (by omega) (by omega), ff 70 (by omega) (by omega), ff 71 (by omega) (by omega), ff 72 (by omega) (by omega), ff 73 (by omega) (by omega), ff 74 (by omega) (by omega), b0, b1, b2, b3, b4, b5, b6]
      exact ⟨a0, a1, a2, a3, a4, a5, fun e he => by rw [f 75 _ (by omega) (by omega) (by omega) (by omega) (by omega)]; exact a6 e he⟩
theorem nth_up {th : Nat → Int} {w : Nat} (h0 : th w = 0) : ∀ {k : Nat}, w < k → nth (up1 th w 1) k = nth th k + 1
  | 0, h => by omega
  | k + 1, h => by
    show nth (up1 th w 1) k + _ = (nth th k + _) + 1
    by_cases e : w = k
    · subst e
      rw [up1_e, if_neg (by omega), if_pos h0, nth_congr (f' := th) (fun l hl => by rw [up1_n _ _ (by omega)])]
    · rw [nth_up h0 (k := k) (by omega), up1_n _ _ (fun z => e z.symm)]
      omega
theorem nth_dn {th : Nat → Int} {w : Nat} (h0 : th w ≠ 0) : ∀ {k : Nat}, w < k → nth (up1 th w 0) k + 1 = nth th k
  | 0, h => by omega
  | k + 1, h => by
    show nth (up1 th w 0) k + _ + 1 = nth th k + _
    by_cases e : w = k
    · subst e
      rw [up1_e, if_pos rfl, if_neg h0, nth_congr (f' := th) (fun l hl => by rw [up1_n _ _ (by omega)])]
    · rw [← nth_dn h0 (k := k) (by omega), up1_n _ _ (fun z => e z.symm)]
      omega
section MC2
variable {sa sb : Nat} {iv : mIv} {Q : Option mV → mIv → mRv → Prop} {g : Sg}
theorem e74 {x : Int} (hB : sB g) (h : Rm iv g) (hk : ∀ iv' : mIv, frC iv iv' → Rm iv' (aEdge g x).2 → Q (vI (aEdge g x).1) iv' (RV sa sb)) : Ex 74 0 [vR 66, vI x] [] iv (RV sa sb) Q := by
  have hr := hk iv (fun _ _ _ => rfl)
  unfold aEdge at hk hr
  have hn := hB.1.1
  rw [b74_0, m58]
  by_cases c : -100000 ≤ x ∧ x ≤ 100000
  · rw [if_pos c]
    rw [if_pos c] at hk hr
    show Ex 74 11 _ [.inl 1] _ _ _
    rw [b74_11, if_neg (by omega), b74_17, h.1]
    by_cases d : g.1 < 5
    · rw [if_neg (by omega), b74_28 (by rw [h.1]; omega) (by rw [h.1]; omega), h.1, Int.toNat_natCast]
      rw [if_pos d] at hk
      obtain ⟨h1, h2, h3, h4, h5⟩ := h
      have e5 : st2 iv 67 g.1 x 66 0 = g.1 := by rw [st2_ne (by omega)]; exact h1
      rw [e5, w32_of (x := (g.1 : Int) + 1) (by omega) (by omega)]
      have f1 : ∀ p j, ¬ (p = 67 ∧ j = g.1) → ¬ (p = 66 ∧ j = 0) → st2 (st2 iv 67 g.1 x) 66 0 ((g.1 : Int) + 1) p j = iv p j := fun p j n1 n2 => by unfold st2; rw [if_neg n2, if_neg n1]
      have g0 : st2 (st2 iv 67 g.1 x) 66 0 ((g.1 : Int) + 1) 66 0 = (g.1 : Int) + 1 := st2_eq
      have g1 : st2 (st2 iv 67 g.1 x) 66 0 ((g.1 : Int) + 1) 67 g.1 = x := by rw [st2_ne (by omega), st2_eq]
      rw [g0, w32_of (by omega) (by omega), show (g.1 : Int) + 1 - 1 = g.1 by omega]
      generalize st2 (st2 iv 67 g.1 x) 66 0 ((g.1 : Int) + 1) = iv1 at f1 g0 g1
      refine hk iv1 (fun p j hp => f1 p j (by omega) (by omega)) ⟨?_, ?_, ?_, fun e he => ⟨?_, ?_⟩, fun w hw => ?_⟩
      · rw [g0]
        show _ = ((g.1 + 1 : Nat) : Int)
        omega
      · rw [f1 _ _ (by omega) (by omega)]; exact h2
      · rw [f1 _ _ (by omega) (by omega)]; exact h3
      · show _ = up1 (sC g).2.2.2.2.2 g.1 x e
        by_cases z : e = g.1
        · rw [z, g1, up1_e]
        · rw [up1_n _ _ z, f1 _ _ (by omega) (by omega)]; exact (h4 e he).1
      · rw [f1 _ _ (by omega) (by omega)]; exact (h4 e he).2
      · rw [f1 _ _ (by omega) (by omega), f1 _ _ (by omega) (by omega), f1 _ _ (by omega) (by omega), f1 _ _ (by omega) (by omega), f1 _ _ (by omega) (by omega), f1 _ _ (by omega) (by omega)]
        obtain ⟨a0, a1, a2, a3, a4, a5, a6⟩ := h5 w hw
        exact ⟨a0, a1, a2, a3, a4, a5, fun e he => by rw [f1 _ _ (by omega) (by omega)]; exact a6 e he⟩
    · rw [if_pos (by omega), b74_25]
      rw [if_neg d] at hr
      exact hr h
  · rw [if_neg c]
    rw [if_neg c] at hr
    show Ex 74 11 _ [.inl 0] _ _ _
    rw [b74_11, if_pos rfl, b74_14]
    exact hr h
/-- the next factors are told anew -/
theorem Rm.nf {iv' : mIv} {F : Nat → Int} (h : Rm iv g) (f : ∀ p j, p ≠ 68 → 66 ≤ p → p < 76 → iv' p j = iv p j) (e : ∀ t, t < 5 → iv' 68 t = F t) : Rm iv' (setF g F) := by
  obtain ⟨h1, h2, h3, h4, h5⟩ := h
  refine ⟨by rw [f _ _ (by omega) (by omega) (by omega)]; exact h1, by rw [f _ _ (by omega) (by omega) (by omega)]; exact h2, by rw [f _ _ (by omega) (by omega) (by omega)]; exact h3, fun t ht => ⟨by rw [f _ _ (by omega) (by omega) (by omega)]; exact (h4 t ht).1, e t ht⟩, fun w hw => ?_⟩
  rw [f _ _ (by omega) (by omega) (by omega), f _ _ (by omega) (by omega) (by omega), f _ _ (by omega) (by omega) (by omega), f _ _ (by omega) (by omega) (by omega), f _ _ (by omega) (by omega) (by omega), f _ _ (by omega) (by omega) (by omega)]
  obtain ⟨a0, a1, a2, a3, a4, a5, a6⟩ := h5 w hw
  exact ⟨a0, a1, a2, a3, a4, a5, fun e he => by rw [f _ _ (by omega) (by omega) (by omega)]; exact a6 e he⟩
theorem e75 {x y : Int} (h : Rm iv g) (hk : ∀ iv' : mIv, frC iv iv' → Rm iv' (aFac g x y).2 → Q (vI (aFac g x y).1) iv' (RV sa sb)) : Ex 75 0 [vR 66, vI x, vI y, none] [] iv (RV sa sb) Q := by
  have hr := hk iv (fun _ _ _ => rfl)
  unfold aFac at hk hr
  have bad : ¬ ((0 ≤ x ∧ x < 5) ∧ -3 ≤ y ∧ y ≤ 3) → Ex 75 26 [vR 66, vI x, vI y, none] [] iv (RV sa sb) Q := fun z => by
    rw [b75_26]
    rw [if_neg z] at hr
    exact hr h
  rw [b75_0, m58]
  by_cases c : 0 ≤ x ∧ x ≤ 4
  · rw [if_pos c]
    show Ex 75 9 _ [.inl 1] _ _ _
    rw [b75_9, if_neg (by omega), b75_12, m58]
    by_cases d : -3 ≤ y ∧ y ≤ 3
    · rw [if_pos d]
      show Ex 75 23 _ [.inl 1] _ _ _
      rw [b75_23, if_neg (by omega), b75_29 c.1 (by omega), (h.2.2.2.1 x.toNat (by omega)).2]
      rw [if_pos ⟨⟨c.1, by omega⟩, d⟩] at hk
      refine hk _ (fun p j hp => st2_ne (by omega)) (h.nf (fun p j n68 _ _ => st2_ne n68) (fun t ht => ?_))
      by_cases z : t = x.toNat
      · rw [z, st2_eq, up1_e]
      · rw [st2_nk z, up1_n _ _ z]; exact (h.2.2.2.1 t ht).2
    · rw [if_neg d]
      show Ex 75 23 _ [.inl 0] _ _ _
      rw [b75_23, if_pos rfl]
      exact bad (fun z => d z.2)
  · rw [if_neg c]
    show Ex 75 9 _ [.inl 0] _ _ _
    rw [b75_9, if_pos rfl]
    exact bad (fun z => by omega)
theorem e80 {x : Int} (h : Rm iv g) (hk : ∀ iv' : mIv, frC iv iv' → Rm iv' (aTake g x).2 → Q (vI (aTake g x).1) iv' (RV sa sb)) : Ex 80 0 [vR 66, vI x] [] iv (RV sa sb) Q := by
  have hr := hk iv (fun _ _ _ => rfl)
  unfold aTake at hk hr
  rw [b80_0]
  refine m73 h (fun c => ?_) (fun c => ?_)
  · rw [if_pos c] at hk
    show Ex 80 5 _ [.inl 0] _ _ _
    obtain ⟨w, hwe⟩ : ∃ w : Nat, x = w := ⟨x.toNat, by have := c.1; omega⟩
    subst hwe
    have hw : w < 9 := by have := c.2.1; omega
    rw [Int.toNat_natCast] at hk
    have hth : g.2.2.1 w ≠ 0 := by have := c.2.2; rw [Int.toNat_natCast] at this; exact this
    obtain ⟨a0, a1, a2, a3, a4, a5, a6⟩ := h.2.2.2.2 w hw
    have hd := nth_dn hth hw
    have hle := nth_le g.2.2.1 9
    have e10 : st2 iv 69 w 0 66 10 = (nth g.2.2.1 9 : Nat) := by rw [st2_ne (by omega)]; exact h.2.1
    rw [b80_5, if_pos rfl, b80_11 (by omega) (by omega), Int.toNat_natCast, st2_eq, e10, w32_of (by omega) (by omega)]
    have e9 : ((nth g.2.2.1 9 : Nat) : Int) - 1 = ((nth (up1 g.2.2.1 w 0) 9 : Nat) : Int) := by omega
    rw [e9]
    have f1 : ∀ p j, ¬ (p = 69 ∧ j = w) → ¬ (p = 66 ∧ j = 10) → st2 (st2 iv 69 w 0) 66 10 (nth (up1 g.2.2.1 w 0) 9 : Nat) p j = iv p j := fun p j n1 n2 => by unfold st2; rw [if_neg n2, if_neg n1]
    refine hk _ (fun p j hp => f1 p j (by omega) (by omega)) (h.wish (k := w) (fun p j q1 q2 q3 q4 q5 => f1 p j (by omega) (by omega)) rfl st2_eq ?_ rfl rfl (fun v hv hne => ?_) (fun _ => ?_))
    · rw [f1 _ _ (by omega) (by omega)]; exact h.2.2.1
    · show (up1 g.2.2.1 w 0 v, _) = _
      rw [up1_n _ _ hne]; rfl
    · show _ = up1 g.2.2.1 w 0 w ∧ _
      rw [up1_e, f1 74 _ (by omega) (by omega), f1 70 _ (by omega) (by omega), f1 71 _ (by omega) (by omega), f1 72 _ (by omega) (by omega), f1 73 _ (by omega) (by omega)]
      exact ⟨by rw [st2_ne (by omega), st2_eq], a1, a2, a3, a4, a5, fun e he => by rw [f1 75 _ (by omega) (by omega)]; exact a6 e he⟩
  · rw [if_neg c] at hr
    show Ex 80 5 _ [.inl 1] _ _ _
    rw [b80_5, if_neg (by omega), b80_8]
    exact hr h
theorem e81 {x on : Int} (hon : on = 0 ∨ on = 1) (hB : sB g) (h : Rm iv g) (hk : ∀ iv' : mIv, frC iv iv' → Rm iv' (aHide g x on).2 → Q (vI (aHide g x on).1) iv' (RV sa sb)) : Ex 81 0 [vR 66, vI x, vI on, none] [] iv (RV sa sb) Q := by
  have hr := hk iv (fun _ _ _ => rfl)
  unfold aHide at hk hr
  rw [b81_0]
  refine m73 h (fun c => ?_) (fun c => ?_)
  · rw [if_pos c] at hk
    show Ex 81 5 _ [.inl 0] _ _ _
    obtain ⟨w, hwe⟩ : ∃ w : Nat, x = w := ⟨x.toNat, by have := c.1; omega⟩
    subst hwe
    have hw : w < 9 := by have := c.2.1; omega
    rw [Int.toNat_natCast] at hk
    obtain ⟨a0, a1, a2, a3, a4, a5, a6⟩ := h.2.2.2.2 w hw
    have hhd := (hB.2.2 w hw).2.1
    rw [b81_5, if_pos rfl, b81_11 (by omega) (by omega) hon, Int.toNat_natCast, a1]
    have f1 : ∀ p j, ¬ (p = 74 ∧ j = w) → st2 iv 74 w on p j = iv p j := fun p j hp => by unfold st2; rw [if_neg hp]
    have hR1 : Rm (st2 iv 74 w on) (setHd g w on) := by
      refine h.wish (k := w) (fun p j q1 q2 q3 q4 q5 => f1 p j (by omega)) rfl ?_ ?_ rfl rfl (fun v hv hne => ?_) (fun _ => ?_)
      · rw [f1 _ _ (by omega)]; exact h.2.1
      · rw [f1 _ _ (by omega)]; exact h.2.2.1
      · show (g.2.2.1 v, up1 g.2.2.2.1 w on v, _) = _
        rw [up1_n _ _ hne]; rfl
      · show _ = g.2.2.1 w ∧ _ = up1 g.2.2.2.1 w on w ∧ _
        rw [up1_e, st2_eq, f1 69 _ (by omega), f1 70 _ (by omega), f1 71 _ (by omega), f1 72 _ (by omega), f1 73 _ (by omega)]
        exact ⟨a0, rfl, a2, a3, a4, a5, fun e he => by rw [f1 75 _ (by omega)]; exact a6 e he⟩
    have hC1 : frC iv (st2 iv 74 w on) := fun p j hp => f1 p j (by omega)
    have hB1 : sB (setHd g w on) := sB_hd hB hon
    have ret : ∀ iv' : mIv, Q (vI (g.2.2.2.1 w)) iv' (RV sa sb) → Ex 81 59 [vR 66, vI w, vI on, vI (g.2.2.2.1 w)] [] iv' (RV sa sb) Q := fun iv' hq => by
      rw [b81_59]
      rcases hhd with z | z
      · rw [if_pos z, b81_67, b81_68]; rw [z] at hq; exact hq
      · rw [if_neg (by omega), b81_63, b81_68]; rw [z] at hq; exact hq
    have ok : ¬ (g.2.2.2.1 w ≠ 0 ∧ on = 0 ∧ (sC g).2.2.1 w = 0 ∧ ¬ sSat (setHd g w on)) → ∀ iv' : mIv, frC iv iv' → Rm iv' (setHd g w on) → Ex 81 59 [vR 66, vI w, vI on, vI (g.2.2.2.1 w)] [] iv' (RV sa sb) Q := fun hc iv' f' h' => by
      refine ret iv' ?_
      have := hk iv' f'
      rw [if_neg hc] at this
      exact this h'
    by_cases d : g.2.2.2.1 w = 0
    · rw [if_pos d]
      exact ok (fun z => z.1 d) _ hC1 hR1
    · rw [if_neg d, b81_29]
      by_cases d2 : on = 0
      · rw [if_pos d2, b81_33 (by omega) (by omega), Int.toNat_natCast, f1 71 w (by omega), a3]
        by_cases d3 : (sC g).2.2.1 w = 0
        · rw [if_pos d3, b81_42]
          refine m71 hB1 hR1 (fun hsat iv' f' _ h' => ?_) (fun hns iv' f' _ h' => ?_)
          · show Ex 81 46 _ [.inl 0] _ _ _
            rw [b81_46, if_pos rfl]
            exact ok (fun z => z.2.2.2 hsat) iv' (hC1.trans f') h'
          · show Ex 81 46 _ [.inl 1] _ _ _
            rw [b81_46, if_neg (by omega), b81_49 (by omega) (by omega), Int.toNat_natCast]
            have := hk (st2 iv' 74 w 1) (fun p j hp => by rw [st2_ne (by omega)]; exact (hC1.trans f') p j hp)
            rw [if_pos ⟨d, d2, d3, hns⟩] at this
            refine this ?_
            show Rm _ (setQ g (lq (setHd g w on)))
            obtain ⟨c0, c1, c2, c3, c4, c5, c6⟩ := h'.2.2.2.2 w hw
            refine h'.wish (k := w) (fun p j q1 q2 q3 q4 q5 => by unfold st2; rw [if_neg (by omega)]) rfl ?_ ?_ rfl rfl (fun v hv hne => ?_) (fun _ => ?_)
            · rw [st2_ne (by omega)]; exact h'.2.1
            · rw [st2_ne (by omega)]; exact h'.2.2.1
            · show _ = (g.2.2.1 v, up1 g.2.2.2.1 w on v, _)
              rw [up1_n _ _ hne]; rfl
            · rw [st2_eq, st2_ne (by omega), st2_ne (by omega), st2_ne (by omega), st2_ne (by omega), st2_ne (by omega)]
              exact ⟨c0, by show 1 = g.2.2.2.1 w; omega, c2, c3, c4, c5, fun e he => by rw [st2_ne (by omega)]; exact c6 e he⟩
        · rw [if_neg d3]
          exact ok (fun z => d3 z.2.2.1) _ hC1 hR1
      · rw [if_neg d2]
        exact ok (fun z => d2 z.2.1) _ hC1 hR1
  · rw [if_neg c] at hr
    show Ex 81 5 _ [.inl 1] _ _ _
    rw [b81_5, if_neg (by omega), b81_8]
    exact hr h
theorem e82 {x y : Int} (hB : sB g) (h : Rm iv g) (hk : ∀ iv' : mIv, frC iv iv' → Rm iv' (aDrag g x y).2 → Q (vI (aDrag g x y).1) iv' (RV sa sb)) : Ex 82 0 [vR 66, vI x, vI y, none] [] iv (RV sa sb) Q := by
  have hr := hk iv (fun _ _ _ => rfl)
  unfold aDrag at hk hr
  rw [b82_0]
  refine m73 h (fun c => ?_) (fun c => ?_)
  · rw [if_pos c] at hk hr
    show Ex 82 5 _ [.inl 0] _ _ _
    rw [b82_5, if_pos rfl, b82_11, m58]
    by_cases cy : -1000 ≤ y ∧ y ≤ 1000
    · rw [if_pos cy]
      rw [if_pos cy] at hk
      show Ex 82 22 _ [.inl 1] _ _ _
      obtain ⟨w, hwe⟩ : ∃ w : Nat, x = w := ⟨x.toNat, by have := c.1; omega⟩
      subst hwe
      have hw : w < 9 := by have := c.2.1; omega
      rw [Int.toNat_natCast] at hk
      obtain ⟨a0, a1, a2, a3, a4, a5, a6⟩ := h.2.2.2.2 w hw
      have f1 : ∀ p j, ¬ (p = 73 ∧ j = w) → st2 iv 73 w y p j = iv p j := fun p j hp => by unfold st2; rw [if_neg hp]
      rw [b82_22, if_neg (by omega), b82_28 (by omega) (by omega), Int.toNat_natCast, f1 74 w (by omega), a1, a5]
      have hR1 : Rm (st2 iv 73 w y) (setC g (cNu (sC g) w y)) := by
        refine h.wish (k := w) (fun p j q1 q2 q3 q4 q5 => f1 p j (by omega)) rfl ?_ ?_ rfl rfl (fun v hv hne => ?_) (fun _ => ?_)
        · rw [f1 _ _ (by omega)]; exact h.2.1
        · rw [f1 _ _ (by omega)]; exact h.2.2.1
        · show (g.2.2.1 v, g.2.2.2.1 v, (sC g).2.1 v, (sC g).2.2.1 v, (sC g).2.2.2.1 v, up1 (sC g).2.2.2.2.1 w y v, _) = _
          rw [up1_n _ _ hne]; rfl
        · show _ = g.2.2.1 w ∧ _ = g.2.2.2.1 w ∧ _ = (sC g).2.1 w ∧ _ = (sC g).2.2.1 w ∧ _ = (sC g).2.2.2.1 w ∧ _ = up1 (sC g).2.2.2.2.1 w y w ∧ _
          rw [up1_e, st2_eq, f1 69 _ (by omega), f1 74 _ (by omega), f1 70 _ (by omega), f1 71 _ (by omega), f1 72 _ (by omega)]
          exact ⟨a0, a1, a2, a3, a4, rfl, fun e he => by rw [f1 75 _ (by omega)]; exact a6 e he⟩
      have hC1 : frC iv (st2 iv 73 w y) := fun p j hp => f1 p j (by omega)
      have hB1 : sB (setC g (cNu (sC g) w y)) := sB_nu hB cy
      have ok : ¬ (g.2.2.2.1 w = 0 ∧ (sC g).2.2.1 w = 0 ∧ ¬ sSat (setC g (cNu (sC g) w y))) → ∀ iv' : mIv, frC iv iv' → Rm iv' (setC g (cNu (sC g) w y)) → Ex 82 77 [vR 66, vI w, vI y, vI ((sC g).2.2.2.2.1 w)] [] iv' (RV sa sb) Q := fun hc iv' f' h' => by
        rw [b82_77]
        have := hk iv' f'
        rw [if_neg hc] at this
        exact this h'
      by_cases d : g.2.2.2.1 w = 0
      · rw [if_pos d, b82_51 (by omega) (by omega), Int.toNat_natCast, f1 71 w (by omega), a3]
        by_cases d3 : (sC g).2.2.1 w = 0
        · rw [if_pos d3, b82_60]
          refine m71 hB1 hR1 (fun hsat iv' f' _ h' => ?_) (fun hns iv' f' _ h' => ?_)
          · show Ex 82 64 _ [.inl 0] _ _ _
            rw [b82_64, if_pos rfl]
            exact ok (fun z => z.2.2 hsat) iv' (hC1.trans f') h'
          · show Ex 82 64 _ [.inl 1] _ _ _
            rw [b82_64, if_neg (by omega), b82_67 (by omega) (by omega), Int.toNat_natCast]
            have := hk (st2 iv' 73 w ((sC g).2.2.2.2.1 w)) (fun p j hp => by rw [st2_ne (by omega)]; exact (hC1.trans f') p j hp)
            rw [if_pos ⟨d, d3, hns⟩] at this
            refine this ?_
            show Rm _ (setQ g (lq (setC g (cNu (sC g) w y))))
            obtain ⟨c0, c1, c2, c3, c4, c5, c6⟩ := h'.2.2.2.2 w hw
            refine h'.wish (k := w) (fun p j q1 q2 q3 q4 q5 => by unfold st2; rw [if_neg (by omega)]) rfl ?_ ?_ rfl rfl (fun v hv hne => ?_) (fun _ => ?_)
            · rw [st2_ne (by omega)]; exact h'.2.1
            · rw [st2_ne (by omega)]; exact h'.2.2.1
            · show _ = (g.2.2.1 v, g.2.2.2.1 v, (sC g).2.1 v, (sC g).2.2.1 v, (sC g).2.2.2.1 v, up1 (sC g).2.2.2.2.1 w y v, _)
              rw [up1_n _ _ hne]; rfl
            · rw [st2_eq, st2_ne (by omega), st2_ne (by omega), st2_ne (by omega), st2_ne (by omega), st2_ne (by omega)]
              exact ⟨c0, c1, c2, c3, c4, rfl, fun e he => by rw [st2_ne (by omega)]; exact c6 e he⟩
        · rw [if_neg d3]
          exact ok (fun z => d3 z.2.1) _ hC1 hR1
      · rw [if_neg d]
        exact ok (fun z => d z.1) _ hC1 hR1
    · rw [if_neg cy]
      rw [if_neg cy] at hr
      show Ex 82 22 _ [.inl 0] _ _ _
      rw [b82_22, if_pos rfl, b82_25]
      exact hr h
  · rw [if_neg c] at hr
    show Ex 82 5 _ [.inl 1] _ _ _
    rw [b82_5, if_neg (by omega), b82_8]
    exact hr h
/-- weights are of no matter to what can be met -/
theorem sat_we {c c' : Cg} {n : Nat} {S : Nat → Bool} (hB : cB c n) (hB' : cB c' n) (e1 : c'.1 = c.1) (e2 : c'.2.1 = c.2.1) (e3 : c'.2.2.1 = c.2.2.1) (e4 : c'.2.2.2.2.1 = c.2.2.2.2.1) (h : ∀ w, w < 9 → S w = true → 1 ≤ c.2.2.2.1 w) (h' : ∀ w, w < 9 → S w = true → 1 ≤ c'.2.2.2.1 w) : cSat c n S ↔ cSat c' n S := by
  rw [sat_iff hB h, sat_iff hB' h']
  unfold gW
  rw [e1, e2, e3, e4]
theorem e83 {x y u : Int} (hB : sB g) (h : Rm iv g) (hk : ∀ iv' : mIv, frC iv iv' → Rm iv' (aStr g x y u).2 → Q (vI (aStr g x y u).1) iv' (RV sa sb)) : Ex 83 0 [vR 66, vI x, vI y, vI u, none] [] iv (RV sa sb) Q := by
  have hr := hk iv (fun _ _ _ => rfl)
  unfold aStr at hk hr
  rw [b83_0]
  refine m73 h (fun c => ?_) (fun c => ?_)
  · rw [if_pos c] at hk hr
    show Ex 83 5 _ [.inl 0] _ _ _
    rw [b83_5, if_pos rfl, b83_11, m77]
    by_cases cy : 0 ≤ y ∧ y ≤ 3 ∧ 1 ≤ u ∧ u ≤ 9
    · rw [if_pos cy]
      rw [if_pos cy] at hk
      show Ex 83 16 _ [.inl 1] _ _ _
      obtain ⟨w, hwe⟩ : ∃ w : Nat, x = w := ⟨x.toNat, by have := c.1; omega⟩
      subst hwe
      have hw : w < 9 := by have := c.2.1; omega
      rw [Int.toNat_natCast] at hk
      have hth : g.2.2.1 w ≠ 0 := by have := c.2.2; rw [Int.toNat_natCast] at this; exact this
      obtain ⟨a0, a1, a2, a3, a4, a5, a6⟩ := h.2.2.2.2 w hw
      have f1 : ∀ p j, ¬ (p = 71 ∧ j = w) → st2 iv 71 w y p j = iv p j := fun p j hp => by unfold st2; rw [if_neg hp]
      rw [b83_16, if_neg (by omega), b83_22 (by omega) (by omega), Int.toNat_natCast, f1 74 w (by omega), a1, a3]
      -- the level told, the weight as before
      have hwe0 := (hB.2.2 w hw).2.2 hth
      have hwe9 := (hB.1.2.2.1 w hw).2.2.1
      have hR1 : Rm (st2 iv 71 w y) (setC g (cStr (sC g) w y ((sC g).2.2.2.1 w))) := by
        refine h.wish (k := w) (fun p j q1 q2 q3 q4 q5 => f1 p j (by omega)) rfl ?_ ?_ rfl rfl (fun v hv hne => ?_) (fun _ => ?_)
        · rw [f1 _ _ (by omega)]; exact h.2.1
        · rw [f1 _ _ (by omega)]; exact h.2.2.1
        · show (g.2.2.1 v, g.2.2.2.1 v, (sC g).2.1 v, up1 (sC g).2.2.1 w y v, up1 (sC g).2.2.2.1 w _ v, _) = _
          rw [up1_n _ _ hne, up1_n _ _ hne]; rfl
        · show _ = g.2.2.1 w ∧ _ = g.2.2.2.1 w ∧ _ = (sC g).2.1 w ∧ _ = up1 (sC g).2.2.1 w y w ∧ _ = up1 (sC g).2.2.2.1 w _ w ∧ _ = (sC g).2.2.2.2.1 w ∧ _
          rw [up1_e, up1_e, st2_eq, f1 69 _ (by omega), f1 74 _ (by omega), f1 70 _ (by omega), f1 73 _ (by omega), f1 72 _ (by omega)]
          exact ⟨a0, a1, a2, rfl, a4, a5, fun e he => by rw [f1 75 _ (by omega)]; exact a6 e he⟩
      have hC1 : frC iv (st2 iv 71 w y) := fun p j hp => f1 p j (by omega)
      have hB0 : sB (setC g (cStr (sC g) w y ((sC g).2.2.2.1 w))) := sB_str hB ⟨cy.1, cy.2.1⟩ ⟨hwe0, hwe9.2⟩
      have hB1 : sB (setC g (cStr (sC g) w y u)) := sB_str hB ⟨cy.1, cy.2.1⟩ cy.2.2
      have hsS : sS (setC g (cStr (sC g) w y ((sC g).2.2.2.1 w))) = sS (setC g (cStr (sC g) w y u)) := rfl
      have hsM : sM (setC g (cStr (sC g) w y ((sC g).2.2.2.1 w))) = sM (setC g (cStr (sC g) w y u)) := rfl
      have hsat : sSat (setC g (cStr (sC g) w y ((sC g).2.2.2.1 w))) ↔ sSat (setC g (cStr (sC g) w y u)) := sat_we hB0.1 hB1.1 rfl rfl rfl rfl (hw_S hB0) (hw_S hB1)
      have hlq : lq (setC g (cStr (sC g) w y ((sC g).2.2.2.1 w))) = lq (setC g (cStr (sC g) w y u)) := by
        unfold lq
        rw [hsM]
        congr 1
        refine lqF_congr (bo_lt 9 (by omega)) (fun t ht hsub => ?_) 9 (by omega)
        refine sat_we hB0.1 hB1.1 rfl rfl rfl rfl (fun v hv hb => ?_) (fun v hv hb => ?_)
        · have := hsub v hv hb
          rw [bo_9 hv, ← hsM] at this
          exact hw_M hB0 v hv this
        · have := hsub v hv hb
          rw [bo_9 hv] at this
          exact hw_M hB1 v hv this
      have ok : ¬ (g.2.2.2.1 w = 0 ∧ y = 0 ∧ ¬ sSat (setC g (cStr (sC g) w y u))) → ∀ iv' : mIv, frC iv iv' → Rm iv' (setC g (cStr (sC g) w y ((sC g).2.2.2.1 w))) → Ex 83 68 [vR 66, vI w, vI y, vI u, vI ((sC g).2.2.1 w)] [] iv' (RV sa sb) Q := fun hc iv' f' h' => by
        rw [b83_68 (by omega) (by omega), Int.toNat_natCast]
        have := hk (st2 iv' 72 w u) (fun p j hp => by rw [st2_ne (by omega)]; exact f' p j hp)
        rw [if_neg hc] at this
        refine this ?_
        show Rm _ (setC g (cStr (sC g) w y u))
        obtain ⟨c0, c1, c2, c3, c4, c5, c6⟩ := h'.2.2.2.2 w hw
        refine h'.wish (k := w) (fun p j q1 q2 q3 q4 q5 => by unfold st2; rw [if_neg (by omega)]) rfl ?_ ?_ rfl rfl (fun v hv hne => ?_) (fun _ => ?_)
        · rw [st2_ne (by omega)]; exact h'.2.1
        · rw [st2_ne (by omega)]; exact h'.2.2.1
        · show (g.2.2.1 v, g.2.2.2.1 v, (sC g).2.1 v, up1 (sC g).2.2.1 w y v, up1 (sC g).2.2.2.1 w u v, _) = (g.2.2.1 v, g.2.2.2.1 v, (sC g).2.1 v, up1 (sC g).2.2.1 w y v, up1 (sC g).2.2.2.1 w _ v, _)
          rw [up1_n (sC g).2.2.2.1 u hne, up1_n (sC g).2.2.2.1 _ hne]; rfl
        · rw [st2_eq, st2_ne (by omega), st2_ne (by omega), st2_ne (by omega), st2_ne (by omega), st2_ne (by omega)]
          exact ⟨c0, c1, c2, c3, (up1_e _ _ _).symm, c5, fun e he => by rw [st2_ne (by omega)]; exact c6 e he⟩
      by_cases d : g.2.2.2.1 w = 0
      · rw [if_pos d, b83_46]
        by_cases d3 : y = 0
        · rw [if_pos d3, b83_50]
          refine m71 hB0 hR1 (fun hs iv' f' _ h' => ?_) (fun hns iv' f' _ h' => ?_)
          · show Ex 83 54 _ [.inl 0] _ _ _
            rw [b83_54, if_pos rfl]
            exact ok (fun z => z.2.2 (hsat.mp hs)) iv' (hC1.trans f') h'
          · show Ex 83 54 _ [.inl 1] _ _ _
            rw [b83_54, if_neg (by omega), b83_57 (by omega) (by omega), Int.toNat_natCast]
            have := hk (st2 iv' 71 w ((sC g).2.2.1 w)) (fun p j hp => by rw [st2_ne (by omega)]; exact (hC1.trans f') p j hp)
            rw [if_pos ⟨d, d3, fun z => hns (hsat.mpr z)⟩] at this
            refine this ?_
            show Rm _ (setQ g (lq (setC g (cStr (sC g) w y u))))
            rw [hlq] at h'
            obtain ⟨c0, c1, c2, c3, c4, c5, c6⟩ := h'.2.2.2.2 w hw
            refine h'.wish (k := w) (fun p j q1 q2 q3 q4 q5 => by unfold st2; rw [if_neg (by omega)]) rfl ?_ ?_ rfl rfl (fun v hv hne => ?_) (fun _ => ?_)
            · rw [st2_ne (by omega)]; exact h'.2.1
            · rw [st2_ne (by omega)]; exact h'.2.2.1
            · show _ = (g.2.2.1 v, g.2.2.2.1 v, (sC g).2.1 v, up1 (sC g).2.2.1 w y v, up1 (sC g).2.2.2.1 w _ v, _)
              rw [up1_n _ _ hne, up1_n _ _ hne]; rfl
            · rw [st2_eq, st2_ne (by omega), st2_ne (by omega), st2_ne (by omega), st2_ne (by omega), st2_ne (by omega)]
              have c4' : iv' 72 w = up1 (sC g).2.2.2.1 w ((sC g).2.2.2.1 w) w := c4
              rw [up1_e] at c4'
              exact ⟨c0, c1, c2, rfl, c4', c5, fun e he => by rw [st2_ne (by omega)]; exact c6 e he⟩
        · rw [if_neg d3]
          exact ok (fun z => d3 z.2.1) _ hC1 hR1
      · rw [if_neg d]
        exact ok (fun z => d z.1) _ hC1 hR1
    · rw [if_neg cy]
      rw [if_neg cy] at hr
      show Ex 83 16 _ [.inl 0] _ _ _
      rw [b83_16, if_pos rfl, b83_19]
      exact hr h
  · rw [if_neg c] at hr
    show Ex 83 5 _ [.inl 1] _ _ _
    rw [b83_5, if_neg (by omega), b83_8]
    exact hr h
theorem e84 {x y : Int} (hB : sB g) (h : Rm iv g) (hr : Q (vI (aTold g x y)) iv (RV sa sb)) : Ex 84 0 [vR 66, vI x, vI y] [] iv (RV sa sb) Q := by
  unfold aTold at hr
  rw [b84_0]
  refine m73 h (fun c => ?_) (fun c => ?_)
  · rw [if_pos c] at hr
    show Ex 84 5 _ [.inl 0] _ _ _
    obtain ⟨w, hwe⟩ : ∃ w : Nat, x = w := ⟨x.toNat, by have := c.1; omega⟩
    subst hwe
    have hw : w < 9 := by have := c.2.1; omega
    rw [Int.toNat_natCast] at hr
    obtain ⟨a0, a1, a2, a3, a4, a5, a6⟩ := h.2.2.2.2 w hw
    have hhd := (hB.2.2 w hw).2.1
    rw [b84_5, if_pos rfl, b84_11]
    refine ⟨fun z => ?_, fun z => ?_, fun z => ?_, fun z => ?_, fun z => ?_, fun z => ?_, trivial⟩
    · rw [if_neg (by omega), if_neg (by omega), if_neg (by omega), if_neg (by omega), if_neg (by omega)] at hr
      rw [b84_91, m58]
      by_cases q : 5 ≤ y ∧ y ≤ 9
      · rw [if_pos q]
        rw [if_pos q] at hr
        show Ex 84 102 _ [.inl 1] _ _ _
        have e5 : w32 (w32 (w32 (5 * (w : Int)) + y) - 5) = ((5 * w + (y - 5).toNat : Nat) : Int) := by
          rw [w32_of (x := 5 * (w : Int)) (by omega) (by omega), w32_of (x := 5 * (w : Int) + y) (by omega) (by omega), w32_of (by omega) (by omega)]
          omega
        rw [b84_102, if_neg (by omega), b84_105 (by rw [e5]; omega) (by rw [e5]; omega), e5, Int.toNat_natCast, b84_122, a6 _ (by clear e5; omega)]
        exact hr
      · rw [if_neg q]
        rw [if_neg q] at hr
        show Ex 84 102 _ [.inl 0] _ _ _
        rw [b84_102, if_pos rfl, b84_120, b84_122]
        exact hr
    · rw [b84_48 (by omega) (by omega), Int.toNat_natCast, a2]
      rw [if_pos z] at hr
      exact hr
    · rw [b84_55 (by omega) (by omega), Int.toNat_natCast, a3]
      rw [if_neg (by omega), if_pos z] at hr
      exact hr
    · rw [b84_62 (by omega) (by omega), Int.toNat_natCast, a4]
      rw [if_neg (by omega), if_neg (by omega), if_pos z] at hr
      exact hr
    · rw [b84_69 (by omega) (by omega), Int.toNat_natCast, a5]
      rw [if_neg (by omega), if_neg (by omega), if_neg (by omega), if_pos z] at hr
      exact hr
    · rw [if_neg (by omega), if_neg (by omega), if_neg (by omega), if_neg (by omega), if_pos z] at hr
      rw [b84_76 (by omega) (by omega), Int.toNat_natCast, a1]
      rcases hhd with q | q
      · rw [if_pos q, b84_89, b84_90]; rw [q] at hr; exact hr
      · rw [if_neg (by omega), b84_85, b84_90]; rw [q] at hr; exact hr
  · rw [if_neg c] at hr
    show Ex 84 5 _ [.inl 1] _ _ _
    rw [b84_5, if_neg (by omega), b84_8]
    exact hr
end MC2
