/-! the model: add, wish, side -/
theorem frW_some {th : Nat → Int} : ∀ t k, (∃ w, k ≤ w ∧ w < k + t ∧ th w = 0) → ∃ w, frW th t k = some w
  | 0, k, h => by obtain ⟨w, h1, h2, _⟩ := h; omega
  | t + 1, k, h => by
    unfold frW
    by_cases c : th k = 0
    · exact ⟨k, by rw [if_pos c]⟩
    · rw [if_neg c]
      obtain ⟨w, h1, h2, h3⟩ := h
      have hne : w ≠ k := fun z => c (by rw [← z]; exact h3)
      exact frW_some t (k + 1) ⟨w, by omega, by omega, h3⟩
theorem frW_first {th : Nat → Int} : ∀ t k w, frW th t k = some w → ∀ v, k ≤ v → v < w → th v ≠ 0
  | 0, _, _, h => by cases h
  | t + 1, k, w, h => by
    unfold frW at h
    split at h
    · cases h; intro v h1 h2; omega
    · rename_i z
      intro v h1 h2
      by_cases e : v = k
      · rw [e]; exact z
      · exact frW_first t (k + 1) w h v (by omega) h2
theorem nth_all {th : Nat → Int} : ∀ {k : Nat}, (∀ w, w < k → th w ≠ 0) → nth th k = k
  | 0, _ => rfl
  | k + 1, h => by
    show nth th k + _ = k + 1
    rw [nth_all (k := k) (fun w hw => h w (by omega)), if_neg (h k (by omega))]
theorem nth_lt {th : Nat → Int} : ∀ {k w : Nat}, w < k → th w = 0 → nth th k < k
  | 0, w, h, _ => by omega
  | k + 1, w, h, h0 => by
    show nth th k + _ < k + 1
    have hle := nth_le th k
    by_cases e : w = k
    · subst e; rw [if_pos h0]; omega
    · have := nth_lt (k := k) (w := w) (by omega) h0
      split <;> omega
theorem aAdd_setF (g : Sg) (f F : Nat → Int) (re le we nu : Int) : aAdd (setF g f) F re le we nu = ((aAdd g F re le we nu).1, setF (aAdd g F re le we nu).2 f) := by
  unfold aAdd
  show (match frW g.2.2.1 9 0 with
    | none => (-2000000004, setF g f)
    | some w => @ite (Int × Sg) (le = 0 ∧ ¬ sSat (bec (setF g f) w F re le we nu)) (Classical.propDecidable _) (-2000000005, setQ (setTh (bec (setF g f) w F re le we nu) w 0) (lq (bec (setF g f) w F re le we nu))) ((w : Int), bec (setF g f) w F re le we nu)) = _
  cases frW g.2.2.1 9 0 with
  | none => rfl
  | some w =>
    show @ite (Int × Sg) (le = 0 ∧ ¬ sSat (bec g w F re le we nu)) (Classical.propDecidable _) (-2000000005, setQ (setTh (bec (setF g f) w F re le we nu) w 0) (lq (bec g w F re le we nu))) ((w : Int), bec (setF g f) w F re le we nu) = _
    by_cases c : le = 0 ∧ ¬ sSat (bec g w F re le we nu)
    · simp only [if_pos c]; rfl
    · simp only [if_neg c]; rfl
section MAD
variable {sa sb : Nat} {iv : mIv} {Q : Option mV → mIv → mRv → Prop} {g : Sg}
theorem b89' {w k : Nat} {x1 x2 x3 x4 : Int} (hw : w < 9) (hk : k < 5) : Ex 76 89 [vR 66, vI x1, vI x2, vI x3, vI x4, vI w, vI k] [] iv (RV sa sb) Q = Ex 76 83 [vR 66, vI x1, vI x2, vI x3, vI x4, vI w, vI ((k + 1 : Nat) : Int)] [] (st2 iv 75 (5 * w + k) (iv 81 k)) (RV sa sb) Q := by
  have e5 := idx55 hw hk
  rw [b76_89 (by omega) (by omega) (by rw [e5]; omega) (by rw [e5]; omega), e5, Int.toNat_natCast, Int.toNat_natCast, w32_of (by omega) (by omega)]
  rfl
theorem e76 {F : Nat → Int} {re le we nu : Int} (hB : sB g) (h : Rm iv g) (hfF : ∀ e, e < 5 → iv 81 e = F e) (hF : ∀ e, e < 5 → -3 ≤ F e ∧ F e ≤ 3) (hre : 0 ≤ re ∧ re ≤ 2) (hle : 0 ≤ le ∧ le ≤ 3) (hwe : 1 ≤ we ∧ we ≤ 9) (hnu : -1000 ≤ nu ∧ nu ≤ 1000) (hk : ∀ iv' : mIv, frC iv iv' → Rm iv' (aAdd g F re le we nu).2 → Q (vI (aAdd g F re le we nu).1) iv' (RV sa sb)) : Ex 76 0 [vR 66, vI re, vI le, vI we, vI nu, none, none] [] iv (RV sa sb) Q := by
  unfold aAdd at hk
  rw [b76_0, h.2.1]
  cases hfr : frW g.2.2.1 9 0 with
  | none =>
    rw [hfr] at hk
    have := nth_all (th := g.2.2.1) (k := 9) (fun w hw => frW_none 9 0 hfr w (by omega) (by omega))
    rw [this, if_pos (show ((9 : Nat) : Int) = 9 from rfl), b76_9]
    exact hk iv (fun _ _ _ => rfl) h
  | some w =>
    rw [hfr] at hk
    obtain ⟨_, hw', hth0⟩ := frW_lt 9 0 w hfr
    have hw : w < 9 := by omega
    have hlt := nth_lt hw hth0
    rw [if_neg (by omega), b76_12]
    -- the first that is free
    have find : ∀ (t k : Nat), k + t = w → Ex 76 15 [vR 66, vI re, vI le, vI we, vI nu, vI k, none] [] iv (RV sa sb) Q = Ex 76 31 [vR 66, vI re, vI le, vI we, vI nu, vI w, none] [] iv (RV sa sb) Q := by
      intro t
      induction t with
      | zero =>
        intro k hk'
        have : k = w := by omega
        subst this
        rw [b76_15 (by omega) (by omega), Int.toNat_natCast, (h.2.2.2.2 k hw).1, if_pos hth0]
      | succ t ih =>
        intro k hk'
        rw [b76_15 (by omega) (by omega), Int.toNat_natCast, (h.2.2.2.2 k (by omega)).1, if_neg (frW_first 9 0 w hfr k (by omega) (by omega)), b76_25, w32_of (by omega) (by omega)]
        exact ih (k + 1) (by omega)
    have hf := find w 0 (by omega)
    rw [show ((0 : Nat) : Int) = 0 from rfl] at hf
    rw [hf, b76_31 (by omega) (by omega), Int.toNat_natCast]
    generalize hI : st2 (st2 (st2 (st2 (st2 (st2 iv 69 w 1) 74 w 0) 70 w re) 71 w le) 72 w we) 73 w nu = iv0
    have f0 : ∀ p j, ¬ (69 ≤ p ∧ p ≤ 74 ∧ j = w) → iv0 p j = iv p j := fun p j hp => by
      rw [← hI]; unfold st2
      rw [if_neg (by omega), if_neg (by omega), if_neg (by omega), if_neg (by omega), if_neg (by omega), if_neg (by omega)]
    have g69 : iv0 69 w = 1 := by rw [← hI, st2_ne (by omega), st2_ne (by omega), st2_ne (by omega), st2_ne (by omega), st2_ne (by omega), st2_eq]
    have g74 : iv0 74 w = 0 := by rw [← hI, st2_ne (by omega), st2_ne (by omega), st2_ne (by omega), st2_ne (by omega), st2_eq]
    have g70 : iv0 70 w = re := by rw [← hI, st2_ne (by omega), st2_ne (by omega), st2_ne (by omega), st2_eq]
    have g71 : iv0 71 w = le := by rw [← hI, st2_ne (by omega), st2_ne (by omega), st2_eq]
    have g72 : iv0 72 w = we := by rw [← hI, st2_ne (by omega), st2_eq]
    have g73 : iv0 73 w = nu := by rw [← hI, st2_eq]
    clear hI
    have hB1 : sB (bec g w F re le we nu) := sB_bec hB hF hre hle hwe hnu
    have hnu1 : nth (bec g w F re le we nu).2.2.1 9 = nth g.2.2.1 9 + 1 := nth_up hth0 hw
    have hgo : ∀ (t k : Nat), k + t = 5 → ∀ ivc : mIv, (∀ p j, ¬ (p = 75 ∧ 5 * w ≤ j ∧ j < 5 * w + 5) → ivc p j = iv0 p j) → (∀ e, e < k → ivc 75 (5 * w + e) = F e) → Ex 76 83 [vR 66, vI re, vI le, vI we, vI nu, vI w, vI k] [] ivc (RV sa sb) Q := by
      intro t
      induction t with
      | zero =>
        intro k hk' ivc f1 f2
        have : k = 5 := by omega
        subst this
        rw [b76_83, if_neg (by omega), b76_114]
        have fi : ∀ p j, 66 ≤ p → ¬ (69 ≤ p ∧ p ≤ 74 ∧ j = w) → ¬ (p = 75 ∧ 5 * w ≤ j ∧ j < 5 * w + 5) → ivc p j = iv p j := fun p j _ h1 h2 => by rw [f1 p j h2, f0 p j h1]
        have fC : frC iv ivc := fun p j hp => by rw [f1 p j (by omega), f0 p j (by omega)]
        have ek : ivc 69 w = up1 g.2.2.1 w 1 w ∧ ivc 74 w = up1 g.2.2.2.1 w 0 w ∧ ivc 70 w = up1 (sC g).2.1 w re w ∧ ivc 71 w = up1 (sC g).2.2.1 w le w ∧ ivc 72 w = up1 (sC g).2.2.2.1 w we w ∧ ivc 73 w = up1 (sC g).2.2.2.2.1 w nu w ∧ ∀ e, e < 5 → ivc 75 (5 * w + e) = up1 (sC g).1 w F w e := by
          rw [up1_e, up1_e, up1_e, up1_e, up1_e, up1_e, up1_e, f1 69 _ (by omega), f1 74 _ (by omega), f1 70 _ (by omega), f1 71 _ (by omega), f1 72 _ (by omega), f1 73 _ (by omega)]
          exact ⟨g69, g74, g70, g71, g72, g73, f2⟩
        have ew : ∀ v, v < 9 → v ≠ w → wfd (bec g w F re le we nu) v = wfd g v := fun v hv hne => by
          show (up1 g.2.2.1 w 1 v, up1 g.2.2.2.1 w 0 v, up1 (sC g).2.1 w re v, up1 (sC g).2.2.1 w le v, up1 (sC g).2.2.2.1 w we v, up1 (sC g).2.2.2.2.1 w nu v, up1 (sC g).1 w F v) = _
          rw [up1_n _ _ hne, up1_n _ _ hne, up1_n _ _ hne, up1_n _ _ hne, up1_n _ _ hne, up1_n _ _ hne, up1_n _ _ hne]; rfl
        -- the count is told last
        have hRx : Rk ivc (bec g w F re le we nu) (nth g.2.2.1 9 : Nat) := by
          have hx : Rm (st2 ivc 66 10 ((nth g.2.2.1 9 + 1 : Nat) : Int)) (bec g w F re le we nu) := by
            refine h.wish (k := w) (fun p j q1 q2 q3 q4 q5 => by unfold st2; rw [if_neg (by omega)]; exact fi p j q1 q3 q4) rfl (by rw [st2_eq, hnu1]) ?_ rfl rfl ew (fun _ => ?_)
            · rw [st2_nk (by omega), fi 66 11 (by omega) (by omega) (by omega)]; exact h.2.2.1
            · rw [st2_ne (by omega), st2_ne (by omega), st2_ne (by omega), st2_ne (by omega), st2_ne (by omega), st2_ne (by omega)]
              obtain ⟨k0, k1, k2, k3, k4, k5, k6⟩ := ek
              exact ⟨k0, k1, k2, k3, k4, k5, fun e he => by rw [st2_ne (by omega)]; exact k6 e he⟩
          obtain ⟨h1, h2, h3, h4, h5⟩ := hx
          rw [st2_nk (by omega)] at h1 h3
          refine ⟨h1, by rw [fi 66 10 (by omega) (by omega) (by omega)]; exact h.2.1, h3, fun e he => by have := h4 e he; rw [st2_ne (by omega), st2_ne (by omega)] at this; exact this, fun v hv => ?_⟩
          have := h5 v hv
          rw [st2_ne (by omega), st2_ne (by omega), st2_ne (by omega), st2_ne (by omega), st2_ne (by omega), st2_ne (by omega)] at this
          obtain ⟨k0, k1, k2, k3, k4, k5, k6⟩ := this
          exact ⟨k0, k1, k2, k3, k4, k5, fun e he => by have := k6 e he; rw [st2_ne (by omega)] at this; exact this⟩
        have up : ∀ (iv' : mIv) (g' : Sg), Rk iv' g' (nth g.2.2.1 9 : Nat) → nth g'.2.2.1 9 = nth g.2.2.1 9 + 1 → Rm (st2 iv' 66 10 (w32 (iv' 66 10 + 1))) g' := fun iv' g' h' hn' => by
          obtain ⟨h1, h2, h3, h4, h5⟩ := h'
          have hle := nth_le g.2.2.1 9
          refine ⟨by rw [st2_nk (by omega)]; exact h1, ?_, by rw [st2_nk (by omega)]; exact h3, fun e he => by rw [st2_ne (by omega), st2_ne (by omega)]; exact h4 e he, fun v hv => ?_⟩
          · rw [st2_eq, h2, w32_of (by omega) (by omega), hn']; omega
          · rw [st2_ne (by omega), st2_ne (by omega), st2_ne (by omega), st2_ne (by omega), st2_ne (by omega), st2_ne (by omega)]
            obtain ⟨k0, k1, k2, k3, k4, k5, k6⟩ := h5 v hv
            exact ⟨k0, k1, k2, k3, k4, k5, fun e he => by rw [st2_ne (by omega)]; exact k6 e he⟩
        have fin : ¬ (le = 0 ∧ ¬ sSat (bec g w F re le we nu)) → ∀ iv' : mIv, frC iv iv' → Rk iv' (bec g w F re le we nu) (nth g.2.2.1 9 : Nat) → Ex 76 136 [vR 66, vI re, vI le, vI we, vI nu, vI w, vI ((5 : Nat) : Int)] [] iv' (RV sa sb) Q := fun hc iv' f' h' => by
          rw [b76_136]
          have := hk (st2 iv' 66 10 (w32 (iv' 66 10 + 1))) (fun p j hp => by rw [st2_ne (by omega)]; exact f' p j hp)
          simp only [if_neg hc] at this
          exact this (up iv' _ h' hnu1)
        by_cases cl : le = 0
        · rw [if_pos cl, b76_118]
          refine m71k hB1 hRx (fun hsat iv' f' _ h' => ?_) (fun hns iv' f' _ h' => ?_)
          · show Ex 76 122 _ [.inl 0] _ _ _
            rw [b76_122, if_pos rfl]
            exact fin (fun z => z.2 hsat) iv' (fC.trans f') h'
          · show Ex 76 122 _ [.inl 1] _ _ _
            rw [b76_122, if_neg (by omega), b76_125 (by omega) (by omega), Int.toNat_natCast]
            have := hk (st2 iv' 69 w 0) (fun p j hp => by rw [st2_ne (by omega)]; exact (fC.trans f') p j hp)
            simp only [if_pos (show le = 0 ∧ ¬ sSat (bec g w F re le we nu) from ⟨cl, hns⟩)] at this
            refine this ?_
            show Rm _ (setQ (setTh (bec g w F re le we nu) w 0) (lq (bec g w F re le we nu)))
            obtain ⟨h1, h2, h3, h4, h5⟩ := h'
            refine ⟨by rw [st2_ne (by omega)]; exact h1, ?_, by rw [st2_ne (by omega)]; exact h3, fun e he => by rw [st2_ne (by omega), st2_ne (by omega)]; exact h4 e he, fun v hv => ?_⟩
            · rw [st2_ne (by omega), h2]
              congr 1
              refine nth_congr (fun l hl => ?_)
              show _ ↔ up1 (up1 g.2.2.1 w 1) w 0 l = 0
              by_cases z : l = w
              · rw [z, up1_e]; exact ⟨fun _ => rfl, fun _ => hth0⟩
              · rw [up1_n _ _ z, up1_n _ _ z]
            · obtain ⟨k0, k1, k2, k3, k4, k5, k6⟩ := h5 v hv
              rw [st2_ne (q := 74) (by omega), st2_ne (q := 70) (by omega), st2_ne (q := 71) (by omega), st2_ne (q := 72) (by omega), st2_ne (q := 73) (by omega)]
              refine ⟨?_, k1, k2, k3, k4, k5, fun e he => by rw [st2_ne (by omega)]; exact k6 e he⟩
              show _ = up1 (up1 g.2.2.1 w 1) w 0 v
              by_cases z : v = w
              · rw [z, up1_e, st2_eq]
              · rw [up1_n _ _ z, st2_nk z]; exact k0
        · rw [if_neg cl]
          exact fin (fun z => cl z.1) ivc fC hRx
      | succ t ih =>
        intro k hk' ivc f1 f2
        rw [b76_83, if_pos (by omega), b89' hw (by omega), f1 81 k (by omega), f0 81 k (by omega), hfF k (by omega)]
        refine ih (k + 1) (by omega) _ (fun p j hp => by unfold st2; rw [if_neg (by omega)]; exact f1 p j hp) (fun e he => ?_)
        by_cases z : e = k
        · rw [z, st2_eq]
        · rw [st2_nk (by omega)]; exact f2 e (by omega)
    exact hgo 5 0 rfl iv0 (fun _ _ _ => rfl) (fun e he => by omega)
theorem e78 {re le we nu : Int} (hB : sB g) (h : Rm iv g) (hk : ∀ iv' : mIv, frC iv iv' → Rm iv' (aWish g re le we nu).2 → Q (vI (aWish g re le we nu).1) iv' (RV sa sb)) : Ex 78 0 [vR 66, vI re, vI le, vI we, vI nu, none, none, none] [] iv (RV sa sb) Q := by
  have hr := hk iv (fun _ _ _ => rfl)
  unfold aWish at hk hr
  have hn := hB.1.1
  have bad : ¬ ((0 ≤ re ∧ re ≤ 2) ∧ (0 ≤ le ∧ le ≤ 3 ∧ 1 ≤ we ∧ we ≤ 9) ∧ -1000 ≤ nu ∧ nu ≤ 1000) → Ex 78 35 [vR 66, vI re, vI le, vI we, vI nu, none, none, none] [] iv (RV sa sb) Q := fun z => by
    rw [b78_35]
    rw [if_neg z] at hr
    exact hr h
  rw [b78_0, m58]
  by_cases c1 : 0 ≤ re ∧ re ≤ 2
  · rw [if_pos c1]
    show Ex 78 9 _ [.inl 1] _ _ _
    rw [b78_9, if_neg (by omega), b78_12, m77]
    by_cases c3 : 0 ≤ le ∧ le ≤ 3 ∧ 1 ≤ we ∧ we ≤ 9
    · rw [if_pos c3]
      show Ex 78 17 _ [.inl 1] _ _ _
      rw [b78_17, if_neg (by omega), b78_20, m58]
      by_cases c4 : -1000 ≤ nu ∧ nu ≤ 1000
      · rw [if_pos c4]
        show Ex 78 32 _ [.inl 1] _ _ _
        rw [b78_32, if_neg (by omega), b78_38]
        have call : (0 ≤ re ∧ re ≤ 2) ∧ (0 ≤ le ∧ le ≤ 3 ∧ 1 ≤ we ∧ we ≤ 9) ∧ -1000 ≤ nu ∧ nu ≤ 1000 := ⟨c1, c3, c4⟩
        rw [if_pos call] at hk hr
        have hnf : ∀ t, t < 5 → iv 68 t = g.2.1 t := fun t ht => (h.2.2.2.1 t ht).2
        -- the copy
        have copy : ¬ (az g.2.1 0 ∨ ¬ az g.2.1 g.1) → ∀ (x5 x6 : Int) (t k : Nat), k + t = 5 → ∀ ivc : mIv, (∀ p j, p ≠ 68 → p ≠ 81 → ivc p j = iv p j) → (∀ e, e < 5 → ivc 68 e = if e < k then 0 else g.2.1 e) → (∀ e, e < k → ivc 81 e = g.2.1 e) → Ex 78 128 [vR 66, vI re, vI le, vI we, vI nu, vI x5, vI x6, vI k] [] ivc (RV sa sb) Q := by
          intro hcond x5 x6 t
          induction t with
          | zero =>
            intro k hk' ivc f1 f2 f3
            have : k = 5 := by omega
            subst this
            rw [b78_128, if_neg (by omega), b78_162]
            rw [if_neg hcond] at hk
            have hRc : Rm ivc (setF g (fun _ => 0)) := h.nf (fun p j n68 _ hp => f1 p j n68 (by omega)) (fun t ht => by rw [f2 t ht, if_pos ht])
            have hBF : sB (setF g (fun _ => 0)) := ⟨hB.1, fun e he => ⟨by show (-3 : Int) ≤ 0; omega, by show (0 : Int) ≤ 3; omega⟩, hB.2.2⟩
            refine e76 (F := g.2.1) hBF hRc f3 hB.2.1 c1 ⟨c3.1, c3.2.1⟩ c3.2.2 c4 (fun iv' f' h' => ?_)
            show Ex 78 171 _ [.inl _] _ _ _
            rw [b78_171]
            rw [aAdd_setF] at h' ⊢
            exact hk iv' (fun p j hp => by rw [f' p j hp, f1 p j (by omega) (by omega)]) h'
          | succ t ih =>
            intro k hk' ivc f1 f2 f3
            rw [b78_128, if_pos (by omega), b78_134 (by omega) (by omega), Int.toNat_natCast, w32_of (by omega) (by omega)]
            have e68 : ivc 68 k = g.2.1 k := by rw [f2 k (by omega), if_neg (by omega)]
            refine ih (k + 1) (by omega) _ (fun p j n68 n81 => by rw [st2_ne n68, st2_ne n81]; exact f1 p j n68 n81) (fun e he => ?_) (fun e he => ?_)
            · by_cases z : e = k
              · rw [z, st2_eq, if_pos (by omega)]
              · rw [st2_nk z, st2_ne (by omega), f2 e he]
                by_cases y : e < k
                · rw [if_pos y, if_pos (by omega)]
                · rw [if_neg y, if_neg (by omega)]
            · rw [st2_ne (by omega)]
              by_cases z : e = k
              · rw [z, st2_eq, e68]
              · rw [st2_nk z]; exact f3 e (by omega)
        -- any, odd
        have look : ∀ (t k : Nat), k + t = 5 → ∀ (x5 x6 : Int), ((x5 = 0 ∧ ∀ e, e < k → g.2.1 e = 0) ∨ (x5 = 1 ∧ ∃ e, e < k ∧ g.2.1 e ≠ 0)) → ((x6 = 0 ∧ ∀ e, e < k → g.1 ≤ e → g.2.1 e = 0) ∨ (x6 = 1 ∧ ∃ e, e < k ∧ g.1 ≤ e ∧ g.2.1 e ≠ 0)) → Ex 78 47 [vR 66, vI re, vI le, vI we, vI nu, vI x5, vI x6, vI k] [] iv (RV sa sb) Q := by
          intro t
          induction t with
          | zero =>
            intro k hk' x5 x6 h5 h6
            have : k = 5 := by omega
            subst this
            rw [b78_47, if_neg (by omega), b78_112]
            have st : (az g.2.1 0 ∨ ¬ az g.2.1 g.1) → Ex 78 122 [vR 66, vI re, vI le, vI we, vI nu, vI x5, vI x6, vI ((5 : Nat) : Int)] [] iv (RV sa sb) Q := fun z => by
              rw [b78_122]
              rw [if_pos z] at hr
              exact hr h
            rcases h5 with ⟨q, q2⟩ | ⟨q, e, q2, q3⟩
            · rw [if_pos q]
              exact st (Or.inl (fun t _ ht => q2 t ht))
            · rw [if_neg (by omega), b78_117]
              rcases h6 with ⟨p, p2⟩ | ⟨p, e', p2, p3, p4⟩
              · rw [if_pos p, b78_125]
                refine copy (fun z => ?_) x5 x6 5 0 rfl iv (fun _ _ _ _ => rfl) (fun e he => by rw [if_neg (by omega)]; exact hnf e he) (fun e he => by omega)
                rcases z with z | z
                · exact q3 (z e (by omega) q2)
                · exact z (fun t h1 h2 => p2 t h2 h1)
              · rw [if_neg (by omega)]
                exact st (Or.inr (fun z => p4 (z e' p3 p2)))
          | succ t ih =>
            intro k hk' x5 x6 h5 h6
            have hk5 : k < 5 := by omega
            rw [b78_47, if_pos (by omega), b78_53]
            have odd : ∀ x5' : Int, ((x5' = 0 ∧ ∀ e, e < k + 1 → g.2.1 e = 0) ∨ (x5' = 1 ∧ ∃ e, e < k + 1 ∧ g.2.1 e ≠ 0)) → ∀ x5'' : Int, Ex 78 73 [vR 66, vI re, vI le, vI we, vI nu, vI x5'', vI x6, vI k] [.inl x5'] iv (RV sa sb) Q := fun x5' h5' x5'' => by
              have go : ∀ x6' : Int, ((x6' = 0 ∧ ∀ e, e < k + 1 → g.1 ≤ e → g.2.1 e = 0) ∨ (x6' = 1 ∧ ∃ e, e < k + 1 ∧ g.1 ≤ e ∧ g.2.1 e ≠ 0)) → Ex 78 104 [vR 66, vI re, vI le, vI we, vI nu, vI x5', vI x6, vI k] [.inl x6'] iv (RV sa sb) Q := fun x6' h6' => by
                rw [b78_104, w32_of (by omega) (by omega)]
                exact ih (k + 1) (by omega) x5' x6' h5' h6'
              rw [b78_73]
              rcases h6 with ⟨p, p2⟩ | ⟨p, e', p2, p3, p4⟩
              · rw [if_pos p, b78_80 (by omega) (by omega), Int.toNat_natCast, hnf k hk5]
                have zero : (g.1 ≤ k → g.2.1 k = 0) → Ex 78 103 [vR 66, vI re, vI le, vI we, vI nu, vI x5', vI x6, vI k] [] iv (RV sa sb) Q := fun hz => by
                  rw [b78_103]
                  refine go 0 (Or.inl ⟨rfl, fun e he hge => ?_⟩)
                  by_cases z : e = k
                  · rw [z] at hge ⊢; exact hz hge
                  · exact p2 e (by omega) hge
                by_cases z : g.2.1 k = 0
                · rw [if_pos z]; exact zero (fun _ => z)
                · rw [if_neg z, b78_90, h.1]
                  by_cases y : (k : Int) < (g.1 : Int)
                  · rw [if_pos y]; exact zero (fun q => by omega)
                  · rw [if_neg y, b78_99]
                    exact go 1 (Or.inr ⟨rfl, k, by omega, by omega, z⟩)
              · rw [if_neg (by omega), b78_99]
                exact go 1 (Or.inr ⟨rfl, e', by omega, p3, p4⟩)
            rcases h5 with ⟨q, q2⟩ | ⟨q, e, q2, q3⟩
            · rw [if_pos q, b78_58 (by omega) (by omega), Int.toNat_natCast, hnf k hk5]
              by_cases z : g.2.1 k = 0
              · rw [if_pos z, b78_72]
                refine odd 0 (Or.inl ⟨rfl, fun e he => ?_⟩) _
                by_cases y : e = k
                · rw [y]; exact z
                · exact q2 e (by omega)
              · rw [if_neg z, b78_68]
                exact odd 1 (Or.inr ⟨rfl, k, by omega, z⟩) _
            · rw [if_neg (by omega), b78_68]
              exact odd 1 (Or.inr ⟨rfl, e, by omega, q3⟩) _
        exact look 5 0 rfl 0 0 (Or.inl ⟨rfl, fun e he => by omega⟩) (Or.inl ⟨rfl, fun e he => by omega⟩)
      · rw [if_neg c4]
        show Ex 78 32 _ [.inl 0] _ _ _
        rw [b78_32, if_pos rfl]
        exact bad (fun z => c4 z.2.2)
    · rw [if_neg c3]
      show Ex 78 17 _ [.inl 0] _ _ _
      rw [b78_17, if_pos rfl]
      exact bad (fun z => c3 z.2.1)
  · rw [if_neg c1]
    show Ex 78 9 _ [.inl 0] _ _ _
    rw [b78_9, if_pos rfl]
    exact bad (fun z => c1 z.1)
theorem e79 {a b c gap le we : Int} (hB : sB g) (h : Rm iv g) (hk : ∀ iv' : mIv, frC iv iv' → Rm iv' (aSide g a b c gap le we).2 → Q (vI (aSide g a b c gap le we).1) iv' (RV sa sb)) : Ex 79 0 [vR 66, vI a, vI b, vI c, vI gap, vI le, vI we, none] [] iv (RV sa sb) Q := by
  have hr := hk iv (fun _ _ _ => rfl)
  have hn := hB.1.1
  unfold aSide at hk hr
  have unk : ¬ ((0 ≤ a ∧ a < (g.1 : Int)) ∧ (0 ≤ b ∧ b < (g.1 : Int)) ∧ 0 ≤ c ∧ c < (g.1 : Int)) → Ex 79 24 [vR 66, vI a, vI b, vI c, vI gap, vI le, vI we, none] [] iv (RV sa sb) Q := fun z => by
    rw [b79_24]
    rw [if_neg z] at hr
    exact hr h
  rw [b79_0, m72 hB h]
  by_cases ca : 0 ≤ a ∧ a < (g.1 : Int)
  · rw [if_pos ca]
    show Ex 79 5 _ [.inl 0] _ _ _
    rw [b79_5, if_pos rfl, b79_8, m72 hB h]
    by_cases cb : 0 ≤ b ∧ b < (g.1 : Int)
    · rw [if_pos cb]
      show Ex 79 13 _ [.inl 0] _ _ _
      rw [b79_13, if_pos rfl, b79_16, m72 hB h]
      by_cases cc : 0 ≤ c ∧ c < (g.1 : Int)
      · rw [if_pos cc]
        show Ex 79 21 _ [.inl 0] _ _ _
        rw [b79_21, if_pos rfl, b79_27, m58]
        rw [if_pos ⟨ca, cb, cc⟩] at hk hr
        have out : ¬ ((0 ≤ gap ∧ gap ≤ 1000) ∧ 0 ≤ le ∧ le ≤ 3 ∧ 1 ≤ we ∧ we ≤ 9) → Ex 79 50 [vR 66, vI a, vI b, vI c, vI gap, vI le, vI we, none] [] iv (RV sa sb) Q := fun z => by
          rw [b79_50]
          rw [if_neg z] at hr
          exact hr h
        by_cases c1 : 0 ≤ gap ∧ gap ≤ 1000
        · rw [if_pos c1]
          show Ex 79 37 _ [.inl 1] _ _ _
          rw [b79_37, if_neg (by omega), b79_40, m77]
          by_cases c3 : 0 ≤ le ∧ le ≤ 3 ∧ 1 ≤ we ∧ we ≤ 9
          · rw [if_pos c3]
            show Ex 79 47 _ [.inl 1] _ _ _
            rw [b79_47, if_neg (by omega), b79_53]
            rw [if_pos ⟨c1, c3⟩] at hk
            have hFb : ∀ e : Nat, e < 5 → -3 ≤ sdf a b c e ∧ sdf a b c e ≤ 3 := fun e he => by
              unfold sdf
              split <;> split <;> split <;> omega
            have loop : ∀ (t k : Nat), k + t = 5 → ∀ ivc : mIv, (∀ p j, p ≠ 81 → ivc p j = iv p j) → (∀ e, e < k → ivc 81 e = sdf a b c e) → Ex 79 56 [vR 66, vI a, vI b, vI c, vI gap, vI le, vI we, vI k] [] ivc (RV sa sb) Q := by
              intro t
              induction t with
              | zero =>
                intro k hk' ivc f1 f2
                have : k = 5 := by omega
                subst this
                rw [b79_56, if_neg (by omega), b79_110, w32_of (by omega) (by omega)]
                refine e76 (F := sdf a b c) hB (h.fr (fun p j _ hp _ => f1 p j (by omega))) f2 hFb (by omega) ⟨c3.1, c3.2.1⟩ c3.2.2 (by omega) (fun iv' f' h' => ?_)
                show Ex 79 122 _ [.inl _] _ _ _
                rw [b79_122]
                exact hk iv' (fun p j hp => by rw [f' p j hp, f1 p j (by omega)]) h'
              | succ t ih =>
                intro k hk' ivc f1 f2
                rw [b79_56, if_pos (by omega), b79_62]
                have s3 : ∀ x y : Int, (x = if (k : Int) = a then 1 else 0) → (y = if (k : Int) = b then 1 else 0) → Ex 79 90 [vR 66, vI a, vI b, vI c, vI gap, vI le, vI we, vI k] [.inl y, .inl x, .inl (k : Int), .inr (.inr (some 81))] ivc (RV sa sb) Q := fun x y hx hy => by
                  have hxy : w32 (x + y) = x + y := by
                    apply w32_of
                    · rw [hx, hy]; split <;> split <;> omega
                    · rw [hx, hy]; split <;> split <;> omega
                  have fin : ∀ z : Int, (z = if (k : Int) = c then 1 else 0) → Ex 79 102 [vR 66, vI a, vI b, vI c, vI gap, vI le, vI we, vI k] [.inl z, .inl (x + y), .inl (k : Int), .inr (.inr (some 81))] ivc (RV sa sb) Q := fun z hz => by
                    have hw : w32 (x + y - z) = sdf a b c k := by
                      unfold sdf
                      rw [← hx, ← hy, ← hz]
                      apply w32_of
                      · rw [hx, hy, hz]; split <;> split <;> split <;> omega
                      · rw [hx, hy, hz]; split <;> split <;> split <;> omega
                    rw [b79_102 (by omega) (by omega), Int.toNat_natCast, hw, w32_of (by omega) (by omega)]
                    clear hw hxy
                    refine ih (k + 1) (by omega) _ (fun p j hp => by rw [st2_ne hp]; exact f1 p j hp) (fun e he => ?_)
                    by_cases q : e = k
                    · rw [q, st2_eq]
                    · rw [st2_nk q]; exact f2 e (by omega)
                  rw [b79_90, hxy]
                  clear hxy
                  by_cases q : (k : Int) = c
                  · rw [if_pos q, b79_97]; exact fin 1 (by rw [if_pos q])
                  · rw [if_neg q, b79_101]; exact fin 0 (by rw [if_neg q])
                have s2 : ∀ x : Int, (x = if (k : Int) = a then 1 else 0) → Ex 79 79 [vR 66, vI a, vI b, vI c, vI gap, vI le, vI we, vI k] [.inl x, .inl (k : Int), .inr (.inr (some 81))] ivc (RV sa sb) Q := fun x hx => by
                  rw [b79_79]
                  by_cases q : (k : Int) = b
                  · rw [if_pos q, b79_85]; exact s3 x 1 hx (by rw [if_pos q])
                  · rw [if_neg q, b79_89]; exact s3 x 0 hx (by rw [if_neg q])
                by_cases q : (k : Int) = a
                · rw [if_pos q, b79_74]; exact s2 1 (by rw [if_pos q])
                · rw [if_neg q, b79_78]; exact s2 0 (by rw [if_neg q])
            exact loop 5 0 rfl iv (fun _ _ _ => rfl) (fun e he => by omega)
          · rw [if_neg c3]
            show Ex 79 47 _ [.inl 0] _ _ _
            rw [b79_47, if_pos rfl]
            exact out (fun z => c3 z.2)
        · rw [if_neg c1]
          show Ex 79 37 _ [.inl 0] _ _ _
          rw [b79_37, if_pos rfl]
          exact out (fun z => c1 z.1)
      · rw [if_neg cc]
        show Ex 79 21 _ [.inl 1] _ _ _
        rw [b79_21, if_neg (by omega)]
        exact unk (fun z => cc z.2.2)
    · rw [if_neg cb]
      show Ex 79 13 _ [.inl 1] _ _ _
      rw [b79_13, if_neg (by omega)]
      exact unk (fun z => cb z.2.1)
  · rw [if_neg ca]
    show Ex 79 5 _ [.inl 1] _ _ _
    rw [b79_5, if_neg (by omega)]
    exact unk (fun z => ca z.1)
end MAD
