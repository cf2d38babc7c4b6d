/-! wishes come: become, addWish, wish, side -/
def bec (g : Sg) (w : Nat) (F : Nat → Int) (re le we nu : Int) : Sg := (g.1, g.2.1, up1 g.2.2.1 w 1, up1 g.2.2.2.1 w 0, g.2.2.2.2.1, (up1 (sC g).1 w F, up1 (sC g).2.1 w re, up1 (sC g).2.2.1 w le, up1 (sC g).2.2.2.1 w we, up1 (sC g).2.2.2.2.1 w nu, (sC g).2.2.2.2.2))
noncomputable def aAdd (g : Sg) (F : Nat → Int) (re le we nu : Int) : Int × Sg := match frW g.2.2.1 9 0 with
  | none => (-2000000004, g)
  | some w => @ite (Int × Sg) (le = 0 ∧ ¬ sSat (bec g w F re le we nu)) (Classical.propDecidable _) (-2000000005, setQ (setTh (bec g w F re le we nu) w 0) (lq (bec g w F re le we nu))) ((w : Int), bec g w F re le we nu)
noncomputable def aWish (g : Sg) (re le we nu : Int) : Int × Sg := if (0 ≤ re ∧ re ≤ 2) ∧ (0 ≤ le ∧ le ≤ 3 ∧ 1 ≤ we ∧ we ≤ 9) ∧ -1000 ≤ nu ∧ nu ≤ 1000 then (@ite (Int × Sg) (az g.2.1 0 ∨ ¬ az g.2.1 g.1) (Classical.propDecidable _) (-2000000003, g) ((aAdd g g.2.1 re le we nu).1, setF (aAdd g g.2.1 re le we nu).2 (fun _ => 0))) else (-2000000002, g)
def sdf (a b c : Int) (e : Nat) : Int := (if (e : Int) = a then 1 else 0) + (if (e : Int) = b then 1 else 0) - (if (e : Int) = c then 1 else 0)
noncomputable def aSide (g : Sg) (a b c gap le we : Int) : Int × Sg := if (0 ≤ a ∧ a < g.1) ∧ (0 ≤ b ∧ b < g.1) ∧ 0 ≤ c ∧ c < g.1 then (if (0 ≤ gap ∧ gap ≤ 1000) ∧ 0 ≤ le ∧ le ≤ 3 ∧ 1 ≤ we ∧ we ≤ 9 then aAdd g (sdf a b c) 0 le we (-gap) else (-2000000002, g)) else (-2000000001, g)
theorem frW_congr {f f' : Nat → Int} : ∀ t k, (∀ w, k ≤ w → w < k + t → (f w = 0 ↔ f' w = 0)) → frW f t k = frW f' t k
  | 0, _, _ => rfl
  | t + 1, k, h => by
    unfold frW
    rw [frW_congr t (k + 1) (fun w h1 h2 => h w (by omega) (by omega))]
    by_cases c : f k = 0
    · rw [if_pos c, if_pos ((h k (by omega) (by omega)).mp c)]
    · rw [if_neg c, if_neg (fun z => c ((h k (by omega) (by omega)).mpr z))]
section ADD
variable {sa sb : Nat} {iv : mIv} {Q : Option mV → mIv → mRv → Prop} {g : Sg}
theorem m17 {k f : Nat} (hk : k < 9) (hf : f = 2 ∨ f = 3) {x2 x3 x4 x5 : Int} (hq : ∀ iv' : mIv, (∀ p j, p ≠ 6 + 2 * k → p ≠ 7 + 2 * k → iv' p j = iv p j) → iv' (6 + 2 * k) 0 = 1 → iv' (6 + 2 * k) 1 = 0 → iv' (6 + 2 * k) 2 = x2 → iv' (6 + 2 * k) 3 = x3 → iv' (6 + 2 * k) 4 = x4 → iv' (6 + 2 * k) 5 = x5 → (∀ e, e < 5 → iv' (7 + 2 * k) e = iv f e) → Q none iv' (RV sa sb)) : Ex 17 0 [vR (6 + 2 * k), vR f, vI x2, vI x3, vI x4, vI x5, none] [] iv (RV sa sb) Q := by
  rw [b17_0 hk hf]
  have loop : ∀ t e : Nat, e + t = 5 → ∀ ivc : mIv, (∀ p j, p ≠ 7 + 2 * k → ivc p j = iv p j) → (∀ j, j < e → ivc (7 + 2 * k) j = iv f j) → Ex 17 3 [vR (6 + 2 * k), vR f, vI x2, vI x3, vI x4, vI x5, vI e] [] ivc (RV sa sb) Q := by
    intro t
    induction t with
    | zero =>
      intro e he ivc h1 h2
      rw [b17_3 hk hf, if_neg (by omega), b17_33 hk hf]
      refine hq _ (fun p j n6 n7 => by rw [st2_ne n6, st2_ne n6, st2_ne n6, st2_ne n6, st2_ne n6, st2_ne n6]; exact h1 p j n7) st2_eq ?_ ?_ ?_ ?_ ?_ (fun j hj => ?_)
      · rw [st2_nk (by omega), st2_eq]
      · rw [st2_nk (by omega), st2_nk (by omega), st2_nk (by omega), st2_nk (by omega), st2_nk (by omega), st2_eq]
      · rw [st2_nk (by omega), st2_nk (by omega), st2_nk (by omega), st2_nk (by omega), st2_eq]
      · rw [st2_nk (by omega), st2_nk (by omega), st2_nk (by omega), st2_eq]
      · rw [st2_nk (by omega), st2_nk (by omega), st2_eq]
      · rw [st2_ne (by omega), st2_ne (by omega), st2_ne (by omega), st2_ne (by omega), st2_ne (by omega), st2_ne (by omega)]
        exact h2 j (by omega)
    | succ t ih =>
      intro e he ivc h1 h2
      have xe : ((e : Int)).toNat = e := Int.toNat_natCast e
      rw [b17_3 hk hf, if_pos (by omega), b17_9 hk hf, if_pos (by omega), b17_16 hk hf (by omega) (by omega), xe, w32_of (by omega) (by omega)]
      refine ih (e + 1) (by omega) _ (fun p j n7 => by rw [st2_ne n7]; exact h1 p j n7) (fun j hj => ?_)
      by_cases c : j = e
      · rw [c, st2_eq]; exact h1 f e (by omega)
      · rw [st2_nk c]; exact h2 j (by omega)
  exact loop 5 0 rfl iv (fun _ _ _ => rfl) (fun j hj => by omega)
theorem sB_bec {w : Nat} {F : Nat → Int} {re le we nu : Int} (hB : sB g) (hF : ∀ e, e < 5 → -3 ≤ F e ∧ F e ≤ 3) (hre : 0 ≤ re ∧ re ≤ 2) (hle : 0 ≤ le ∧ le ≤ 3) (hwe : 1 ≤ we ∧ we ≤ 9) (hnu : -1000 ≤ nu ∧ nu ≤ 1000) : sB (bec g w F re le we nu) := by
  obtain ⟨⟨b1, b2, b3, b4⟩, h2, h3⟩ := hB
  refine ⟨⟨b1, fun v hv e he => ?_, fun v hv => ?_, b4⟩, h2, fun v hv => ?_⟩
  · show -3 ≤ up1 (sC g).1 w F v e ∧ up1 (sC g).1 w F v e ≤ 3
    by_cases z : v = w
    · rw [z, up1_e]; exact hF e he
    · rw [up1_n _ _ z]; exact b2 v hv e he
  · show (0 ≤ up1 (sC g).2.1 w re v ∧ up1 (sC g).2.1 w re v ≤ 2) ∧ (0 ≤ up1 (sC g).2.2.1 w le v ∧ up1 (sC g).2.2.1 w le v ≤ 3) ∧ (0 ≤ up1 (sC g).2.2.2.1 w we v ∧ up1 (sC g).2.2.2.1 w we v ≤ 9) ∧ (-1000 ≤ up1 (sC g).2.2.2.2.1 w nu v ∧ up1 (sC g).2.2.2.2.1 w nu v ≤ 1000)
    by_cases z : v = w
    · rw [z, up1_e, up1_e, up1_e, up1_e]; omega
    · rw [up1_n _ _ z, up1_n _ _ z, up1_n _ _ z, up1_n _ _ z]; exact b3 v hv
  · show (up1 g.2.2.1 w 1 v = 0 ∨ up1 g.2.2.1 w 1 v = 1) ∧ (up1 g.2.2.2.1 w 0 v = 0 ∨ up1 g.2.2.2.1 w 0 v = 1) ∧ (up1 g.2.2.1 w 1 v ≠ 0 → 1 ≤ up1 (sC g).2.2.2.1 w we v)
    by_cases z : v = w
    · rw [z, up1_e, up1_e, up1_e]; omega
    · rw [up1_n _ _ z, up1_n _ _ z, up1_n _ _ z]; exact h3 v hv
theorem c46 {f : Nat} {F : Nat → Int} {re le we nu : Int} (hf : f = 2 ∨ f = 3) (hB : sB g) (h : Rc iv sa sb g) (hfF : ∀ e, e < 5 → iv f e = F e) (hF : ∀ e, e < 5 → -3 ≤ F e ∧ F e ≤ 3) (hre : 0 ≤ re ∧ re ≤ 2) (hle : 0 ≤ le ∧ le ≤ 3) (hwe : 1 ≤ we ∧ we ≤ 9) (hnu : -1000 ≤ nu ∧ nu ≤ 1000) (hk : ∀ (iv' : mIv) (sa' sb' : Nat), frM iv iv' → Rc iv' sa' sb' (aAdd g F re le we nu).2 → Q (vI (aAdd g F re le we nu).1) iv' (RV sa' sb')) : Ex 46 0 [vR 0, vR f, vI re, vI le, vI we, vI nu, none, none] [] iv (RV sa sb) Q := by
  have hS := h.1
  have ha := hS.a
  have hb := hS.b
  unfold aAdd at hk
  have efr : frW (fun w => iv (6 + 2 * w) 0) 9 0 = frW g.2.2.1 9 0 := frW_congr 9 0 (fun w _ hw => by rw [(h.2.1.2.2.2 w (by omega)).1])
  rw [b46_0 hf, m47, efr]
  cases hfr : frW g.2.2.1 9 0 with
  | none =>
    rw [hfr] at hk
    show Ex 46 4 _ [.inl (-1)] _ _ _
    rw [b46_4 hf, if_pos rfl, b46_12 hf]
    exact hk iv sa sb (fun _ _ _ => rfl) h
  | some w =>
    rw [hfr] at hk
    obtain ⟨_, hw, hth0⟩ := frW_lt 9 0 w hfr
    have hw9 : w < 9 := by omega
    show Ex 46 4 _ [.inl (w : Int)] _ _ _
    rw [b46_4 hf, if_neg (by omega), b46_15 hf (by omega) (by omega), Int.toNat_natCast]
    refine m17 hw9 hf (fun iv1 f1 g0 g1 g2 g3 g4 g5 g6 => ?_)
    show Ex 46 36 _ [] _ _ _
    rw [b46_36 hf hw9]
    have hW1 : Wc iv1 (bec g w F re le we nu) := by
      refine h.2.1.wish (k := w) (fun p j _ n1 n2 _ _ _ => f1 p j n1 n2) rfl ?_ rfl rfl (fun v hv hne => ?_) (fun _ => ?_)
      · rw [f1 0 6 (by omega) (by omega)]; exact h.2.1.2.1
      · show (up1 g.2.2.1 w 1 v, up1 g.2.2.2.1 w 0 v, up1 (sC g).2.1 w re v, up1 (sC g).2.2.1 w le v, up1 (sC g).2.2.2.1 w we v, up1 (sC g).2.2.2.2.1 w nu v, up1 (sC g).1 w F v) = _
        rw [up1_n _ _ hne, up1_n _ _ hne, up1_n _ _ hne, up1_n _ _ hne, up1_n _ _ hne, up1_n _ _ hne, up1_n _ _ hne]; rfl
      · show _ = up1 g.2.2.1 w 1 w ∧ _ = up1 g.2.2.2.1 w 0 w ∧ _ = up1 (sC g).2.1 w re w ∧ _ = up1 (sC g).2.2.1 w le w ∧ _ = up1 (sC g).2.2.2.1 w we w ∧ _ = up1 (sC g).2.2.2.2.1 w nu w ∧ ∀ e, e < 5 → _ = up1 (sC g).1 w F w e
        rw [up1_e, up1_e, up1_e, up1_e, up1_e, up1_e, up1_e]
        exact ⟨g0, g1, g2, g3, g4, g5, fun e he => by rw [g6 e he]; exact hfF e he⟩
    have hB1 : sB (bec g w F re le we nu) := sB_bec hB hF hre hle hwe hnu
    have s1' : solB iv1 24 := h.2.2.1.fr (b := 24) (fun p j q1 q2 => f1 p j (by omega) (by omega))
    have s2' : solB iv1 45 := h.2.2.2.1.fr (b := 24) (fun p j q1 q2 => f1 p j (by omega) (by omega))
    have t1 : (bec g w F re le we nu).2.2.1 w = 1 := up1_e _ _ _
    have t2 : (bec g w F re le we nu).2.2.2.1 w = 0 := up1_e _ _ _
    have t3 : (bec g w F re le we nu).2.2.2.2.2.2.2.1 w = le := up1_e _ _ _
    refine m52c hS hB1 hW1 s1' s2' hw9 (fun hsat iv' sa' sb' f' h' => ?_) (fun hc hns iv' f' h6 s' => ?_)
    · show Ex 46 42 _ [.inl 0] _ _ _
      rw [b46_42 hf hw9, if_pos rfl, b46_54 hf hw9]
      have hcond : ¬ (le = 0 ∧ ¬ sSat (bec g w F re le we nu)) := fun z => z.2 (hsat ⟨by rw [t1]; omega, t2, by show (bec g w F re le we nu).2.2.2.2.2.2.2.1 w = 0; rw [t3]; exact z.1⟩)
      have := hk iv' sa' sb' (fun p j hp => by rw [f' p j hp, f1 p j (by omega) (by omega)])
      simp only [if_neg hcond] at this
      exact this h'
    · show Ex 46 42 _ [.inl 1] _ _ _
      rw [b46_42 hf hw9, if_neg (by omega), b46_45 hf hw9]
      have hc2 : (bec g w F re le we nu).2.2.2.2.2.2.2.1 w = 0 := hc.2.2
      rw [t3] at hc2
      have hcond : le = 0 ∧ ¬ sSat (bec g w F re le we nu) := ⟨hc2, hns⟩
      have fb : ∀ p j, p < sb ∨ sb + 20 < p → ¬ (p = 0 ∧ j = 6) → ¬ (p = 6 + 2 * w ∧ j = 0) → st2 iv' (6 + 2 * w) 0 0 p j = iv1 p j := fun p j hp hn hz => by
        unfold st2
        rw [if_neg hz, f' p j hp hn]
      have := hk (st2 iv' (6 + 2 * w) 0 0) sa sb (fun p j hp => by rw [fb p j (by omega) (by omega) (by omega), f1 p j (by omega) (by omega)])
      simp only [if_pos hcond] at this
      refine this ?_
      show Rc _ sa sb (setQ (setTh (bec g w F re le we nu) w 0) (lq (bec g w F re le we nu)))
      have hSw : ∀ v, sS g v = true → v ≠ w := fun v hv z => by
        unfold sS at hv
        have := (of_decide_eq_true hv).2.1
        rw [z] at this; exact this hth0
      refine h.back (fun p j q1 q2 q3 => by rw [fb p j q3 (by omega) (by omega), f1 p j (by omega) (by omega)]) (by rw [fb 0 9 (by omega) (by omega) (by omega), f1 _ _ (by omega) (by omega)]) (s'.fr (b := 24) (fun p j q1 q2 => st2_ne (by omega))) ?_ rfl ?_ ?_
      · refine h.2.1.wish (k := w) (fun p j q1 n1 n2 _ _ q => by rw [fb p j (by omega) (by omega) (by omega), f1 p j n1 n2]) rfl ?_ rfl rfl (fun v hv hne => ?_) (fun _ => ?_)
        · rw [st2_ne (by omega)]; exact h6
        · show (up1 (up1 g.2.2.1 w 1) w 0 v, up1 g.2.2.2.1 w 0 v, up1 (sC g).2.1 w re v, up1 (sC g).2.2.1 w le v, up1 (sC g).2.2.2.1 w we v, up1 (sC g).2.2.2.2.1 w nu v, up1 (sC g).1 w F v) = _
          rw [up1_n _ _ hne, up1_n _ _ hne, up1_n _ _ hne, up1_n _ _ hne, up1_n _ _ hne, up1_n _ _ hne, up1_n _ _ hne, up1_n _ _ hne]; rfl
        · show _ = up1 (up1 g.2.2.1 w 1) w 0 w ∧ _ = up1 g.2.2.2.1 w 0 w ∧ _ = up1 (sC g).2.1 w re w ∧ _ = up1 (sC g).2.2.1 w le w ∧ _ = up1 (sC g).2.2.2.1 w we w ∧ _ = up1 (sC g).2.2.2.2.1 w nu w ∧ ∀ e, e < 5 → _ = up1 (sC g).1 w F w e
          rw [up1_e, up1_e, up1_e, up1_e, up1_e, up1_e, up1_e, st2_eq, fb _ 1 (by omega) (by omega) (by omega), fb _ 2 (by omega) (by omega) (by omega), fb _ 3 (by omega) (by omega) (by omega), fb _ 4 (by omega) (by omega) (by omega), fb _ 5 (by omega) (by omega) (by omega)]
          exact ⟨rfl, g1, g2, g3, g4, g5, fun e he => by rw [fb _ e (by omega) (by omega) (by omega), g6 e he]; exact hfF e he⟩
      · funext v
        show decide (v < 9 ∧ up1 (up1 g.2.2.1 w 1) w 0 v ≠ 0 ∧ up1 g.2.2.2.1 w 0 v = 0) = decide (v < 9 ∧ g.2.2.1 v ≠ 0 ∧ g.2.2.2.1 v = 0)
        by_cases z : v = w
        · rw [z, up1_e, hth0]
          exact decide_eq_decide.mpr ⟨fun y => absurd rfl y.2.1, fun y => absurd rfl y.2.1⟩
        · rw [up1_n _ _ z, up1_n _ _ z, up1_n _ _ z]
      · refine ⟨fun v hv hSv => ?_, fun e _ => rfl⟩
        have z := hSw v hSv
        show (∀ t, t < g.1 → (sC g).1 v t = up1 (sC g).1 w F v t) ∧ (sC g).2.1 v = up1 (sC g).2.1 w re v ∧ (sC g).2.2.1 v = up1 (sC g).2.2.1 w le v ∧ (sC g).2.2.2.1 v = up1 (sC g).2.2.2.1 w we v ∧ (sC g).2.2.2.2.1 v = up1 (sC g).2.2.2.2.1 w nu v
        rw [up1_n _ _ z, up1_n _ _ z, up1_n _ _ z, up1_n _ _ z, up1_n _ _ z]
        exact ⟨fun _ _ => rfl, rfl, rfl, rfl, rfl⟩
theorem az_congr {f f' : Nat → Int} {e : Nat} (h : ∀ t, t < 5 → f t = f' t) : az f e ↔ az f' e := by
  unfold az
  constructor
  · intro z t h1 h2; rw [← h t h2]; exact z t h1 h2
  · intro z t h1 h2; rw [h t h2]; exact z t h1 h2
/-- the next factors are told anew -/
theorem Rc.nf {iv' : mIv} {F : Nat → Int} (h : Rc iv sa sb g) (f : ∀ p j, p ≠ 2 → p < 66 → iv' p j = iv p j) (e : ∀ t, t < 5 → iv' 2 t = F t) : Rc iv' sa sb (setF g F) := by
  obtain ⟨hS, ⟨h1, h2, h3, h4⟩, s1, s2, hset⟩ := h
  have ha := hS.a
  refine ⟨hS, ⟨by rw [f _ _ (by omega) (by omega)]; exact h1, by rw [f _ _ (by omega) (by omega)]; exact h2, fun t ht => ⟨by rw [f _ _ (by omega) (by omega)]; exact (h3 t ht).1, e t ht⟩, fun w hw => ?_⟩, s1.fr (b := 24) (fun p j q1 q2 => f p j (by omega) (by omega)), s2.fr (b := 24) (fun p j q1 q2 => f p j (by omega) (by omega)), ?_⟩
  · rw [f _ _ (by omega) (by omega), f _ _ (by omega) (by omega), f _ _ (by omega) (by omega), f _ _ (by omega) (by omega), f _ _ (by omega) (by omega), f _ _ (by omega) (by omega)]
    obtain ⟨a0, a1, a2, a3, a4, a5, a6⟩ := h4 w hw
    exact ⟨a0, a1, a2, a3, a4, a5, fun e he => by rw [f _ _ (by omega) (by omega)]; exact a6 e he⟩
  · rw [f 0 9 (by omega) (by omega)]
    rcases hset with z | z
    · exact Or.inl z
    · exact Or.inr ⟨z.1, z.2.fr (fun p j q1 q2 => f p j (by omega) (by omega))⟩
theorem c23 {re le we nu : Int} (hB : sB g) (h : Rc iv sa sb g) (hk : ∀ (iv' : mIv) (sa' sb' : Nat), frM iv iv' → Rc iv' sa' sb' (aWish g re le we nu).2 → Q (vI (aWish g re le we nu).1) iv' (RV sa' sb')) : Ex 23 0 [vR 0, vI re, vI le, vI we, vI nu, none] [] iv (RV sa sb) Q := by
  have hr := hk iv sa sb (fun _ _ _ => rfl)
  unfold aWish at hk hr
  have bad : ¬ ((0 ≤ re ∧ re ≤ 2) ∧ (0 ≤ le ∧ le ≤ 3 ∧ 1 ≤ we ∧ we ≤ 9) ∧ -1000 ≤ nu ∧ nu ≤ 1000) → Ex 23 28 [vR 0, vI re, vI le, vI we, vI nu, none] [] iv (RV sa sb) Q := fun z => by
    rw [b23_28]
    rw [if_neg z] at hr
    exact hr h
  rw [b23_0]
  by_cases c1 : re < 0
  · rw [if_pos c1]; exact bad (fun z => by omega)
  · rw [if_neg c1, b23_4]
    by_cases c2 : 2 < re
    · rw [if_pos c2]; exact bad (fun z => by omega)
    · rw [if_neg c2, b23_9, m41]
      by_cases c3 : 0 ≤ le ∧ le ≤ 3 ∧ 1 ≤ we ∧ we ≤ 9
      · rw [if_pos c3]
        show Ex 23 14 _ [.inl 1] _ _ _
        rw [b23_14, if_neg (by omega), b23_17, m40 (by omega)]
        by_cases c4 : -1000 ≤ nu ∧ nu ≤ 1000
        · rw [if_pos c4]
          show Ex 23 25 _ [.inl 1] _ _ _
          rw [b23_25, if_neg (by omega), b23_31]
          have call : (0 ≤ re ∧ re ≤ 2) ∧ (0 ≤ le ∧ le ≤ 3 ∧ 1 ≤ we ∧ we ≤ 9) ∧ -1000 ≤ nu ∧ nu ≤ 1000 := ⟨by omega, c3, c4⟩
          rw [if_pos call] at hk hr
          have hnf : ∀ t, t < 5 → iv 2 t = g.2.1 t := fun t ht => (h.2.1.2.2.1 t ht).2
          have st : (az g.2.1 0 ∨ ¬ az g.2.1 g.1) → Ex 23 56 [vR 0, vI re, vI le, vI we, vI nu, none] [] iv (RV sa sb) Q := fun z => by
            rw [b23_56]
            rw [if_pos z] at hr
            exact hr h
          refine m45 (e := 0) (Or.inl rfl) (by omega) (fun z => ?_) (fun z => ?_)
          · show Ex 23 39 _ [.inl 1] _ _ _
            rw [b23_39, if_neg (by omega)]
            exact st (Or.inl ((az_congr hnf).mp z))
          · show Ex 23 39 _ [.inl 0] _ _ _
            rw [b23_39, if_pos rfl, b23_42, h.2.1.1]
            refine m45 (e := g.1) (Or.inl rfl) hB.1.1 (fun y => ?_) (fun y => ?_)
            · show Ex 23 53 _ [.inl 1] _ _ _
              rw [b23_53, if_neg (by omega), b23_59]
              have hcond : ¬ (az g.2.1 0 ∨ ¬ az g.2.1 g.1) := fun q => by
                rcases q with q | q
                · exact z ((az_congr hnf).mpr q)
                · exact q ((az_congr hnf).mp y)
              rw [if_neg hcond] at hk
              refine c46 (F := g.2.1) (Or.inl rfl) hB h hnf hB.2.1 call.1 ⟨c3.1, c3.2.1⟩ c3.2.2 c4 (fun iv' sa' sb' f' h' => ?_)
              show Ex 23 72 _ [.inl _] _ _ _
              rw [b23_72, m103 (Or.inl rfl)]
              show Ex 23 82 _ [] _ _ _
              rw [b23_82]
              refine hk _ sa' sb' (fun p j hp => ?_) (h'.nf (F := fun _ => 0) (fun p j n2 _ => ?_) (fun t ht => ?_))
              · unfold fil; rw [if_neg (by omega)]; exact f' p j hp
              · unfold fil; rw [if_neg (by omega)]
              · unfold fil; rw [if_pos ⟨rfl, ht⟩]
            · show Ex 23 53 _ [.inl 0] _ _ _
              rw [b23_53, if_pos rfl]
              exact st (Or.inr (fun q => y ((az_congr hnf).mpr q)))
        · rw [if_neg c4]
          show Ex 23 25 _ [.inl 0] _ _ _
          rw [b23_25, if_pos rfl]
          exact bad (fun z => c4 z.2.2)
      · rw [if_neg c3]
        show Ex 23 14 _ [.inl 0] _ _ _
        rw [b23_14, if_pos rfl]
        exact bad (fun z => c3 z.2.1)
theorem inc3 {v : Nat → Int} {k : Nat} {x : Int} (hk : k < 5) (h : ∀ e, e < 5 → iv 3 e = v e) (hb : -3 ≤ v k ∧ v k ≤ 3) (hx : -1 ≤ x ∧ x ≤ 1) : ∀ e, e < 5 → st2 iv 3 k (w32 (iv 3 k + x)) 3 e = v e + if (e : Int) = (k : Int) then x else 0 := fun e he => by
  rw [h k hk, w32_of (by omega) (by omega)]
  by_cases c : e = k
  · rw [c, st2_eq, if_pos rfl]
  · rw [st2_nk c, if_neg (by omega), h e he, Int.add_zero]
theorem c24 {a b c gap le we : Int} (hB : sB g) (h : Rc iv sa sb g) (hk : ∀ (iv' : mIv) (sa' sb' : Nat), frM iv iv' → Rc iv' sa' sb' (aSide g a b c gap le we).2 → Q (vI (aSide g a b c gap le we).1) iv' (RV sa' sb')) : Ex 24 0 [vR 0, vI a, vI b, vI c, vI gap, vI le, vI we] [] iv (RV sa sb) Q := by
  have hr := hk iv sa sb (fun _ _ _ => rfl)
  have hn := hB.1.1
  unfold aSide at hk hr
  have unk : ¬ ((0 ≤ a ∧ a < (g.1 : Int)) ∧ (0 ≤ b ∧ b < (g.1 : Int)) ∧ 0 ≤ c ∧ c < (g.1 : Int)) → Ex 24 24 [vR 0, vI a, vI b, vI c, vI gap, vI le, vI we] [] iv (RV sa sb) Q := fun z => by
    rw [b24_24]
    rw [if_neg z] at hr
    exact hr h
  rw [b24_0, m43, h.2.1.1]
  by_cases ca : 0 ≤ a ∧ a < (g.1 : Int)
  · rw [if_pos ca]
    show Ex 24 5 _ [.inl 1] _ _ _
    rw [b24_5, if_neg (by omega), b24_8, m43, h.2.1.1]
    by_cases cb : 0 ≤ b ∧ b < (g.1 : Int)
    · rw [if_pos cb]
      show Ex 24 13 _ [.inl 1] _ _ _
      rw [b24_13, if_neg (by omega), b24_16, m43, h.2.1.1]
      by_cases cc : 0 ≤ c ∧ c < (g.1 : Int)
      · rw [if_pos cc]
        show Ex 24 21 _ [.inl 1] _ _ _
        rw [b24_21, if_neg (by omega), b24_27]
        rw [if_pos ⟨ca, cb, cc⟩] at hk hr
        have out : ¬ ((0 ≤ gap ∧ gap ≤ 1000) ∧ 0 ≤ le ∧ le ≤ 3 ∧ 1 ≤ we ∧ we ≤ 9) → Ex 24 50 [vR 0, vI a, vI b, vI c, vI gap, vI le, vI we] [] iv (RV sa sb) Q := fun z => by
          rw [b24_50]
          rw [if_neg z] at hr
          exact hr h
        by_cases c1 : gap < 0
        · rw [if_pos c1]; exact out (fun z => by omega)
        · rw [if_neg c1, b24_32]
          by_cases c2 : 1000 < gap
          · rw [if_pos c2]; exact out (fun z => by omega)
          · rw [if_neg c2, b24_40, m41]
            by_cases c3 : 0 ≤ le ∧ le ≤ 3 ∧ 1 ≤ we ∧ we ≤ 9
            · rw [if_pos c3]
              show Ex 24 47 _ [.inl 1] _ _ _
              rw [b24_47, if_neg (by omega), b24_53, m103 (Or.inr rfl)]
              show Ex 24 61 _ [] _ _ _
              rw [if_pos ⟨by omega, c3⟩] at hk
              obtain ⟨A, hA⟩ : ∃ A : Nat, a = A := ⟨a.toNat, by omega⟩
              obtain ⟨B, hBb⟩ : ∃ B : Nat, b = B := ⟨b.toNat, by omega⟩
              obtain ⟨C, hC⟩ : ∃ C : Nat, c = C := ⟨c.toNat, by omega⟩
              subst hA hBb hC
              rw [b24_61 (by omega) (by omega) (by omega) (by omega) (by omega) (by omega), Int.toNat_natCast, Int.toNat_natCast, Int.toNat_natCast]
              have f0 : ∀ p j, p ≠ 3 → fil iv 3 5 0 p j = iv p j := fun p j hp => by unfold fil; rw [if_neg (fun z => hp z.1)]
              have r0 : ∀ e, e < 5 → fil iv 3 5 0 3 e = (fun _ => (0 : Int)) e := fun e he => by unfold fil; rw [if_pos ⟨rfl, he⟩]
              generalize fil iv 3 5 0 = iv0 at f0 r0
              have r1 := inc3 (k := A) (x := 1) (by omega) r0 (by simp) (by omega)
              have f1 : ∀ p j, p ≠ 3 → st2 iv0 3 A (w32 (iv0 3 A + 1)) p j = iv p j := fun p j hp => by rw [st2_ne hp]; exact f0 p j hp
              generalize st2 iv0 3 A (w32 (iv0 3 A + 1)) = iv1 at r1 f1
              have r2 := inc3 (k := B) (x := 1) (v := fun e => (fun _ => (0 : Int)) e + if (e : Int) = (A : Int) then 1 else 0) (by omega) r1 (by dsimp only; split <;> omega) (by omega)
              have f2 : ∀ p j, p ≠ 3 → st2 iv1 3 B (w32 (iv1 3 B + 1)) p j = iv p j := fun p j hp => by rw [st2_ne hp]; exact f1 p j hp
              generalize st2 iv1 3 B (w32 (iv1 3 B + 1)) = iv2 at r2 f2
              have r3 := inc3 (k := C) (x := -1) (v := fun e => ((fun _ => (0 : Int)) e + if (e : Int) = (A : Int) then 1 else 0) + if (e : Int) = (B : Int) then 1 else 0) (by omega) r2 (by dsimp only; split <;> split <;> omega) (by omega)
              have f3 : ∀ p j, p ≠ 3 → st2 iv2 3 C (w32 (iv2 3 C - 1)) p j = iv p j := fun p j hp => by rw [st2_ne hp]; exact f2 p j hp
              rw [show iv2 3 C + -1 = iv2 3 C - 1 by omega] at r3
              generalize st2 iv2 3 C (w32 (iv2 3 C - 1)) = iv3 at r3 f3
              have hF : ∀ e, e < 5 → iv3 3 e = sdf A B C e := fun e he => by
                rw [r3 e he]
                unfold sdf
                dsimp only
                split <;> split <;> split <;> omega
              have hFb : ∀ e, e < 5 → -3 ≤ sdf A B C e ∧ sdf A B C e ≤ 3 := fun e he => by
                unfold sdf
                split <;> split <;> split <;> omega
              have h3 : Rc iv3 sa sb g := h.frS (fun p j _ n3 _ => f3 p j n3)
              refine m45 (e := 0) (Or.inr rfl) (by omega) (fun z => ?_) (fun z => ?_)
              · exfalso
                have z1 := z A (by omega) (by omega)
                have z2 := z B (by omega) (by omega)
                rw [hF A (by omega)] at z1
                rw [hF B (by omega)] at z2
                unfold sdf at z1 z2
                rw [if_pos rfl] at z1
                by_cases q1 : (A : Int) = (C : Int)
                · rw [if_pos (show (B : Int) = (B : Int) from rfl)] at z2
                  by_cases q2 : (B : Int) = (A : Int)
                  · rw [if_pos q2, if_pos (by omega)] at z2; omega
                  · rw [if_neg q2, if_neg (by omega)] at z2; omega
                · rw [if_neg q1] at z1
                  split at z1 <;> omega
              · show Ex 24 99 _ [.inl 0] _ _ _
                rw [b24_99, if_pos rfl, b24_105, w32_of (by omega) (by omega)]
                refine c46 (F := sdf A B C) (Or.inr rfl) hB h3 hF hFb (by omega) ⟨c3.1, c3.2.1⟩ c3.2.2 (by omega) (fun iv' sa' sb' f' h' => ?_)
                show Ex 24 121 _ [.inl _] _ _ _
                rw [b24_121]
                exact hk iv' sa' sb' (fun p j hp => by rw [f' p j hp, f3 p j (by omega)]) h'
            · rw [if_neg c3]
              show Ex 24 47 _ [.inl 0] _ _ _
              rw [b24_47, if_pos rfl]
              exact out (fun z => c3 z.2)
      · rw [if_neg cc]
        show Ex 24 21 _ [.inl 0] _ _ _
        rw [b24_21, if_pos rfl]
        exact unk (fun z => cc z.2.2)
    · rw [if_neg cb]
      show Ex 24 13 _ [.inl 0] _ _ _
      rw [b24_13, if_pos rfl]
      exact unk (fun z => cb z.2.1)
  · rw [if_neg ca]
    show Ex 24 5 _ [.inl 0] _ _ _
    rw [b24_5, if_pos rfl]
    exact unk (fun z => ca z.1)
end ADD
