/-! drag, strength, take, factor, edge, told, move, settle -/
noncomputable def aDrag (g : Sg) (x v : Int) : Int × Sg := @ite (Int × Sg) (isW g x) (Classical.propDecidable _) (if -1000 ≤ v ∧ v ≤ 1000 then (@ite (Int × Sg) (g.2.2.2.1 x.toNat = 0 ∧ (sC g).2.2.1 x.toNat = 0 ∧ ¬ sSat (setC g (cNu (sC g) x.toNat v))) (Classical.propDecidable _) (-2000000005, setQ g (lq (setC g (cNu (sC g) x.toNat v)))) ((sC g).2.2.2.2.1 x.toNat, setC g (cNu (sC g) x.toNat v))) else (-2000000002, g)) (-2000000001, g)
noncomputable def aStr (g : Sg) (x l v : Int) : Int × Sg := @ite (Int × Sg) (isW g x) (Classical.propDecidable _) (if 0 ≤ l ∧ l ≤ 3 ∧ 1 ≤ v ∧ v ≤ 9 then (@ite (Int × Sg) (g.2.2.2.1 x.toNat = 0 ∧ l = 0 ∧ ¬ sSat (setC g (cStr (sC g) x.toNat l v))) (Classical.propDecidable _) (-2000000005, setQ g (lq (setC g (cStr (sC g) x.toNat l v)))) (1, setC g (cStr (sC g) x.toNat l v))) else (-2000000002, g)) (-2000000001, g)
noncomputable def aTake (g : Sg) (x : Int) : Int × Sg := @ite (Int × Sg) (isW g x) (Classical.propDecidable _) ((nth (up1 g.2.2.1 x.toNat 0) 9 : Nat), setTh g x.toNat 0) (-2000000001, g)
def aFac (g : Sg) (e f : Int) : Int × Sg := if (0 ≤ e ∧ e < 5) ∧ -3 ≤ f ∧ f ≤ 3 then (g.2.1 e.toNat, setF g (up1 g.2.1 e.toNat f)) else (-2000000002, g)
def setE (g : Sg) (x : Int) : Sg := (g.1 + 1, g.2.1, g.2.2.1, g.2.2.2.1, g.2.2.2.2.1, cSt (sC g) (up1 (sC g).2.2.2.2.2 g.1 x))
def aEdge (g : Sg) (x : Int) : Int × Sg := if -100000 ≤ x ∧ x ≤ 100000 then (if g.1 < 5 then ((g.1 : Int), setE g x) else (-2000000004, g)) else (-2000000002, g)
noncomputable def aTold (g : Sg) (x y : Int) : Int := @ite Int (isW g x) (Classical.propDecidable _) (if y = 0 then (sC g).2.1 x.toNat else if y = 1 then (sC g).2.2.1 x.toNat else if y = 2 then (sC g).2.2.2.1 x.toNat else if y = 3 then (sC g).2.2.2.2.1 x.toNat else if y = 4 then g.2.2.2.1 x.toNat else if 5 ≤ y ∧ y ≤ 9 then (sC g).1 x.toNat (y - 5).toNat else -2000000002) (-2000000001)
def aMove (g : Sg) (e v : Int) : Int × Sg := if 0 ≤ e ∧ e < g.1 then (if -100000 ≤ v ∧ v ≤ 100000 then ((sC g).2.2.2.2.2 e.toNat, setC g (cSt (sC g) (up1 (sC g).2.2.2.2.2 e.toNat v))) else (-2000000002, g)) else (-2000000001, g)
section CHH
variable {sa sb : Nat} {iv : mIv} {Q : Option mV → mIv → mRv → Prop} {g : Sg}
theorem sB_nu {w : Nat} {x : Int} (hB : sB g) (hx : -1000 ≤ x ∧ x ≤ 1000) : sB (setC g (cNu (sC g) w x)) := by
  obtain ⟨⟨b1, b2, b3, b4⟩, h2, h3⟩ := hB
  refine ⟨⟨b1, b2, fun v hv => ?_, b4⟩, h2, h3⟩
  obtain ⟨q1, q2, q3, q4⟩ := b3 v hv
  refine ⟨q1, q2, q3, ?_⟩
  show -1000 ≤ up1 (sC g).2.2.2.2.1 w x v ∧ up1 (sC g).2.2.2.2.1 w x v ≤ 1000
  unfold up1; split
  · exact hx
  · exact q4
theorem sB_str {w : Nat} {l x : Int} (hB : sB g) (hl : 0 ≤ l ∧ l ≤ 3) (hx : 1 ≤ x ∧ x ≤ 9) : sB (setC g (cStr (sC g) w l x)) := by
  obtain ⟨⟨b1, b2, b3, b4⟩, h2, h3⟩ := hB
  refine ⟨⟨b1, b2, fun v hv => ?_, b4⟩, h2, fun v hv => ?_⟩
  · obtain ⟨q1, q2, q3, q4⟩ := b3 v hv
    refine ⟨q1, ?_, ?_, q4⟩
    · show 0 ≤ up1 (sC g).2.2.1 w l v ∧ up1 (sC g).2.2.1 w l v ≤ 3
      unfold up1; split
      · exact hl
      · exact q2
    · show 0 ≤ up1 (sC g).2.2.2.1 w x v ∧ up1 (sC g).2.2.2.1 w x v ≤ 9
      unfold up1; split
      · omega
      · exact q3
  · obtain ⟨q1, q2, q3⟩ := h3 v hv
    refine ⟨q1, q2, fun z => ?_⟩
    show 1 ≤ up1 (sC g).2.2.2.1 w x v
    unfold up1; split
    · omega
    · exact q3 z
theorem c27 {x y : Int} (hB : sB g) (hSat : sSat g) (h : Rc iv sa sb g) (hk : ∀ (iv' : mIv) (sa' sb' : Nat), frM iv iv' → Rc iv' sa' sb' (aDrag g x y).2 → Q (vI (aDrag g x y).1) iv' (RV sa' sb')) : Ex 27 0 [vR 0, vI x, vI y, none, none] [] iv (RV sa sb) Q := by
  have hr := hk iv sa sb (fun _ _ _ => rfl)
  have hS := h.1
  have ha := hS.a
  have hb := hS.b
  unfold aDrag at hk hr
  rw [b27_0]
  refine m44c h.2.1 (fun c => ?_) (fun c => ?_)
  · rw [if_pos c] at hk hr
    show Ex 27 5 _ [.inl 1] _ _ _
    rw [b27_5, if_neg (by omega), b27_11, m40 (by omega)]
    by_cases cy : -1000 ≤ y ∧ y ≤ 1000
    · rw [if_pos cy]
      rw [if_pos cy] at hk
      show Ex 27 18 _ [.inl 1] _ _ _
      obtain ⟨w, hwe⟩ : ∃ w : Nat, x = w := ⟨x.toNat, by have := c.1; omega⟩
      subst hwe
      have hw : w < 9 := by have := c.2.1; omega
      rw [Int.toNat_natCast] at hk
      obtain ⟨a0, a1, a2, a3, a4, a5, a6⟩ := h.2.1.2.2.2 w hw
      have hth : g.2.2.1 w ≠ 0 := by have := c.2.2; rw [Int.toNat_natCast] at this; exact this
      rw [b27_18, if_neg (by omega), b27_24 (by omega) (by omega), Int.toNat_natCast, a5]
      have f1 : ∀ p j, ¬ (p = 6 + 2 * w ∧ j = 5) → st2 iv (6 + 2 * w) 5 y p j = iv p j := fun p j hp => by unfold st2; rw [if_neg hp]
      have hW1 : Wc (st2 iv (6 + 2 * w) 5 y) (setC g (cNu (sC g) w y)) := by
        refine h.2.1.wish (k := w) (fun p j _ n1 n2 _ _ _ => f1 p j (by omega)) rfl ?_ rfl rfl (fun v hv hne => ?_) (fun _ => ?_)
        · rw [f1 0 6 (by omega)]; exact h.2.1.2.1
        · show (g.2.2.1 v, g.2.2.2.1 v, (sC g).2.1 v, (sC g).2.2.1 v, (sC g).2.2.2.1 v, up1 (sC g).2.2.2.2.1 w y v, _) = _
          rw [up1_n _ _ hne]; rfl
        · show _ = g.2.2.1 w ∧ _ = g.2.2.2.1 w ∧ _ = (sC g).2.1 w ∧ _ = (sC g).2.2.1 w ∧ _ = (sC g).2.2.2.1 w ∧ _ = up1 (sC g).2.2.2.2.1 w y w ∧ _
          rw [f1 _ 0 (by omega), f1 _ 2 (by omega), f1 _ 3 (by omega), f1 _ 4 (by omega), f1 _ 1 (by omega), st2_eq, up1_e]
          exact ⟨a0, a1, a2, a3, a4, rfl, fun e he => by rw [f1 _ e (by omega)]; exact a6 e he⟩
      have hB1 : sB (setC g (cNu (sC g) w y)) := sB_nu hB cy
      have s1' : solB (st2 iv (6 + 2 * w) 5 y) 24 := h.2.2.1.fr (b := 24) (fun p j q1 q2 => st2_ne (by omega))
      have s2' : solB (st2 iv (6 + 2 * w) 5 y) 45 := h.2.2.2.1.fr (b := 24) (fun p j q1 q2 => st2_ne (by omega))
      by_cases d : (sC g).2.2.2.2.1 w = y
      · have d' : g.2.2.2.2.2.2.2.2.2.1 w = y := d
        rw [if_pos d', b27_65 hw]
        have hself : setC g (cNu (sC g) w y) = g := by unfold setC cNu; rw [← d, up1_s]
        have hcond : ¬ (g.2.2.2.1 w = 0 ∧ (sC g).2.2.1 w = 0 ∧ ¬ sSat (setC g (cNu (sC g) w y))) := fun z => z.2.2 (by rw [hself]; exact hSat)
        have := hk (st2 iv (6 + 2 * w) 5 y) sa sb (fun p j hp => st2_ne (by omega))
        rw [if_neg hcond] at this
        refine this ?_
        show Rc _ sa sb (setC g (cNu (sC g) w y))
        rw [hself]
        have e : st2 iv (6 + 2 * w) 5 y = iv := by
          funext p j
          unfold st2
          split
          · rename_i z; rw [z.1, z.2, a5, d']
          · rfl
        rw [e]; exact h
      · have d' : ¬ g.2.2.2.2.2.2.2.2.2.1 w = y := d
        rw [if_neg d', b27_48 hw]
        refine m52c hS hB1 hW1 s1' s2' hw (fun hsat iv' sa' sb' f' h' => ?_) (fun hc hns iv' f' h6 s' => ?_)
        · show Ex 27 53 _ [.inl 0] _ _ _
          rw [b27_53 hw, if_pos rfl, b27_65 hw]
          have hcond : ¬ (g.2.2.2.1 w = 0 ∧ (sC g).2.2.1 w = 0 ∧ ¬ sSat (setC g (cNu (sC g) w y))) := fun z => z.2.2 (hsat ⟨hth, z.1, z.2.1⟩)
          have := hk iv' sa' sb' (fun p j hp => by rw [f' p j hp, st2_ne (by omega)])
          rw [if_neg hcond] at this
          exact this h'
        · show Ex 27 53 _ [.inl 1] _ _ _
          rw [b27_53 hw, if_neg (by omega), b27_56 hw]
          have hcond : g.2.2.2.1 w = 0 ∧ (sC g).2.2.1 w = 0 ∧ ¬ sSat (setC g (cNu (sC g) w y)) := ⟨hc.2.1, hc.2.2, hns⟩
          have := hk (st2 iv' (6 + 2 * w) 5 ((sC g).2.2.2.2.1 w)) sa sb (fun p j hp => by rw [st2_ne (by omega), f' p j (by omega) (by omega), st2_ne (by omega)])
          rw [if_pos hcond] at this
          refine this ?_
          show Rc _ sa sb (setQ g (lq (setC g (cNu (sC g) w y))))
          have fb : ∀ p j, p < sb ∨ sb + 20 < p → ¬ (p = 0 ∧ j = 6) → st2 iv' (6 + 2 * w) 5 ((sC g).2.2.2.2.1 w) p j = iv p j := fun p j hp hn => by
            by_cases z : p = 6 + 2 * w ∧ j = 5
            · rw [z.1, z.2, st2_eq, a5]
            · unfold st2
              rw [if_neg z, f' p j hp hn]
              exact f1 p j z
          refine h.back (fun p j q1 q2 q3 => fb p j q3 (by omega)) (fb 0 9 (by omega) (by omega)) (s'.fr (b := 24) (fun p j q1 q2 => st2_ne (by omega))) ?_ rfl rfl (cEq_r _ _ _)
          refine h.2.1.wish (k := w) (fun p j q1 _ _ _ _ q => fb p j (by omega) (by omega)) rfl ?_ rfl rfl (fun _ _ _ => rfl) (fun _ => ?_)
          · rw [st2_ne (by omega)]; exact h6
          · rw [fb _ 0 (by omega) (by omega), fb _ 1 (by omega) (by omega), fb _ 2 (by omega) (by omega), fb _ 3 (by omega) (by omega), fb _ 4 (by omega) (by omega), fb _ 5 (by omega) (by omega)]
            exact ⟨a0, a1, a2, a3, a4, a5, fun e he => by rw [fb _ e (by omega) (by omega)]; exact a6 e he⟩
    · rw [if_neg cy]
      rw [if_neg cy] at hr
      show Ex 27 18 _ [.inl 0] _ _ _
      rw [b27_18, if_pos rfl, b27_21]
      exact hr h
  · rw [if_neg c] at hr
    show Ex 27 5 _ [.inl 0] _ _ _
    rw [b27_5, if_pos rfl, b27_8]
    exact hr h
theorem c28 {x y u : Int} (hB : sB g) (h : Rc iv sa sb g) (hk : ∀ (iv' : mIv) (sa' sb' : Nat), frM iv iv' → Rc iv' sa' sb' (aStr g x y u).2 → Q (vI (aStr g x y u).1) iv' (RV sa' sb')) : Ex 28 0 [vR 0, vI x, vI y, vI u, none, none, none] [] iv (RV sa sb) Q := by
  have hr := hk iv sa sb (fun _ _ _ => rfl)
  have hS := h.1
  have ha := hS.a
  have hb := hS.b
  unfold aStr at hk hr
  rw [b28_0]
  refine m44c h.2.1 (fun c => ?_) (fun c => ?_)
  · rw [if_pos c] at hk hr
    show Ex 28 5 _ [.inl 1] _ _ _
    rw [b28_5, if_neg (by omega), b28_11, m41]
    by_cases cy : 0 ≤ y ∧ y ≤ 3 ∧ 1 ≤ u ∧ u ≤ 9
    · rw [if_pos cy]
      rw [if_pos cy] at hk
      show Ex 28 16 _ [.inl 1] _ _ _
      obtain ⟨w, hwe⟩ : ∃ w : Nat, x = w := ⟨x.toNat, by have := c.1; omega⟩
      subst hwe
      have hw : w < 9 := by have := c.2.1; omega
      rw [Int.toNat_natCast] at hk
      obtain ⟨a0, a1, a2, a3, a4, a5, a6⟩ := h.2.1.2.2.2 w hw
      have hth : g.2.2.1 w ≠ 0 := by have := c.2.2; rw [Int.toNat_natCast] at this; exact this
      rw [b28_16, if_neg (by omega), b28_22 (by omega) (by omega), Int.toNat_natCast, a3, a4]
      have f1 : ∀ p j, ¬ (p = 6 + 2 * w ∧ (j = 3 ∨ j = 4)) → st2 (st2 iv (6 + 2 * w) 3 y) (6 + 2 * w) 4 u p j = iv p j := fun p j hp => by unfold st2; rw [if_neg (fun z => hp ⟨z.1, Or.inr z.2⟩), if_neg (fun z => hp ⟨z.1, Or.inl z.2⟩)]
      generalize hI1 : st2 (st2 iv (6 + 2 * w) 3 y) (6 + 2 * w) 4 u = iv1 at f1
      have g3 : iv1 (6 + 2 * w) 3 = y := by rw [← hI1, st2_nk (by omega), st2_eq]
      have g4 : iv1 (6 + 2 * w) 4 = u := by rw [← hI1, st2_eq]
      have hW1 : Wc iv1 (setC g (cStr (sC g) w y u)) := by
        refine h.2.1.wish (k := w) (fun p j _ n1 n2 _ _ _ => f1 p j (by omega)) rfl ?_ rfl rfl (fun v hv hne => ?_) (fun _ => ?_)
        · rw [f1 0 6 (by omega)]; exact h.2.1.2.1
        · show (g.2.2.1 v, g.2.2.2.1 v, (sC g).2.1 v, up1 (sC g).2.2.1 w y v, up1 (sC g).2.2.2.1 w u v, _) = _
          rw [up1_n _ _ hne, up1_n _ _ hne]; rfl
        · show _ = g.2.2.1 w ∧ _ = g.2.2.2.1 w ∧ _ = (sC g).2.1 w ∧ _ = up1 (sC g).2.2.1 w y w ∧ _ = up1 (sC g).2.2.2.1 w u w ∧ _ = (sC g).2.2.2.2.1 w ∧ _
          rw [f1 _ 0 (by omega), f1 _ 2 (by omega), f1 _ 5 (by omega), f1 _ 1 (by omega), g3, g4, up1_e, up1_e]
          exact ⟨a0, a1, a2, rfl, rfl, a5, fun e he => by rw [f1 _ e (by omega)]; exact a6 e he⟩
      have hB1 : sB (setC g (cStr (sC g) w y u)) := sB_str hB ⟨cy.1, cy.2.1⟩ cy.2.2
      have s1' : solB iv1 24 := h.2.2.1.fr (b := 24) (fun p j q1 q2 => f1 p j (by omega))
      have s2' : solB iv1 45 := h.2.2.2.1.fr (b := 24) (fun p j q1 q2 => f1 p j (by omega))
      have hle : (setC g (cStr (sC g) w y u)).2.2.2.2.2.2.2.1 w = y := up1_e _ _ _
      refine m52c hS hB1 hW1 s1' s2' hw (fun hsat iv' sa' sb' f' h' => ?_) (fun hc hns iv' f' h6 s' => ?_)
      · show Ex 28 62 _ [.inl 0] _ _ _
        rw [b28_62 hw, if_pos rfl, b28_82 hw]
        have hcond : ¬ (g.2.2.2.1 w = 0 ∧ y = 0 ∧ ¬ sSat (setC g (cStr (sC g) w y u))) := fun z => z.2.2 (hsat ⟨hth, z.1, by show (setC g (cStr (sC g) w y u)).2.2.2.2.2.2.2.1 w = 0; rw [hle]; exact z.2.1⟩)
        have := hk iv' sa' sb' (fun p j hp => by rw [f' p j hp, f1 p j (by omega)])
        rw [if_neg hcond] at this
        exact this h'
      · show Ex 28 62 _ [.inl 1] _ _ _
        rw [b28_62 hw, if_neg (by omega), b28_65 hw]
        have hc2 : (setC g (cStr (sC g) w y u)).2.2.2.2.2.2.2.1 w = 0 := hc.2.2
        rw [hle] at hc2
        have hcond : g.2.2.2.1 w = 0 ∧ y = 0 ∧ ¬ sSat (setC g (cStr (sC g) w y u)) := ⟨hc.2.1, hc2, hns⟩
        have fb : ∀ p j, p < sb ∨ sb + 20 < p → ¬ (p = 0 ∧ j = 6) → st2 (st2 iv' (6 + 2 * w) 3 ((sC g).2.2.1 w)) (6 + 2 * w) 4 ((sC g).2.2.2.1 w) p j = iv p j := fun p j hp hn => by
          by_cases z : p = 6 + 2 * w ∧ j = 4
          · rw [z.1, z.2, st2_eq, a4]
          · by_cases z3 : p = 6 + 2 * w ∧ j = 3
            · rw [z3.1, z3.2, st2_nk (by omega), st2_eq, a3]
            · unfold st2
              rw [if_neg z, if_neg z3, f' p j hp hn]
              exact f1 p j (fun y => by omega)
        have := hk (st2 (st2 iv' (6 + 2 * w) 3 ((sC g).2.2.1 w)) (6 + 2 * w) 4 ((sC g).2.2.2.1 w)) sa sb (fun p j hp => fb p j (by omega) (by omega))
        rw [if_pos hcond] at this
        refine this ?_
        show Rc _ sa sb (setQ g (lq (setC g (cStr (sC g) w y u))))
        refine h.back (fun p j q1 q2 q3 => fb p j q3 (by omega)) (fb 0 9 (by omega) (by omega)) (s'.fr (b := 24) (fun p j q1 q2 => by rw [st2_ne (by omega), st2_ne (by omega)])) ?_ rfl rfl (cEq_r _ _ _)
        refine h.2.1.wish (k := w) (fun p j q1 _ _ _ _ q => fb p j (by omega) (by omega)) rfl ?_ rfl rfl (fun _ _ _ => rfl) (fun _ => ?_)
        · rw [st2_ne (by omega), st2_ne (by omega)]; exact h6
        · rw [fb _ 0 (by omega) (by omega), fb _ 1 (by omega) (by omega), fb _ 2 (by omega) (by omega), fb _ 3 (by omega) (by omega), fb _ 4 (by omega) (by omega), fb _ 5 (by omega) (by omega)]
          exact ⟨a0, a1, a2, a3, a4, a5, fun e he => by rw [fb _ e (by omega) (by omega)]; exact a6 e he⟩
    · rw [if_neg cy]
      rw [if_neg cy] at hr
      show Ex 28 16 _ [.inl 0] _ _ _
      rw [b28_16, if_pos rfl, b28_19]
      exact hr h
  · rw [if_neg c] at hr
    show Ex 28 5 _ [.inl 0] _ _ _
    rw [b28_5, if_pos rfl, b28_8]
    exact hr h
theorem c25 {x : Int} (hB : sB g) (h : Rc iv sa sb g) (hk : ∀ iv' : mIv, frM iv iv' → Rc iv' sa sb (aTake g x).2 → Q (vI (aTake g x).1) iv' (RV sa sb)) : Ex 25 0 [vR 0, vI x] [] iv (RV sa sb) Q := by
  have hr := hk iv (fun _ _ _ => rfl)
  have hS := h.1
  unfold aTake at hk hr
  rw [b25_0]
  refine m44c h.2.1 (fun c => ?_) (fun c => ?_)
  · rw [if_pos c] at hk
    show Ex 25 5 _ [.inl 1] _ _ _
    obtain ⟨w, hwe⟩ : ∃ w : Nat, x = w := ⟨x.toNat, by have := c.1; omega⟩
    subst hwe
    have hw : w < 9 := by have := c.2.1; omega
    rw [Int.toNat_natCast] at hk
    obtain ⟨a0, a1, a2, a3, a4, a5, a6⟩ := h.2.1.2.2.2 w hw
    rw [b25_5, if_neg (by omega), b25_11 (by omega) (by omega), Int.toNat_natCast]
    have f1 : ∀ p j, ¬ (p = 6 + 2 * w ∧ j = 0) → ¬ (p = 0 ∧ j = 9) → st2 (st2 iv (6 + 2 * w) 0 0) 0 9 0 p j = iv p j := fun p j hp h9 => by unfold st2; rw [if_neg h9, if_neg hp]
    generalize hI1 : st2 (st2 iv (6 + 2 * w) 0 0) 0 9 0 = iv1 at f1
    have g0 : iv1 (6 + 2 * w) 0 = 0 := by rw [← hI1, st2_ne (by omega), st2_eq]
    have g9 : iv1 0 9 = 0 := by rw [← hI1, st2_eq]
    have hW1 : Wc iv1 (setTh g w 0) := by
      refine h.2.1.wish (k := w) (fun p j _ n1 n2 _ _ _ => f1 p j (by omega) (by omega)) rfl ?_ rfl rfl (fun v hv hne => ?_) (fun _ => ?_)
      · rw [f1 0 6 (by omega) (by omega)]; exact h.2.1.2.1
      · show (up1 g.2.2.1 w 0 v, _) = _
        rw [up1_n _ _ hne]; rfl
      · show _ = up1 g.2.2.1 w 0 w ∧ _
        rw [f1 _ 1 (by omega) (by omega), f1 _ 2 (by omega) (by omega), f1 _ 3 (by omega) (by omega), f1 _ 4 (by omega) (by omega), f1 _ 5 (by omega) (by omega), g0, up1_e]
        exact ⟨rfl, a1, a2, a3, a4, a5, fun e he => by rw [f1 _ e (by omega) (by omega)]; exact a6 e he⟩
    rw [m48]
    show Ex 25 30 _ [.inl _] _ _ _
    rw [b25_30, nth_congr (f' := up1 g.2.2.1 w 0) (fun l hl => by rw [(hW1.2.2.2 l hl).1]; exact Iff.rfl)]
    refine hk iv1 (fun p j hp => f1 p j (by omega) (by omega)) ?_
    exact Rc_un hS hW1 (h.2.2.1.fr (b := 24) (fun p j q1 q2 => f1 p j (by omega) (by omega))) (h.2.2.2.1.fr (b := 24) (fun p j q1 q2 => f1 p j (by omega) (by omega))) g9
  · rw [if_neg c] at hr
    show Ex 25 5 _ [.inl 0] _ _ _
    rw [b25_5, if_pos rfl, b25_8]
    exact hr h
theorem c22 {x y : Int} (h : Rc iv sa sb g) (hk : ∀ iv' : mIv, frM iv iv' → Rc iv' sa sb (aFac g x y).2 → Q (vI (aFac g x y).1) iv' (RV sa sb)) : Ex 22 0 [vR 0, vI x, vI y, none] [] iv (RV sa sb) Q := by
  have hr := hk iv (fun _ _ _ => rfl)
  unfold aFac at hk hr
  have bad : ¬ ((0 ≤ x ∧ x < 5) ∧ -3 ≤ y ∧ y ≤ 3) → Ex 22 17 [vR 0, vI x, vI y, none] [] iv (RV sa sb) Q := fun z => by
    rw [b22_17]
    rw [if_neg z] at hr
    exact hr h
  rw [b22_0]
  by_cases c1 : x < 0
  · rw [if_pos c1]; exact bad (fun z => by omega)
  · rw [if_neg c1, b22_4]
    by_cases c2 : x < 5
    · rw [if_pos c2, b22_9, m40 (by omega)]
      by_cases c3 : -3 ≤ y ∧ y ≤ 3
      · rw [if_pos c3]
        show Ex 22 14 _ [.inl 1] _ _ _
        rw [b22_14, if_neg (by omega), b22_20 (by omega) c2]
        rw [if_pos ⟨⟨by omega, c2⟩, c3⟩] at hk
        obtain ⟨e, hee⟩ : ∃ e : Nat, x = e := ⟨x.toNat, by omega⟩
        subst hee
        rw [Int.toNat_natCast] at hk ⊢
        have he : e < 5 := by omega
        obtain ⟨hS, ⟨h1, h2, h3, h4⟩, s1, s2, hset⟩ := h
        have ha := hS.a
        have f1 : ∀ p j, p ≠ 2 → st2 iv 2 e y p j = iv p j := fun p j hp => st2_ne hp
        rw [(h3 e he).2]
        refine hk (st2 iv 2 e y) (fun p j hp => f1 p j (by omega)) ⟨hS, ⟨by rw [f1 _ _ (by omega)]; exact h1, by rw [f1 _ _ (by omega)]; exact h2, fun t ht => ⟨by rw [f1 _ _ (by omega)]; exact (h3 t ht).1, ?_⟩, fun w hw => ?_⟩, s1.fr (b := 24) (fun p j q1 q2 => f1 p j (by omega)), s2.fr (b := 24) (fun p j q1 q2 => f1 p j (by omega)), ?_⟩
        · show _ = up1 g.2.1 e y t
          by_cases z : t = e
          · rw [z, st2_eq, up1_e]
          · rw [st2_nk z, up1_n _ _ z]; exact (h3 t ht).2
        · rw [f1 _ _ (by omega), f1 _ _ (by omega), f1 _ _ (by omega), f1 _ _ (by omega), f1 _ _ (by omega), f1 _ _ (by omega)]
          obtain ⟨a0, a1, a2, a3, a4, a5, a6⟩ := h4 w hw
          exact ⟨a0, a1, a2, a3, a4, a5, fun e he => by rw [f1 _ _ (by omega)]; exact a6 e he⟩
        · rw [f1 0 9 (by omega)]
          rcases hset with z | z
          · exact Or.inl z
          · exact Or.inr ⟨z.1, z.2.fr (fun p j q1 q2 => f1 p j (by omega))⟩
      · rw [if_neg c3]
        show Ex 22 14 _ [.inl 0] _ _ _
        rw [b22_14, if_pos rfl]
        exact bad (fun z => c3 z.2)
    · rw [if_neg c2]; exact bad (fun z => by omega)
theorem c21 {x : Int} (hB : sB g) (h : Rc iv sa sb g) (hk : ∀ iv' : mIv, frM iv iv' → Rc iv' sa sb (aEdge g x).2 → Q (vI (aEdge g x).1) iv' (RV sa sb)) : Ex 21 0 [vR 0, vI x] [] iv (RV sa sb) Q := by
  have hr := hk iv (fun _ _ _ => rfl)
  unfold aEdge at hk hr
  rw [b21_0, m40 (by omega)]
  by_cases c : -100000 ≤ x ∧ x ≤ 100000
  · rw [if_pos c]
    rw [if_pos c] at hk hr
    show Ex 21 6 _ [.inl 1] _ _ _
    rw [b21_6, if_neg (by omega), b21_12, h.2.1.1]
    by_cases d : g.1 < 5
    · rw [if_pos (by omega), b21_23 (by rw [h.2.1.1]; omega) (by rw [h.2.1.1]; omega), h.2.1.1, Int.toNat_natCast]
      rw [if_pos d] at hk
      obtain ⟨hS, ⟨h1, h2, h3, h4⟩, s1, s2, hset⟩ := h
      have e5 : st2 iv 1 g.1 x 0 5 = g.1 := by rw [st2_ne (by omega)]; exact h1
      rw [e5, w32_of (x := (g.1 : Int) + 1) (by omega) (by omega)]
      have f1 : ∀ p j, ¬ (p = 1 ∧ j = g.1) → ¬ (p = 0 ∧ (j = 5 ∨ j = 9)) → st2 (st2 (st2 iv 1 g.1 x) 0 5 ((g.1 : Int) + 1)) 0 9 0 p j = iv p j := fun p j n1 n2 => by
        unfold st2
        rw [if_neg (fun z => n2 ⟨z.1, Or.inr z.2⟩), if_neg (fun z => n2 ⟨z.1, Or.inl z.2⟩), if_neg n1]
      have g5 : st2 (st2 (st2 iv 1 g.1 x) 0 5 ((g.1 : Int) + 1)) 0 9 0 0 5 = (g.1 : Int) + 1 := by rw [st2_nk (by omega), st2_eq]
      have g1 : st2 (st2 (st2 iv 1 g.1 x) 0 5 ((g.1 : Int) + 1)) 0 9 0 1 g.1 = x := by rw [st2_ne (by omega), st2_ne (by omega), st2_eq]
      have g9 : st2 (st2 (st2 iv 1 g.1 x) 0 5 ((g.1 : Int) + 1)) 0 9 0 0 9 = 0 := by rw [st2_eq]
      rw [g5, w32_of (by omega) (by omega), show (g.1 : Int) + 1 - 1 = g.1 by omega]
      generalize st2 (st2 (st2 iv 1 g.1 x) 0 5 ((g.1 : Int) + 1)) 0 9 0 = iv1 at f1 g5 g1 g9
      refine hk iv1 (fun p j hp => f1 p j (by omega) (by omega)) (Rc_un hS ⟨?_, ?_, fun e he => ⟨?_, ?_⟩, fun w hw => ?_⟩ (s1.fr (b := 24) (fun p j q1 q2 => f1 p j (by omega) (by omega))) (s2.fr (b := 24) (fun p j q1 q2 => f1 p j (by omega) (by omega))) g9)
      · rw [g5]
        show _ = ((g.1 + 1 : Nat) : Int)
        omega
      · rw [f1 _ _ (by omega) (by omega)]; exact h2
      · show _ = up1 (sC g).2.2.2.2.2 g.1 x e
        by_cases z : e = g.1
        · rw [z, g1, up1_e]
        · rw [up1_n _ _ z, f1 _ _ (by omega) (by omega)]; exact (h3 e he).1
      · rw [f1 _ _ (by omega) (by omega)]; exact (h3 e he).2
      · rw [f1 _ _ (by omega) (by omega), f1 _ _ (by omega) (by omega), f1 _ _ (by omega) (by omega), f1 _ _ (by omega) (by omega), f1 _ _ (by omega) (by omega), f1 _ _ (by omega) (by omega)]
        obtain ⟨a0, a1, a2, a3, a4, a5, a6⟩ := h4 w hw
        exact ⟨a0, a1, a2, a3, a4, a5, fun e he => by rw [f1 _ _ (by omega) (by omega)]; exact a6 e he⟩
    · rw [if_neg (by omega), b21_20]
      rw [if_neg d] at hr
      exact hr h
  · rw [if_neg c]
    rw [if_neg c] at hr
    show Ex 21 6 _ [.inl 0] _ _ _
    rw [b21_6, if_pos rfl, b21_9]
    exact hr h
theorem c29 {x y : Int} (hB : sB g) (h : Rc iv sa sb g) (hr : Q (vI (aTold g x y)) iv (RV sa sb)) : Ex 29 0 [vR 0, vI x, vI y, none] [] iv (RV sa sb) Q := by
  unfold aTold at hr
  rw [b29_0]
  refine m44c h.2.1 (fun c => ?_) (fun c => ?_)
  · rw [if_pos c] at hr
    show Ex 29 5 _ [.inl 1] _ _ _
    obtain ⟨w, hwe⟩ : ∃ w : Nat, x = w := ⟨x.toNat, by have := c.1; omega⟩
    subst hwe
    have hw : w < 9 := by have := c.2.1; omega
    rw [Int.toNat_natCast] at hr
    obtain ⟨a0, a1, a2, a3, a4, a5, a6⟩ := h.2.1.2.2.2 w hw
    have hhd := (hB.2.2 w hw).2.1
    rw [b29_5, if_neg (by omega), b29_11]
    by_cases c1 : y < 0
    · rw [if_pos c1, b29_21]
      rw [if_neg (by omega), if_neg (by omega), if_neg (by omega), if_neg (by omega), if_neg (by omega), if_neg (by omega)] at hr
      exact hr
    · rw [if_neg c1, b29_15]
      by_cases c2 : y < 10
      · rw [if_pos c2, b29_24 (by omega) (by omega), Int.toNat_natCast]
        refine ⟨fun z => ?_, fun z => ?_, fun z => ?_, fun z => ?_, fun z => ?_, fun z => ?_, trivial⟩
        · have e5 : w32 (y - 5) = y - 5 := w32_of (by omega) (by omega)
          rw [b29_101 hw (by rw [e5]; omega) (by rw [e5]; omega), e5, a6 _ (by omega)]
          rw [if_neg (by omega), if_neg (by omega), if_neg (by omega), if_neg (by omega), if_neg (by omega), if_pos (by omega)] at hr
          exact hr
        · rw [b29_68 hw, a2]
          rw [if_pos z] at hr
          exact hr
        · rw [b29_73 hw, a3]
          rw [if_neg (by omega), if_pos z] at hr
          exact hr
        · rw [b29_78 hw, a4]
          rw [if_neg (by omega), if_neg (by omega), if_pos z] at hr
          exact hr
        · rw [b29_83 hw, a5]
          rw [if_neg (by omega), if_neg (by omega), if_neg (by omega), if_pos z] at hr
          exact hr
        · rw [if_neg (by omega), if_neg (by omega), if_neg (by omega), if_neg (by omega), if_pos z] at hr
          rw [b29_88 hw, a1]
          rcases hhd with q | q
          · rw [if_pos q, b29_99 hw, b29_100 hw]; rw [q] at hr; exact hr
          · rw [if_neg (by omega), b29_95 hw, b29_100 hw]; rw [q] at hr; exact hr
      · rw [if_neg c2, b29_21]
        rw [if_neg (by omega), if_neg (by omega), if_neg (by omega), if_neg (by omega), if_neg (by omega), if_neg (by omega)] at hr
        exact hr
  · rw [if_neg c] at hr
    show Ex 29 5 _ [.inl 0] _ _ _
    rw [b29_5, if_pos rfl, b29_8]
    exact hr
/-- a stay that is told anew -/
theorem Wc.stay {iv' : mIv} {st : Nat → Int} (h : Wc iv g) (f : ∀ p j, p ≠ 1 → p < 24 → ¬ (p = 0 ∧ j = 9) → p ≠ 4 → iv' p j = iv p j) (e : ∀ t, t < 5 → iv' 1 t = st t) : Wc iv' (setC g (cSt (sC g) st)) := by
  obtain ⟨h1, h2, h3, h4⟩ := h
  refine ⟨by rw [f _ _ (by omega) (by omega) (by omega) (by omega)]; exact h1, by rw [f _ _ (by omega) (by omega) (by omega) (by omega)]; exact h2, fun t ht => ⟨e t ht, by rw [f _ _ (by omega) (by omega) (by omega) (by omega)]; exact (h3 t ht).2⟩, fun w hw => ?_⟩
  rw [f _ _ (by omega) (by omega) (by omega) (by omega), f _ _ (by omega) (by omega) (by omega) (by omega), f _ _ (by omega) (by omega) (by omega) (by omega), f _ _ (by omega) (by omega) (by omega) (by omega), f _ _ (by omega) (by omega) (by omega) (by omega), f _ _ (by omega) (by omega) (by omega) (by omega)]
  obtain ⟨a0, a1, a2, a3, a4, a5, a6⟩ := h4 w hw
  exact ⟨a0, a1, a2, a3, a4, a5, fun e he => by rw [f _ _ (by omega) (by omega) (by omega) (by omega)]; exact a6 e he⟩
theorem cEq_st {n : Nat} {S : Nat → Bool} {c : Cg} {st : Nat → Int} (h : ∀ e, e < n → c.2.2.2.2.2 e = st e) : cEq n S c (cSt c st) := ⟨fun _ _ _ => ⟨fun _ _ => rfl, rfl, rfl, rfl, rfl⟩, h⟩
theorem c38 {x y : Int} (hB : sB g) (h : Rc iv sa sb g) (hk : ∀ iv' : mIv, frM iv iv' → Rc iv' sa sb (aMove g x y).2 → Q (vI (aMove g x y).1) iv' (RV sa sb)) : Ex 38 0 [vR 0, vI x, vI y, none] [] iv (RV sa sb) Q := by
  have hr := hk iv (fun _ _ _ => rfl)
  unfold aMove at hk hr
  have hn := hB.1.1
  rw [b38_0, m43, h.2.1.1]
  by_cases c : 0 ≤ x ∧ x < (g.1 : Int)
  · rw [if_pos c]
    rw [if_pos c] at hk hr
    show Ex 38 5 _ [.inl 1] _ _ _
    rw [b38_5, if_neg (by omega), b38_11, m40 (by omega)]
    by_cases d : -100000 ≤ y ∧ y ≤ 100000
    · rw [if_pos d]
      rw [if_pos d] at hk
      show Ex 38 17 _ [.inl 1] _ _ _
      obtain ⟨e, hee⟩ : ∃ e : Nat, x = e := ⟨x.toNat, by omega⟩
      subst hee
      have he : e < 5 := by omega
      rw [Int.toNat_natCast] at hk
      rw [b38_17, if_neg (by omega), b38_23 (by omega) (by omega), Int.toNat_natCast]
      obtain ⟨hS, hW, s1, s2, hset⟩ := h
      have ha := hS.a
      have hb := hS.b
      have e1 := (hW.2.2.1 e he).1
      have fin : ∀ z : Int, (z = 0 ∨ (z = 1 ∧ iv 0 9 ≠ 0 ∧ (sC g).2.2.2.2.2 e = y)) → Ex 38 55 [vR 0, vI e, vI y, vI (iv 1 e)] [.inl z, .inr (.inr (some 0))] (st2 iv 1 e y) (RV sa sb) Q := fun z hz => by
        rw [b38_55 (by rcases hz with q | q <;> omega), e1]
        have f1 : ∀ p j, ¬ (p = 1 ∧ j = e) → ¬ (p = 0 ∧ j = 9) → st2 (st2 iv 1 e y) 0 9 z p j = iv p j := fun p j n1 n2 => by unfold st2; rw [if_neg n2, if_neg n1]
        refine hk _ (fun p j hp => f1 p j (by omega) (by omega)) ⟨hS, hW.stay (fun p j n1 _ n2 _ => f1 p j (by omega) n2) (fun t ht => ?_), s1.fr (b := 24) (fun p j q1 q2 => f1 p j (by omega) (by omega)), s2.fr (b := 24) (fun p j q1 q2 => f1 p j (by omega) (by omega)), ?_⟩
        · rw [st2_ne (by omega)]
          by_cases q : t = e
          · rw [q, st2_eq, up1_e]
          · rw [st2_nk q, up1_n _ _ q]; exact (hW.2.2.1 t ht).1
        · rw [st2_eq]
          rcases hz with q | ⟨q1, q2, q3⟩
          · exact Or.inl q
          · refine Or.inr ⟨q1, ?_⟩
            rcases hset with p | p
            · exact absurd p q2
            · have hs := p.2.fr (iv' := st2 (st2 iv 1 e y) 0 9 z) (fun p j q1 q2 => f1 p j (by omega) (by omega))
              exact (cEq_st (fun t ht => by
                by_cases q : t = e
                · rw [q, up1_e]; exact q3
                · rw [up1_n _ _ q])).sol hs
      rw [st2_ne (by omega)]
      by_cases i9 : iv 0 9 = 0
      · rw [if_pos i9, b38_54]; exact fin 0 (Or.inl rfl)
      · rw [if_neg i9, b38_45]
        by_cases q : iv 1 e = y
        · rw [if_pos q, b38_50]; exact fin 1 (Or.inr ⟨rfl, i9, by rw [← e1]; exact q⟩)
        · rw [if_neg q, b38_54]; exact fin 0 (Or.inl rfl)
    · rw [if_neg d]
      rw [if_neg d] at hr
      show Ex 38 17 _ [.inl 0] _ _ _
      rw [b38_17, if_pos rfl, b38_20]
      exact hr h
  · rw [if_neg c]
    rw [if_neg c] at hr
    show Ex 38 5 _ [.inl 0] _ _ _
    rw [b38_5, if_pos rfl, b38_8]
    exact hr h
noncomputable def pxS (g : Sg) (e : Nat) : Int := pix (oX g e) (oD g)
noncomputable def stS (g : Sg) : Nat → Int := fun e => if e < g.1 then pxS g e else (sC g).2.2.2.2.2 e
noncomputable def aSettle (g : Sg) : Int × Sg := @ite (Int × Sg) (∀ e, e < g.1 → -100000 ≤ pxS g e ∧ pxS g e ≤ 100000) (Classical.propDecidable _) ((nth (fun e => if (sC g).2.2.2.2.2 e = pxS g e then 0 else 1) g.1 : Nat), setC g (cSt (sC g) (stS g))) (-2000000003, g)
theorem nth_0 {f : Nat → Int} : ∀ {k : Nat}, nth f k = 0 → ∀ l, l < k → f l = 0
  | 0, _, l, hl => by omega
  | k + 1, h, l, hl => by
    unfold nth at h
    by_cases c : f k = 0
    · rw [if_pos c] at h
      by_cases e : l = k
      · rw [e]; exact c
      · exact nth_0 (k := k) (by omega) l (by omega)
    · rw [if_neg c] at h; omega
theorem c39 (hB : sB g) (h : Rc iv sa sb g) (hk : ∀ iv' : mIv, frM iv iv' → Rc iv' sa sb (aSettle g).2 → Q (vI (aSettle g).1) iv' (RV sa sb)) : Ex 39 0 [vR 0, none, none] [] iv (RV sa sb) Q := by
  have hS := h.1
  have hn := hB.1.1
  have ha := hS.a
  have hb := hS.b
  rw [b39_0]
  refine m51 hB h (fun iv1 f1 h6 h1 hs => ?_)
  show Ex 39 4 _ [] _ _ _
  rw [b39_4]
  have hs0 := hs
  obtain ⟨m, k1, k2, k3, k4⟩ := hs
  have hq := (oP_eq hB.1 (sS_hi g) k2)
  have hpx : ∀ e, e < g.1 → pix (iv1 (sa + 1) e) (iv1 sa 0) = pxS g e := fun e he => hq.2.1 e he
  have hM1 := f1.M hS.a
  -- the second loop
  have two : ∀ ivp : mIv, (∀ p j, p ≠ 4 → ivp p j = iv1 p j) → (∀ e, e < g.1 → ivp 4 e = pxS g e) → (∀ e, e < g.1 → -100000 ≤ pxS g e ∧ pxS g e ≤ 100000) → Ex 39 60 [vR 0, vI g.1, none] [] ivp (RV sa sb) Q := by
    intro ivp fp hp4 hin
    have hk' := fun iv' hf => hk iv' hf
    unfold aSettle at hk'
    rw [if_pos hin] at hk'
    rw [b39_60]
    have loop : ∀ t k : Nat, k + t = g.1 → ∀ ivc : mIv, (∀ p j, p ≠ 1 → ivc p j = ivp p j) → (∀ e, e < 5 → ivc 1 e = if e < k then pxS g e else (sC g).2.2.2.2.2 e) → Ex 39 64 [vR 0, vI (nth (fun e => if (sC g).2.2.2.2.2 e = pxS g e then 0 else 1) k : Nat), vI k] [] ivc (RV sa sb) Q := by
      intro t
      induction t with
      | zero =>
        intro k hkn ivc fc hst
        have ek : k = g.1 := by omega
        rw [ek] at hst ⊢
        have f0 : ∀ p j, p ≠ 1 → p ≠ 4 → ivc p j = iv1 p j := fun p j n1 n4 => by rw [fc p j n1, fp p j n4]
        rw [b39_64, if_neg (by rw [f0 0 5 (by omega) (by omega), h1.2.1.1]; omega), b39_111]
        have h19 : iv1 0 9 = 0 ∨ (iv1 0 9 = 1 ∧ solS (sC g) g.1 (sS g) iv1 sa) := h1.2.2.2.2
        have fin : ∀ z : Int, (z = 0 ∨ (z = 1 ∧ nth (fun e => if (sC g).2.2.2.2.2 e = pxS g e then 0 else 1) g.1 = 0)) → Ex 39 128 [vR 0, vI (nth (fun e => if (sC g).2.2.2.2.2 e = pxS g e then 0 else 1) g.1 : Nat), vI g.1] [.inl z, .inr (.inr (some 0))] ivc (RV sa sb) Q := fun z hz => by
          rw [b39_128 (by rcases hz with q | q <;> omega)]
          have f9 : ∀ p j, p ≠ 1 → p ≠ 4 → ¬ (p = 0 ∧ j = 9) → st2 ivc 0 9 z p j = iv1 p j := fun p j n1 n4 n9 => by unfold st2; rw [if_neg n9, f0 p j n1 n4]
          refine hk' _ (fun p j hp => by rw [f9 p j (by omega) (by omega) (by omega)]; exact hM1 p j hp) ⟨hS, h1.2.1.stay (fun p j n1 _ n2 n4 => f9 p j n1 n4 n2) (fun t ht => ?_), h1.2.2.1.fr (b := 24) (fun p j q1 q2 => f9 p j (by omega) (by omega) (by omega)), h1.2.2.2.1.fr (b := 24) (fun p j q1 q2 => f9 p j (by omega) (by omega) (by omega)), ?_⟩
          · rw [st2_ne (by omega), hst t ht]; rfl
          · rw [st2_eq]
            rcases hz with q | ⟨q1, q2⟩
            · exact Or.inl q
            · refine Or.inr ⟨q1, ?_⟩
              have hsd := hs0.fr (iv' := st2 ivc 0 9 z) (fun p j q1 q2 => f9 p j (by omega) (by omega) (by omega))
              refine (cEq_st (fun t ht => ?_)).sol hsd
              have := nth_0 q2 t ht
              unfold stS
              rw [if_pos (show t < g.1 from ht)]
              apply Classical.byContradiction
              intro hne
              rw [if_neg hne] at this
              omega
        by_cases i9 : ivc 0 9 = 0
        · rw [if_pos i9, b39_127]; exact fin 0 (Or.inl rfl)
        · rw [if_neg i9, b39_119]
          by_cases q : ((nth (fun e => if (sC g).2.2.2.2.2 e = pxS g e then 0 else 1) g.1 : Nat) : Int) = 0
          · rw [if_pos q, b39_123]; exact fin 1 (Or.inr ⟨rfl, by omega⟩)
          · rw [if_neg q, b39_127]; exact fin 0 (Or.inl rfl)
      | succ t ih =>
        intro k hkn ivc fc hst
        have xk : ((k : Int)).toNat = k := Int.toNat_natCast k
        have hle := nth_le (fun e => if (sC g).2.2.2.2.2 e = pxS g e then 0 else 1) k
        have hi := hin k (by omega)
        have e1 : ivc 1 k = (sC g).2.2.2.2.2 k := by rw [hst k (by omega), if_neg (by omega)]
        have e4 : ivc 4 k = pxS g k := by rw [fc 4 k (by omega), hp4 k (by omega)]
        rw [b39_64, if_pos (by rw [fc 0 5 (by omega), fp 0 5 (by omega), h1.2.1.1]; omega), b39_72 (by omega) (by omega), xk, e1, e4]
        by_cases q : (sC g).2.2.2.2.2 k = pxS g k
        · rw [if_pos q, b39_105, w32_of (by omega) (by omega)]
          have e : nth (fun e => if (sC g).2.2.2.2.2 e = pxS g e then 0 else 1) (k + 1) = nth (fun e => if (sC g).2.2.2.2.2 e = pxS g e then 0 else 1) k := by
            show _ + (if (if (sC g).2.2.2.2.2 k = pxS g k then (0 : Int) else 1) = 0 then 0 else 1) = _
            rw [if_pos (by rw [if_pos q])]; rfl
          have := ih (k + 1) (by omega) ivc fc (fun e he => by
            rw [hst e he]
            by_cases z : e = k
            · rw [z, if_neg (by omega), if_pos (by omega), q]
            · by_cases z2 : e < k
              · rw [if_pos z2, if_pos (by omega)]
              · rw [if_neg z2, if_neg (by omega)])
          rw [e] at this
          exact this
        · rw [if_neg q, b39_89 (by omega) (by omega), xk, e4, w32_of (x := pxS g k) (by omega) (by omega), b39_105, w32_of (by omega) (by omega), w32_of (by omega) (by omega)]
          have e : ((nth (fun e => if (sC g).2.2.2.2.2 e = pxS g e then 0 else 1) (k + 1) : Nat) : Int) = (nth (fun e => if (sC g).2.2.2.2.2 e = pxS g e then 0 else 1) k : Nat) + 1 := by
            show ((_ + (if (if (sC g).2.2.2.2.2 k = pxS g k then (0 : Int) else 1) = 0 then 0 else 1) : Nat) : Int) = _
            rw [if_neg (by rw [if_neg q]; omega)]; omega
          have := ih (k + 1) (by omega) (st2 ivc 1 k (pxS g k)) (fun p j n1 => by rw [st2_ne n1]; exact fc p j n1) (fun e he => by
            by_cases z : e = k
            · rw [z, st2_eq, if_pos (by omega)]
            · rw [st2_nk z, hst e he]
              by_cases z2 : e < k
              · rw [if_pos z2, if_pos (by omega)]
              · rw [if_neg z2, if_neg (by omega)])
          rw [e] at this
          exact this
    refine loop g.1 0 (by omega) ivp (fun _ _ _ => rfl) (fun e he => ?_)
    rw [if_neg (by omega), fp 1 e (by omega)]
    exact (h1.2.1.2.2.1 e he).1
  -- the first loop
  have loop : ∀ t k : Nat, k + t = g.1 → ∀ ivc : mIv, (∀ p j, p ≠ 4 → ivc p j = iv1 p j) → (∀ e, e < k → ivc 4 e = pxS g e) → (∀ e, e < k → -100000 ≤ pxS g e ∧ pxS g e ≤ 100000) → Ex 39 6 [vR 0, vI k, none] [] ivc (RV sa sb) Q := by
    intro t
    induction t with
    | zero =>
      intro k hkn ivc fc h4 hin
      have : k = g.1 := by omega
      rw [this] at h4 hin ⊢
      rw [b39_6, if_neg (by rw [fc 0 5 (by omega), h1.2.1.1]; omega)]
      exact two ivc fc h4 hin
    | succ t ih =>
      intro k hkn ivc fc h4 hin
      have xk : ((k : Int)).toNat = k := Int.toNat_natCast k
      have hsc := hs0.fr (iv' := ivc) (fun p j q1 q2 => fc p j (by omega))
      have hpk : pix (ivc (sa + 1) k) (ivc sa 0) = pxS g k := by rw [fc _ _ (by omega), fc _ _ (by omega)]; exact hpx k (by omega)
      have bad : ∀ ivd : mIv, (∀ p j, p ≠ 4 → ivd p j = iv1 p j) → ¬ (-100000 ≤ pxS g k ∧ pxS g k ≤ 100000) → Ex 39 51 [vR 0, vI k, none] [] ivd (RV sa sb) Q := fun ivd fd hno => by
        rw [b39_51]
        have := hk ivd (fun p j hp => by rw [fd p j (by omega)]; exact hM1 p j hp)
        unfold aSettle at this
        rw [if_neg (fun z => hno (z k (by omega)))] at this
        exact this (h1.frS (fun p j _ _ n4 => fd p j n4))
      rw [b39_6, if_pos (by rw [fc 0 5 (by omega), h1.2.1.1]; omega), b39_14, m55 hS hn (by omega) hsc, hpk]
      show Ex 39 24 _ [.inr (.inl _), .inl (k : Int), .inr (.inr (some 4))] _ _ _
      rw [b39_24 (by omega) (by omega) (by omega) (by omega), xk, st2_eq]
      have fd : ∀ p j, p ≠ 4 → st2 ivc 4 k (pxS g k) p j = iv1 p j := fun p j n4 => by rw [st2_ne n4]; exact fc p j n4
      by_cases c1 : pxS g k < -100000
      · rw [if_pos c1]
        exact bad _ fd (fun z => by omega)
      · rw [if_neg c1, b39_38 (by omega) (by omega), xk, st2_eq]
        by_cases c2 : 100000 < pxS g k
        · rw [if_pos c2]
          exact bad _ fd (fun z => by omega)
        · rw [if_neg c2, b39_54, w32_of (by omega) (by omega)]
          refine ih (k + 1) (by omega) _ fd (fun e he => ?_) (fun e he => ?_)
          · by_cases z : e = k
            · rw [z, st2_eq]
            · rw [st2_nk z]; exact h4 e (by omega)
          · by_cases z : e = k
            · rw [z]; exact ⟨by omega, by omega⟩
            · exact hin e (by omega)
  exact loop g.1 0 (by omega) iv1 (fun _ _ _ => rfl) (fun e he => by omega) (fun e he => by omega)
end CHH
