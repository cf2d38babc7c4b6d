/-! what is asked of the state holds behind every call -/
def good (g : Sg) : Prop := sB g ∧ sSat g
section INV
variable {g g' : Sg}
theorem sat_to (hB : sB g) (hB' : sB g') (en : g'.1 = g.1) (h : ∀ w, w < 9 → sM g' w = true → sM g w = true ∧ (sC g').2.1 w = (sC g).2.1 w ∧ (sC g').2.2.2.2.1 w = (sC g).2.2.2.2.1 w ∧ ∀ t, t < g.1 → (sC g').1 w t = (sC g).1 w t) (hs : sSat g) : sSat g' := by
  rw [← sat_M hB, sat_iff hB.1 (hw_M hB)] at hs
  rw [← sat_M hB', sat_iff hB'.1 (hw_M hB')]
  obtain ⟨Y, r, hr, k⟩ := hs
  refine ⟨Y, r, hr, fun w hw hm hl => ?_⟩
  obtain ⟨q1, q2, q3, q4⟩ := h w hw hm
  have := k w hw q1 (of_decide_eq_true q1).2.2.2
  rw [q2]
  unfold gW at this ⊢
  rw [q3, en, sm_congr (fun t ht => by rw [q4 t ht])]
  exact this
theorem g_edge {x : Int} (h : good g) : good (aEdge g x).2 := by
  obtain ⟨hB, hs⟩ := h
  unfold aEdge
  by_cases c : -100000 ≤ x ∧ x ≤ 100000
  · rw [if_pos c]
    by_cases d : g.1 < 5
    · rw [if_pos d]
      have hB' : sB (setE g x) := by
        obtain ⟨⟨b1, b2, b3, b4⟩, h2, h3⟩ := hB
        refine ⟨⟨by show g.1 + 1 ≤ 5; omega, b2, b3, fun e he => ?_⟩, h2, h3⟩
        show -100000 ≤ up1 (sC g).2.2.2.2.2 g.1 x e ∧ up1 (sC g).2.2.2.2.2 g.1 x e ≤ 100000
        unfold up1; split
        · exact c
        · exact b4 e he
      refine ⟨hB', ?_⟩
      show sSat (setE g x)
      rw [← sat_M hB, sat_iff hB.1 (hw_M hB)] at hs
      rw [← sat_M hB', sat_iff hB'.1 (hw_M hB')]
      obtain ⟨Y, r, hr, k⟩ := hs
      refine ⟨fun t => if t < g.1 then Y t else 0, r, hr, fun w hw hm hl => ?_⟩
      have := k w hw hm hl
      show offV ((sC g).2.1 w) (sm (g.1 + 1) (fun t => (sC g).1 w t * (if t < g.1 then Y t else 0)) - (sC g).2.2.2.2.1 w * r) = 0
      have e : sm (g.1 + 1) (fun t => (sC g).1 w t * (if t < g.1 then Y t else 0)) = sm g.1 (fun t => (sC g).1 w t * Y t) := by
        show sm g.1 (fun t => (sC g).1 w t * (if t < g.1 then Y t else 0)) + (sC g).1 w g.1 * (if g.1 < g.1 then Y g.1 else 0) = _
        rw [if_neg (by omega), Int.mul_zero, Int.add_zero]
        exact sm_congr (fun t ht => by rw [if_pos ht])
      rw [e]
      exact this
    · rw [if_neg d]; exact ⟨hB, hs⟩
  · rw [if_neg c]; exact ⟨hB, hs⟩
theorem g_fac {x y : Int} (h : good g) : good (aFac g x y).2 := by
  obtain ⟨hB, hs⟩ := h
  unfold aFac
  by_cases c : (0 ≤ x ∧ x < 5) ∧ -3 ≤ y ∧ y ≤ 3
  · rw [if_pos c]
    refine ⟨⟨hB.1, fun e he => ?_, hB.2.2⟩, hs⟩
    show -3 ≤ up1 g.2.1 x.toNat y e ∧ up1 g.2.1 x.toNat y e ≤ 3
    unfold up1; split
    · exact c.2
    · exact hB.2.1 e he
  · rw [if_neg c]; exact ⟨hB, hs⟩
theorem sM_iff (g : Sg) (w : Nat) : sM g w = true ↔ w < 9 ∧ g.2.2.1 w ≠ 0 ∧ g.2.2.2.1 w = 0 ∧ (sC g).2.2.1 w = 0 := ⟨fun h => of_decide_eq_true h, fun h => decide_eq_true h⟩
theorem g_take {x : Int} (h : good g) : good (aTake g x).2 := by
  obtain ⟨hB, hs⟩ := h
  unfold aTake
  by_cases c : isW g x
  · rw [if_pos c]
    have hB' : sB (setTh g x.toNat 0) := by
      refine ⟨hB.1, hB.2.1, fun v hv => ?_⟩
      obtain ⟨q1, q2, q3⟩ := hB.2.2 v hv
      show (up1 g.2.2.1 x.toNat 0 v = 0 ∨ up1 g.2.2.1 x.toNat 0 v = 1) ∧ _ ∧ (up1 g.2.2.1 x.toNat 0 v ≠ 0 → _)
      by_cases z : v = x.toNat
      · rw [z, up1_e]
        rw [z] at q2
        exact ⟨Or.inl rfl, q2, fun y => absurd rfl y⟩
      · rw [up1_n _ _ z]; exact ⟨q1, q2, q3⟩
    refine ⟨hB', sat_to hB hB' rfl (fun w hw hm => ?_) hs⟩
    obtain ⟨m1, m2, m3, m4⟩ := (sM_iff _ w).mp hm
    have m2' : up1 g.2.2.1 x.toNat 0 w ≠ 0 := m2
    by_cases z : w = x.toNat
    · rw [z, up1_e] at m2'; exact absurd rfl m2'
    · rw [up1_n _ _ z] at m2'
      exact ⟨(sM_iff _ w).mpr ⟨hw, m2', m3, m4⟩, rfl, rfl, fun _ _ => rfl⟩
  · rw [if_neg c]; exact ⟨hB, hs⟩
theorem g_setQ {q : Int} (h : good g) : good (setQ g q) := h
theorem g_hide {x on : Int} (hon : on = 0 ∨ on = 1) (h : good g) : good (aHide g x on).2 := by
  obtain ⟨hB, hs⟩ := h
  unfold aHide
  by_cases c : isW g x
  · rw [if_pos c]
    by_cases d : g.2.2.2.1 x.toNat ≠ 0 ∧ on = 0 ∧ (sC g).2.2.1 x.toNat = 0 ∧ ¬ sSat (setHd g x.toNat on)
    · rw [if_pos d]; exact ⟨hB, hs⟩
    · rw [if_neg d]
      have hB' : sB (setHd g x.toNat on) := sB_hd hB hon
      refine ⟨hB', ?_⟩
      show sSat (setHd g x.toNat on)
      by_cases e : sSat (setHd g x.toNat on)
      · exact e
      · refine sat_to hB hB' rfl (fun w hw hm => ?_) hs
        obtain ⟨m1, m2, m3, m4⟩ := (sM_iff _ w).mp hm
        have m3' : up1 g.2.2.2.1 x.toNat on w = 0 := m3
        have m4' : (sC g).2.2.1 w = 0 := m4
        by_cases z : w = x.toNat
        · rw [z, up1_e] at m3'
          rw [z] at m4'
          have hh : g.2.2.2.1 x.toNat = 0 := by
            apply Classical.byContradiction
            intro q
            exact d ⟨q, m3', m4', e⟩
          have m2' : g.2.2.1 w ≠ 0 := m2
          exact ⟨(sM_iff _ w).mpr ⟨hw, m2', by rw [z]; exact hh, by rw [z]; exact m4'⟩, rfl, rfl, fun _ _ => rfl⟩
        · rw [up1_n _ _ z] at m3'
          exact ⟨(sM_iff _ w).mpr ⟨hw, m2, m3', m4'⟩, rfl, rfl, fun _ _ => rfl⟩
  · rw [if_neg c]; exact ⟨hB, hs⟩
theorem g_drag {x y : Int} (h : good g) : good (aDrag g x y).2 := by
  obtain ⟨hB, hs⟩ := h
  unfold aDrag
  by_cases c : isW g x
  · rw [if_pos c]
    by_cases cy : -1000 ≤ y ∧ y ≤ 1000
    · rw [if_pos cy]
      by_cases d : g.2.2.2.1 x.toNat = 0 ∧ (sC g).2.2.1 x.toNat = 0 ∧ ¬ sSat (setC g (cNu (sC g) x.toNat y))
      · rw [if_pos d]; exact ⟨hB, hs⟩
      · rw [if_neg d]
        have hB' : sB (setC g (cNu (sC g) x.toNat y)) := sB_nu hB cy
        refine ⟨hB', ?_⟩
        show sSat (setC g (cNu (sC g) x.toNat y))
        by_cases e : sSat (setC g (cNu (sC g) x.toNat y))
        · exact e
        · refine sat_to hB hB' rfl (fun w hw hm => ?_) hs
          obtain ⟨m1, m2, m3, m4⟩ := (sM_iff _ w).mp hm
          have m4' : (sC g).2.2.1 w = 0 := m4
          by_cases z : w = x.toNat
          · exact absurd ⟨by rw [← z]; exact m3, by rw [← z]; exact m4', e⟩ d
          · refine ⟨(sM_iff _ w).mpr ⟨hw, m2, m3, m4'⟩, rfl, ?_, fun _ _ => rfl⟩
            show up1 (sC g).2.2.2.2.1 x.toNat y w = _
            rw [up1_n _ _ z]
    · rw [if_neg cy]; exact ⟨hB, hs⟩
  · rw [if_neg c]; exact ⟨hB, hs⟩
theorem g_str {x y u : Int} (h : good g) : good (aStr g x y u).2 := by
  obtain ⟨hB, hs⟩ := h
  unfold aStr
  by_cases c : isW g x
  · rw [if_pos c]
    by_cases cy : 0 ≤ y ∧ y ≤ 3 ∧ 1 ≤ u ∧ u ≤ 9
    · rw [if_pos cy]
      by_cases d : g.2.2.2.1 x.toNat = 0 ∧ y = 0 ∧ ¬ sSat (setC g (cStr (sC g) x.toNat y u))
      · rw [if_pos d]; exact ⟨hB, hs⟩
      · rw [if_neg d]
        have hB' : sB (setC g (cStr (sC g) x.toNat y u)) := sB_str hB ⟨cy.1, cy.2.1⟩ cy.2.2
        refine ⟨hB', ?_⟩
        show sSat (setC g (cStr (sC g) x.toNat y u))
        by_cases e : sSat (setC g (cStr (sC g) x.toNat y u))
        · exact e
        · refine sat_to hB hB' rfl (fun w hw hm => ?_) hs
          obtain ⟨m1, m2, m3, m4⟩ := (sM_iff _ w).mp hm
          have m4' : up1 (sC g).2.2.1 x.toNat y w = 0 := m4
          by_cases z : w = x.toNat
          · rw [z, up1_e] at m4'
            exact absurd ⟨by rw [← z]; exact m3, m4', e⟩ d
          · rw [up1_n _ _ z] at m4'
            exact ⟨(sM_iff _ w).mpr ⟨hw, m2, m3, m4'⟩, rfl, rfl, fun _ _ => rfl⟩
    · rw [if_neg cy]; exact ⟨hB, hs⟩
  · rw [if_neg c]; exact ⟨hB, hs⟩
theorem g_st {st : Nat → Int} (h : good g) (hst : ∀ e, e < 5 → -100000 ≤ st e ∧ st e ≤ 100000) : good (setC g (cSt (sC g) st)) := by
  obtain ⟨hB, hs⟩ := h
  have hB' : sB (setC g (cSt (sC g) st)) := ⟨⟨hB.1.1, hB.1.2.1, hB.1.2.2.1, hst⟩, hB.2.1, hB.2.2⟩
  exact ⟨hB', sat_to hB hB' rfl (fun w hw hm => ⟨hm, rfl, rfl, fun _ _ => rfl⟩) hs⟩
theorem g_move {x y : Int} (h : good g) : good (aMove g x y).2 := by
  unfold aMove
  by_cases c : 0 ≤ x ∧ x < (g.1 : Int)
  · rw [if_pos c]
    by_cases d : -100000 ≤ y ∧ y ≤ 100000
    · rw [if_pos d]
      refine g_st h (fun e he => ?_)
      unfold up1; split
      · exact d
      · exact h.1.1.2.2.2 e he
    · rw [if_neg d]; exact h
  · rw [if_neg c]; exact h
theorem g_settle (h : good g) : good (aSettle g).2 := by
  unfold aSettle
  by_cases c : ∀ e, e < g.1 → -100000 ≤ pxS g e ∧ pxS g e ≤ 100000
  · rw [if_pos c]
    refine g_st h (fun e he => ?_)
    unfold stS; split
    · rename_i z; exact c e z
    · exact h.1.1.2.2.2 e he
  · rw [if_neg c]; exact h
theorem g_add {F : Nat → Int} {re le we nu : Int} (h : good g) (hF : ∀ e, e < 5 → -3 ≤ F e ∧ F e ≤ 3) (hre : 0 ≤ re ∧ re ≤ 2) (hle : 0 ≤ le ∧ le ≤ 3) (hwe : 1 ≤ we ∧ we ≤ 9) (hnu : -1000 ≤ nu ∧ nu ≤ 1000) : good (aAdd g F re le we nu).2 := by
  obtain ⟨hB, hs⟩ := h
  unfold aAdd
  cases hfr : frW g.2.2.1 9 0 with
  | none => exact ⟨hB, hs⟩
  | some w =>
    obtain ⟨_, hw', hth0⟩ := frW_lt 9 0 w hfr
    have hw : w < 9 := by omega
    have hB1 : sB (bec g w F re le we nu) := sB_bec hB hF hre hle hwe hnu
    -- the other wishes are as they were
    have oth : ∀ v, v ≠ w → (sC (bec g w F re le we nu)).2.1 v = (sC g).2.1 v ∧ (sC (bec g w F re le we nu)).2.2.2.2.1 v = (sC g).2.2.2.2.1 v ∧ ∀ t, t < g.1 → (sC (bec g w F re le we nu)).1 v t = (sC g).1 v t := fun v hne => by
      show up1 (sC g).2.1 w re v = _ ∧ up1 (sC g).2.2.2.2.1 w nu v = _ ∧ ∀ t, t < g.1 → up1 (sC g).1 w F v t = _
      rw [up1_n _ _ hne, up1_n _ _ hne, up1_n _ _ hne]
      exact ⟨rfl, rfl, fun _ _ => rfl⟩
    by_cases c : le = 0 ∧ ¬ sSat (bec g w F re le we nu)
    · simp only [if_pos c]
      have hB2 : sB (setQ (setTh (bec g w F re le we nu) w 0) (lq (bec g w F re le we nu))) := by
        refine ⟨hB1.1, hB1.2.1, fun v hv => ?_⟩
        obtain ⟨q1, q2, q3⟩ := hB1.2.2 v hv
        show (up1 (bec g w F re le we nu).2.2.1 w 0 v = 0 ∨ up1 (bec g w F re le we nu).2.2.1 w 0 v = 1) ∧ _ ∧ (up1 (bec g w F re le we nu).2.2.1 w 0 v ≠ 0 → _)
        by_cases z : v = w
        · rw [z, up1_e]
          rw [z] at q2
          exact ⟨Or.inl rfl, q2, fun y => absurd rfl y⟩
        · rw [up1_n _ _ z]; exact ⟨q1, q2, q3⟩
      refine ⟨hB2, sat_to hB hB2 rfl (fun v hv hm => ?_) hs⟩
      obtain ⟨m1, m2, m3, m4⟩ := (sM_iff _ v).mp hm
      have m2' : up1 (up1 g.2.2.1 w 1) w 0 v ≠ 0 := m2
      have m3' : up1 g.2.2.2.1 w 0 v = 0 := m3
      have m4' : up1 (sC g).2.2.1 w le v = 0 := m4
      by_cases z : v = w
      · rw [z, up1_e] at m2'; exact absurd rfl m2'
      · rw [up1_n _ _ z, up1_n _ _ z] at m2'
        rw [up1_n _ _ z] at m3' m4'
        exact ⟨(sM_iff _ v).mpr ⟨hv, m2', m3', m4'⟩, oth v z⟩
    · simp only [if_neg c]
      refine ⟨hB1, ?_⟩
      by_cases e : sSat (bec g w F re le we nu)
      · exact e
      · refine sat_to hB hB1 rfl (fun v hv hm => ?_) hs
        obtain ⟨m1, m2, m3, m4⟩ := (sM_iff _ v).mp hm
        have m2' : up1 g.2.2.1 w 1 v ≠ 0 := m2
        have m3' : up1 g.2.2.2.1 w 0 v = 0 := m3
        have m4' : up1 (sC g).2.2.1 w le v = 0 := m4
        by_cases z : v = w
        · rw [z, up1_e] at m4'; exact absurd ⟨m4', e⟩ c
        · rw [up1_n _ _ z] at m2' m3' m4'
          exact ⟨(sM_iff _ v).mpr ⟨hv, m2', m3', m4'⟩, oth v z⟩
theorem g_wish {re le we nu : Int} (h : good g) : good (aWish g re le we nu).2 := by
  unfold aWish
  by_cases c : (0 ≤ re ∧ re ≤ 2) ∧ (0 ≤ le ∧ le ≤ 3 ∧ 1 ≤ we ∧ we ≤ 9) ∧ -1000 ≤ nu ∧ nu ≤ 1000
  · rw [if_pos c]
    by_cases d : az g.2.1 0 ∨ ¬ az g.2.1 g.1
    · rw [if_pos d]; exact h
    · rw [if_neg d]
      have := g_add h h.1.2.1 c.1 ⟨c.2.1.1, c.2.1.2.1⟩ c.2.1.2.2 c.2.2
      exact ⟨⟨this.1.1, fun e he => ⟨by show (-3 : Int) ≤ 0; omega, by show (0 : Int) ≤ 3; omega⟩, this.1.2.2⟩, this.2⟩
  · rw [if_neg c]; exact h
theorem g_side {a b c gap le we : Int} (h : good g) : good (aSide g a b c gap le we).2 := by
  unfold aSide
  by_cases q : (0 ≤ a ∧ a < (g.1 : Int)) ∧ (0 ≤ b ∧ b < (g.1 : Int)) ∧ 0 ≤ c ∧ c < (g.1 : Int)
  · rw [if_pos q]
    by_cases d : (0 ≤ gap ∧ gap ≤ 1000) ∧ 0 ≤ le ∧ le ≤ 3 ∧ 1 ≤ we ∧ we ≤ 9
    · rw [if_pos d]
      refine g_add h (fun e he => ?_) (by omega) ⟨d.2.1, d.2.2.1⟩ d.2.2.2 (by omega)
      unfold sdf
      split <;> split <;> split <;> omega
    · rw [if_neg d]; exact h
  · rw [if_neg q]; exact h
end INV
