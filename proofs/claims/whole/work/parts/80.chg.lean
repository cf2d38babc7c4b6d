/-! what the class changes: hide, drag, strength, take, factor, edge, move -/
def up1 {α : Type} (f : Nat → α) (i : Nat) (x : α) : Nat → α := fun j => if j = i then x else f j
theorem up1_e {α : Type} (f : Nat → α) (i : Nat) (x : α) : up1 f i x i = x := by unfold up1; rw [if_pos rfl]
theorem up1_n {α : Type} (f : Nat → α) {i j : Nat} (x : α) (h : j ≠ i) : up1 f i x j = f j := by unfold up1; rw [if_neg h]
theorem up1_s {α : Type} (f : Nat → α) (i : Nat) : up1 f i (f i) = f := by
  funext j; unfold up1; split
  · rename_i h; rw [h]
  · rfl
def setQ (g : Sg) (q : Int) : Sg := (g.1, g.2.1, g.2.2.1, g.2.2.2.1, q, g.2.2.2.2.2)
def setF (g : Sg) (f : Nat → Int) : Sg := (g.1, f, g.2.2)
def setTh (g : Sg) (w : Nat) (x : Int) : Sg := (g.1, g.2.1, up1 g.2.2.1 w x, g.2.2.2)
def setHd (g : Sg) (w : Nat) (x : Int) : Sg := (g.1, g.2.1, g.2.2.1, up1 g.2.2.2.1 w x, g.2.2.2.2)
def setC (g : Sg) (c : Cg) : Sg := (g.1, g.2.1, g.2.2.1, g.2.2.2.1, g.2.2.2.2.1, c)
def cNu (c : Cg) (w : Nat) (x : Int) : Cg := (c.1, c.2.1, c.2.2.1, c.2.2.2.1, up1 c.2.2.2.2.1 w x, c.2.2.2.2.2)
def cStr (c : Cg) (w : Nat) (l x : Int) : Cg := (c.1, c.2.1, up1 c.2.2.1 w l, up1 c.2.2.2.1 w x, c.2.2.2.2.1, c.2.2.2.2.2)
def cSt (c : Cg) (st : Nat → Int) : Cg := (c.1, c.2.1, c.2.2.1, c.2.2.2.1, c.2.2.2.2.1, st)
noncomputable def lq (g : Sg) : Int := (lqF (sC g) g.1 9 (bo 9 (sM g)) : Nat)
def wfd (g : Sg) (w : Nat) : Int × Int × Int × Int × Int × Int × (Nat → Int) := (g.2.2.1 w, g.2.2.2.1 w, (sC g).2.1 w, (sC g).2.2.1 w, (sC g).2.2.2.1 w, (sC g).2.2.2.2.1 w, (sC g).1 w)
theorem Wc.wish {iv iv' : mIv} {g g' : Sg} {k : Nat} (h : Wc iv g) (f : ∀ p j, p < 24 → p ≠ 6 + 2 * k → p ≠ 7 + 2 * k → p ≠ 3 → p ≠ 4 → ¬ (p = 0 ∧ (j = 6 ∨ j = 9)) → iv' p j = iv p j) (e1 : g'.1 = g.1) (e2 : iv' 0 6 = g'.2.2.2.2.1) (e3 : g'.2.1 = g.2.1) (e4 : (sC g').2.2.2.2.2 = (sC g).2.2.2.2.2) (ew : ∀ w, w < 9 → w ≠ k → wfd g' w = wfd g w) (ek : k < 9 → iv' (6 + 2 * k) 0 = g'.2.2.1 k ∧ iv' (6 + 2 * k) 1 = g'.2.2.2.1 k ∧ iv' (6 + 2 * k) 2 = g'.2.2.2.2.2.2.1 k ∧ iv' (6 + 2 * k) 3 = g'.2.2.2.2.2.2.2.1 k ∧ iv' (6 + 2 * k) 4 = g'.2.2.2.2.2.2.2.2.1 k ∧ iv' (6 + 2 * k) 5 = g'.2.2.2.2.2.2.2.2.2.1 k ∧ ∀ e, e < 5 → iv' (7 + 2 * k) e = g'.2.2.2.2.2.1 k e) : Wc iv' g' := by
  obtain ⟨h1, h2, h3, h4⟩ := h
  refine ⟨by rw [f 0 5 (by omega) (by omega) (by omega) (by omega) (by omega) (by omega), e1]; exact h1, e2, fun e he => ?_, fun w hw => ?_⟩
  · rw [f 1 e (by omega) (by omega) (by omega) (by omega) (by omega) (by omega), f 2 e (by omega) (by omega) (by omega) (by omega) (by omega) (by omega), e3]
    have e4' : g'.2.2.2.2.2.2.2.2.2.2 = g.2.2.2.2.2.2.2.2.2.2 := e4
    rw [e4']
    exact h3 e he
  · by_cases c : w = k
    · rw [c]; exact ek (by omega)
    · have hwf := ew w hw c
      obtain ⟨a0, a1, a2, a3, a4, a5, a6⟩ := h4 w hw
      have b0 : g'.2.2.1 w = g.2.2.1 w := congrArg (fun p : Int × Int × Int × Int × Int × Int × (Nat → Int) => p.1) hwf
      have b1 : g'.2.2.2.1 w = g.2.2.2.1 w := congrArg (fun p : Int × Int × Int × Int × Int × Int × (Nat → Int) => p.2.1) hwf
      have b2 : g'.2.2.2.2.2.2.1 w = g.2.2.2.2.2.2.1 w := congrArg (fun p : Int × Int × Int × Int × Int × Int × (Nat → Int) => p.2.2.1) hwf
      have b3 : g'.2.2.2.2.2.2.2.1 w = g.2.2.2.2.2.2.2.1 w := congrArg (fun p : Int × Int × Int × Int × Int × Int × (Nat → Int) => p.2.2.2.1) hwf
      have b4 : g'.2.2.2.2.2.2.2.2.1 w = g.2.2.2.2.2.2.2.2.1 w := congrArg (fun p : Int × Int × Int × Int × Int × Int × (Nat → Int) => p.2.2.2.2.1) hwf
      have b5 : g'.2.2.2.2.2.2.2.2.2.1 w = g.2.2.2.2.2.2.2.2.2.1 w := congrArg (fun p : Int × Int × Int × Int × Int × Int × (Nat → Int) => p.2.2.2.2.2.1) hwf
      have b6 : g'.2.2.2.2.2.1 w = g.2.2.2.2.2.1 w := congrArg (fun p : Int × Int × Int × Int × Int × Int × (Nat → Int) => p.2.2.2.2.2.2) hwf
      have ff : ∀ j, iv' (6 + 2 * w) j = iv (6 + 2 * w) j := fun j => f _ _ (by omega) (by omega) (by omega) (by omega) (by omega) (by omega)
      have fg : ∀ j, iv' (7 + 2 * w) j = iv (7 + 2 * w) j := fun j => f _ _ (by omega) (by omega) (by omega) (by omega) (by omega) (by omega)
      rw [ff, ff, ff, ff, ff, ff, b0, b1, b2, b3, b4, b5, b6]
      exact ⟨a0, a1, a2, a3, a4, a5, fun e he => by rw [fg]; exact a6 e he⟩
/-- nothing told of the setting -/
theorem Rc_un {sa sb : Nat} {iv : mIv} {g : Sg} (hS : hSS sa sb) (hW : Wc iv g) (s1 : solB iv 24) (s2 : solB iv 45) (h0 : iv 0 9 = 0) : Rc iv sa sb g := ⟨hS, hW, s1, s2, Or.inl h0⟩
section CHG
variable {sa sb : Nat} {iv : mIv} {Q : Option mV → mIv → mRv → Prop} {g : Sg}
theorem m52c {k : Nat} (hS : hSS sa sb) (hB : sB g) (hW : Wc iv g) (s1 : solB iv 24) (s2 : solB iv 45) (hk : k < 9)
    (kOk : ((g.2.2.1 k ≠ 0 ∧ g.2.2.2.1 k = 0 ∧ (sC g).2.2.1 k = 0) → sSat g) → ∀ (iv' : mIv) (sa' sb' : Nat), frM iv iv' → Rc iv' sa' sb' g → Q (vI 0) iv' (RV sa' sb'))
    (kBad : (g.2.2.1 k ≠ 0 ∧ g.2.2.2.1 k = 0 ∧ (sC g).2.2.1 k = 0) → ¬ sSat g → ∀ iv' : mIv, (∀ p j, p < sb ∨ sb + 20 < p → ¬ (p = 0 ∧ j = 6) → iv' p j = iv p j) → iv' 0 6 = lq g → solB iv' sb → Q (vI 1) iv' (RV sa sb)) : Ex 52 0 [vR 0, vR (6 + 2 * k), none] [] iv (RV sa sb) Q := by
  have ha := hS.a
  have hb := hS.b
  have hne := hS.ne
  refine m52 hS hB hW s1 s2 hk (fun hc => ?_) (fun hc hns iv' f s => ?_) (fun hc hs iv' f s => ?_)
  · refine kOk (fun z => absurd z hc) _ sa sb (fun p j hp => st2_ne (by omega)) ?_
    exact Rc_un hS (hW.set 0) (s1.fr (b := 24) (fun p j q1 q2 => st2_ne (by omega))) (s2.fr (b := 24) (fun p j q1 q2 => st2_ne (by omega))) st2_eq
  · refine kBad hc hns _ (fun p j hp hn => ?_) st2_eq (s.fr (b := 24) (fun p j q1 q2 => st2_ne (by omega)))
    rw [← f p j hp]
    unfold st2
    rw [if_neg hn]
  · have hs' : solS (sC g) g.1 (sS g) (st2 iv' 0 9 1) sb := s.fr (fun p j q1 q2 => st2_ne (by omega))
    have hso : ∀ p j, sa ≤ p → p ≤ sa + 20 → st2 iv' 0 9 1 p j = iv p j := fun p j q1 q2 => by rw [st2_ne (by omega)]; exact f p j (by omega)
    refine kOk (fun _ => hs) _ sb sa (fun p j hp => by rw [st2_ne (by omega)]; exact f p j (by omega)) ⟨?_, (hW.fr hb f).set 1, ?_, ?_, Or.inr ⟨st2_eq, hs'⟩⟩
    · rcases hS with ⟨e1, e2⟩ | ⟨e1, e2⟩
      · exact Or.inr ⟨e2, e1⟩
      · exact Or.inl ⟨e2, e1⟩
    · rcases hS with ⟨e1, e2⟩ | ⟨e1, e2⟩
      · rw [← e1]; exact (sol_ne (Or.inl ⟨e1, e2⟩) s1 s2).1.fr (b := 24) hso
      · rw [← e2]; exact hs'.solB
    · rcases hS with ⟨e1, e2⟩ | ⟨e1, e2⟩
      · rw [← e2]; exact hs'.solB
      · rw [← e1]; exact (sol_ne (Or.inr ⟨e1, e2⟩) s1 s2).1.fr (b := 24) hso
/-- behind a clash: as before, but for the quarrel -/
theorem Rc.back {iv' : mIv} {g' : Sg} (h : Rc iv sa sb g) (f : ∀ p j, 24 ≤ p → p < 66 → p < sb ∨ sb + 20 < p → iv' p j = iv p j) (f9 : iv' 0 9 = iv 0 9) (s : solB iv' sb) (hW : Wc iv' g') (en : g'.1 = g.1) (eS : sS g' = sS g) (ec : cEq g.1 (sS g) (sC g) (sC g')) : Rc iv' sa sb g' := by
  obtain ⟨hS, hW0, s1, s2, hset⟩ := h
  have ha := hS.a
  have hb := hS.b
  have hne := hS.ne
  have fa : ∀ p j, sa ≤ p → p ≤ sa + 20 → iv' p j = iv p j := fun p j q1 q2 => f p j (by omega) (by omega) (by omega)
  refine ⟨hS, hW, ?_, ?_, ?_⟩
  · rcases hS with ⟨e1, e2⟩ | ⟨e1, e2⟩
    · rw [← e1]; exact (sol_ne (Or.inl ⟨e1, e2⟩) s1 s2).1.fr (b := 24) fa
    · rw [← e2]; exact s
  · rcases hS with ⟨e1, e2⟩ | ⟨e1, e2⟩
    · rw [← e2]; exact s
    · rw [← e1]; exact (sol_ne (Or.inr ⟨e1, e2⟩) s1 s2).1.fr (b := 24) fa
  · rw [f9, eS, en]
    rcases hset with z | z
    · exact Or.inl z
    · exact Or.inr ⟨z.1, ec.sol (z.2.fr fa)⟩
theorem cEq_r (n : Nat) (S : Nat → Bool) (c : Cg) : cEq n S c c := ⟨fun _ _ _ => ⟨fun _ _ => rfl, rfl, rfl, rfl, rfl⟩, fun _ _ => rfl⟩
noncomputable def aHide (g : Sg) (x on : Int) : Int × Sg := @ite (Int × Sg) (isW g x) (Classical.propDecidable _) (@ite (Int × Sg) (g.2.2.2.1 x.toNat ≠ 0 ∧ on = 0 ∧ (sC g).2.2.1 x.toNat = 0 ∧ ¬ sSat (setHd g x.toNat on)) (Classical.propDecidable _) (-2000000005, setQ g (lq (setHd g x.toNat on))) (g.2.2.2.1 x.toNat, setHd g x.toNat on)) (-2000000001, g)
theorem sB_hd {w : Nat} {x : Int} (hB : sB g) (hx : x = 0 ∨ x = 1) : sB (setHd g w x) := by
  obtain ⟨h1, h2, h3⟩ := hB
  refine ⟨h1, h2, fun v hv => ?_⟩
  obtain ⟨q1, q2, q3⟩ := h3 v hv
  refine ⟨q1, ?_, q3⟩
  show up1 g.2.2.2.1 w x v = 0 ∨ up1 g.2.2.2.1 w x v = 1
  unfold up1; split
  · exact hx
  · exact q2
theorem c26 {x on : Int} (hon : on = 0 ∨ on = 1) (hB : sB g) (h : Rc iv sa sb g) (hk : ∀ (iv' : mIv) (sa' sb' : Nat), frM iv iv' → Rc iv' sa' sb' (aHide g x on).2 → Q (vI (aHide g x on).1) iv' (RV sa' sb')) : Ex 26 0 [vR 0, vI x, vI on, none, none] [] iv (RV sa sb) Q := by
  have hr := hk iv sa sb (fun _ _ _ => rfl)
  have hS := h.1
  have ha := hS.a
  have hb := hS.b
  unfold aHide at hk hr
  rw [b26_0]
  refine m44c h.2.1 (fun c => ?_) (fun c => ?_)
  · rw [if_pos c] at hk
    show Ex 26 5 _ [.inl 1] _ _ _
    obtain ⟨w, hwe⟩ : ∃ w : Nat, x = w := ⟨x.toNat, by have := c.1; omega⟩
    subst hwe
    have hw : w < 9 := by have := c.2.1; omega
    rw [Int.toNat_natCast] at hk
    obtain ⟨a0, a1, a2, a3, a4, a5, a6⟩ := h.2.1.2.2.2 w hw
    have hth : g.2.2.1 w ≠ 0 := by have := c.2.2; rw [Int.toNat_natCast] at this; exact this
    have hhd := (hB.2.2 w hw).2.1
    rw [b26_5, if_neg (by omega), b26_11 (by omega) (by omega) hon, Int.toNat_natCast, a1]
    have f1 : ∀ p j, ¬ (p = 6 + 2 * w ∧ j = 1) → st2 iv (6 + 2 * w) 1 on p j = iv p j := fun p j hp => by unfold st2; rw [if_neg hp]
    have hW1 : Wc (st2 iv (6 + 2 * w) 1 on) (setHd g w on) := by
      refine h.2.1.wish (k := w) (fun p j _ n1 n2 _ _ _ => f1 p j (by omega)) rfl ?_ rfl rfl (fun v hv hne => ?_) (fun _ => ?_)
      · rw [f1 0 6 (by omega)]; exact h.2.1.2.1
      · show (g.2.2.1 v, up1 g.2.2.2.1 w on v, _) = _
        rw [up1_n _ _ hne]; rfl
      · show _ = g.2.2.1 w ∧ _ = up1 g.2.2.2.1 w on w ∧ _
        rw [f1 _ 0 (by omega), f1 _ 2 (by omega), f1 _ 3 (by omega), f1 _ 4 (by omega), f1 _ 5 (by omega), st2_eq, up1_e]
        exact ⟨a0, rfl, a2, a3, a4, a5, fun e he => by rw [f1 _ e (by omega)]; exact a6 e he⟩
    have hB1 : sB (setHd g w on) := sB_hd hB hon
    have s1' : solB (st2 iv (6 + 2 * w) 1 on) 24 := h.2.2.1.fr (b := 24) (fun p j q1 q2 => st2_ne (by omega))
    have s2' : solB (st2 iv (6 + 2 * w) 1 on) 45 := h.2.2.2.1.fr (b := 24) (fun p j q1 q2 => st2_ne (by omega))
    have ret : ∀ (iv' : mIv) (sa' sb' : Nat), Q (vI (g.2.2.2.1 w)) iv' (RV sa' sb') → Ex 26 52 [vR 0, vI w, vI on, vR (6 + 2 * w), vI (g.2.2.2.1 w)] [] iv' (RV sa' sb') Q := fun iv' sa' sb' hq => by
      rw [b26_52 hw]
      rcases hhd with z | z
      · rw [if_pos z, b26_61 hw, b26_62 hw]; rw [z] at hq; exact hq
      · rw [if_neg (by omega), b26_57 hw, b26_62 hw]; rw [z] at hq; exact hq
    by_cases d : g.2.2.2.1 w = on
    · rw [if_pos d]
      refine ret _ sa sb ?_
      have hself : setHd g w on = g := by unfold setHd; rw [← d, up1_s]
      have hcond : ¬ (g.2.2.2.1 w ≠ 0 ∧ on = 0 ∧ (sC g).2.2.1 w = 0 ∧ ¬ sSat (setHd g w on)) := fun z => z.1 (by rw [d]; exact z.2.1)
      have := hk (st2 iv (6 + 2 * w) 1 on) sa sb (fun p j hp => st2_ne (by omega))
      rw [if_neg hcond] at this
      refine this ?_
      show Rc _ sa sb (setHd g w on)
      rw [hself]
      have e : st2 iv (6 + 2 * w) 1 on = iv := by
        funext p j
        unfold st2
        split
        · rename_i z; rw [z.1, z.2, a1, d]
        · rfl
      rw [e]; exact h
    · rw [if_neg d, b26_35 hw]
      have hthk : (setHd g w on).2.2.1 w = g.2.2.1 w := rfl
      have hhdk : (setHd g w on).2.2.2.1 w = on := up1_e _ _ _
      refine m52c hS hB1 hW1 s1' s2' hw (fun hsat iv' sa' sb' f' h' => ?_) (fun hc hns iv' f' h6 s' => ?_)
      · show Ex 26 40 _ [.inl 0] _ _ _
        rw [b26_40 hw, if_pos rfl]
        refine ret iv' sa' sb' ?_
        have hcond : ¬ (g.2.2.2.1 w ≠ 0 ∧ on = 0 ∧ (sC g).2.2.1 w = 0 ∧ ¬ sSat (setHd g w on)) := fun z => z.2.2.2 (hsat ⟨hth, by rw [hhdk]; exact z.2.1, z.2.2.1⟩)
        have := hk iv' sa' sb' (fun p j hp => by rw [f' p j hp, st2_ne (by omega)])
        rw [if_neg hcond] at this
        exact this h'
      · show Ex 26 40 _ [.inl 1] _ _ _
        have hon0 : on = 0 := by have := hc.2.1; rw [hhdk] at this; exact this
        rw [b26_40 hw, if_neg (by omega), b26_43 hw hhd]
        have hcond : g.2.2.2.1 w ≠ 0 ∧ on = 0 ∧ (sC g).2.2.1 w = 0 ∧ ¬ sSat (setHd g w on) := ⟨fun z => d (by omega), hon0, hc.2.2, hns⟩
        have := hk (st2 iv' (6 + 2 * w) 1 (g.2.2.2.1 w)) sa sb (fun p j hp => by rw [st2_ne (by omega), f' p j (by omega) (by omega), st2_ne (by omega)])
        rw [if_pos hcond] at this
        refine this ?_
        show Rc _ sa sb (setQ g (lq (setHd g w on)))
        have fb : ∀ p j, p < sb ∨ sb + 20 < p → ¬ (p = 0 ∧ j = 6) → st2 iv' (6 + 2 * w) 1 (g.2.2.2.1 w) p j = iv p j := fun p j hp hn => by
          by_cases z : p = 6 + 2 * w ∧ j = 1
          · rw [z.1, z.2, st2_eq, a1]
          · unfold st2
            rw [if_neg z, f' p j hp hn]
            exact f1 p j z
        refine h.back (fun p j q1 q2 q3 => fb p j q3 (by omega)) (fb 0 9 (by omega) (by omega)) (s'.fr (b := 24) (fun p j q1 q2 => st2_ne (by omega))) ?_ rfl rfl (cEq_r _ _ _)
        refine h.2.1.wish (k := w) (fun p j q1 _ _ _ _ q => fb p j (by omega) (by omega)) rfl ?_ rfl rfl (fun _ _ _ => rfl) (fun _ => ?_)
        · rw [st2_ne (by omega)]; exact h6
        · rw [fb _ 0 (by omega) (by omega), fb _ 1 (by omega) (by omega), fb _ 2 (by omega) (by omega), fb _ 3 (by omega) (by omega), fb _ 4 (by omega) (by omega), fb _ 5 (by omega) (by omega)]
          exact ⟨a0, a1, a2, a3, a4, a5, fun e he => by rw [fb _ e (by omega) (by omega)]; exact a6 e he⟩
  · rw [if_neg c] at hr
    show Ex 26 5 _ [.inl 0] _ _ _
    rw [b26_5, if_pos rfl, b26_8]
    exact hr h
end CHG
