/-! what the class tells of the setting -/
def frM (iv iv' : mIv) : Prop := ∀ p j, 66 ≤ p → iv' p j = iv p j
theorem frM.trans {iv iv' iv'' : mIv} (h : frM iv iv') (k : frM iv' iv'') : frM iv iv'' := fun p j hp => (k p j hp).trans (h p j hp)
theorem frP.M {b : Nat} {iv iv' : mIv} (hb : b = 24 ∨ b = 45) (h : frP b iv iv') : frM iv iv' := fun p j hp => h p j (by omega) (by omega)
theorem frB.M {b : Nat} {iv iv' : mIv} (hb : b = 24 ∨ b = 45) (h : frB b iv iv') : frM iv iv' := fun p j hp => h p j (by omega)
theorem hSS.a {sa sb : Nat} (h : hSS sa sb) : sa = 24 ∨ sa = 45 := by rcases h with h | h <;> omega
theorem hSS.b {sa sb : Nat} (h : hSS sa sb) : sb = 24 ∨ sb = 45 := by rcases h with h | h <;> omega
theorem hSS.ne {sa sb : Nat} (h : hSS sa sb) : sb ≠ sa := by rcases h with h | h <;> omega
abbrev sC (g : Sg) : Cg := g.2.2.2.2.2
noncomputable def oX (g : Sg) : Nat → Int := (oP (sC g) g.1 (sS g)).1
noncomputable def oD (g : Sg) : Int := (oP (sC g) g.1 (sS g)).2
theorem sS_hi (g : Sg) : ∀ l, 9 ≤ l → sS g l = false := fun l hl => by unfold sS; exact decide_eq_false (fun z => by omega)
theorem clrS_hi {S : Nat → Bool} (h : ∀ l, 9 ≤ l → S l = false) (v : Nat) : ∀ l, 9 ≤ l → clrS S v l = false := fun l hl => by
  unfold clrS; split
  · rfl
  · exact h l hl
noncomputable def aAt (g : Sg) (e what : Int) : Int := if 0 ≤ e ∧ e < g.1 then (if 0 ≤ what ∧ what ≤ 1 then w32 (low (oX g e.toNat) (oD g) what) else -2000000002) else -2000000001
noncomputable def aPix (g : Sg) (e : Int) : Int := if 0 ≤ e ∧ e < g.1 then w32 (pix (oX g e.toNat) (oD g)) else -2000000001
noncomputable def oOff (g : Sg) (w : Nat) : Int := offV ((sC g).2.1 w) (gW (sC g) g.1 w (oX g) (oD g))
def isW (g : Sg) (w : Int) : Prop := 0 ≤ w ∧ w < 9 ∧ g.2.2.1 w.toNat ≠ 0
noncomputable def aOff (g : Sg) (w what : Int) : Int := @ite Int (isW g w) (Classical.propDecidable _) (if 0 ≤ what ∧ what ≤ 1 then low (oOff g w.toNat) (oD g) what else -2000000002) (-2000000001)
noncomputable def aCost (g : Sg) (L what : Int) : Int := if (1 ≤ L ∧ L ≤ 3) ∧ 0 ≤ what ∧ what ≤ 1 then low (cT (sC g) g.1 (sS g) L.toNat (oX g) (oD g)) (oD g) what else -2000000002
section ASK
variable {sa sb : Nat} {iv : mIv} {Q : Option mV → mIv → mRv → Prop} {g : Sg}
theorem gapX_W (hW : Wc iv g) (hB : sB g) {b w : Nat} (hw : w < 9) : gapX iv b g.1 w = gW (sC g) g.1 w (iv (b + 1)) (iv b 0) := by
  obtain ⟨a0, a1, a2, a3, a4, a5, a6⟩ := hW.2.2.2 w hw
  have hn := hB.1.1
  unfold gapX gW
  rw [a5, sm_congr (fun e he => by rw [a6 e (by omega)])]
theorem m6c (hB : sB g) (hW : Wc iv g) {b w : Nat} (hb : b = 24 ∨ b = 45) (hw : w < 9) {c : Cg} {S : Nat → Bool} (hs : solS c g.1 S iv b) : Ex 6 0 [vR b, vR (6 + 2 * w), none, none, none] [] iv (RV sa sb) Q = Q (vL (offV ((sC g).2.1 w) (gW (sC g) g.1 w (iv (b + 1)) (iv b 0)))) iv (RV sa sb) ∧ -400000000000 ≤ gW (sC g) g.1 w (iv (b + 1)) (iv b 0) ∧ gW (sC g) g.1 w (iv (b + 1)) (iv b 0) ≤ 400000000000 := by
  obtain ⟨m, h1, h2, h3, h4⟩ := hs
  obtain ⟨a0, a1, a2, a3, a4, a5, a6⟩ := hW.2.2.2 w hw
  have := m6 (sa := sa) (sb := sb) (Q := Q) hb hw hB.1.1 h1.1.1 ⟨h2.1, h3⟩ (fun e he => by rw [a6 e he]; exact hB.1.2.1 w hw e he) (by rw [a5]; exact (hB.1.2.2.1 w hw).2.2.2) h4
  rw [gapX_W hW hB hw, a2] at this
  exact this
theorem offV_bd {re x B : Int} (h : -B ≤ x ∧ x ≤ B) : 0 ≤ offV re x ∧ offV re x ≤ B := by
  refine ⟨offV_nn re x, ?_⟩
  unfold offV absI
  split
  · split <;> omega
  · split
    · split <;> omega
    · split <;> omega
theorem m55 (hS : hSS sa sb) {e : Nat} {n : Nat} (hn : n ≤ 5) (he : e < n) {c : Cg} {S : Nat → Bool} (hs : solS c n S iv sa) : Ex 55 0 [vR 0, vI e] [] iv (RV sa sb) Q = Q (vL (pix (iv (sa + 1) e) (iv sa 0))) iv (RV sa sb) := by
  obtain ⟨m, h1, h2, h3, h4⟩ := hs
  have hd := h2.1
  have hp := h4 e he
  rw [b55_0 hS, if_pos hd, b55_14 hS (by omega) (by omega), Int.toNat_natCast, w64_of (x := 2 * iv (sa + 1) e) (by omega) (by omega), w64_of (x := 2 * iv (sa + 1) e + iv sa 0) (by omega) (by omega), w64_of (x := 2 * iv sa 0) (by omega) (by omega), m98 (by omega) (by omega)]
  show Ex 55 49 _ [.inr (.inl _)] _ _ _ = _
  rw [b55_49]
  rfl
theorem c32 {x y : Int} (hB : sB g) (h : Rc iv sa sb g) (hk : ∀ iv' : mIv, frM iv iv' → Rc iv' sa sb g → Q (vI (aAt g x y)) iv' (RV sa sb)) : Ex 32 0 [vR 0, vI x, vI y] [] iv (RV sa sb) Q := by
  have hr := hk iv (fun _ _ _ => rfl) h
  have hS := h.1
  unfold aAt at hk hr
  rw [b32_0, m43, h.2.1.1]
  by_cases c : 0 ≤ x ∧ x < (g.1 : Int)
  · rw [if_pos c]
    rw [if_pos c] at hr
    show Ex 32 5 _ [.inl 1] _ _ _
    rw [b32_5, if_neg (by omega), b32_11, m42]
    by_cases d : 0 ≤ y ∧ y ≤ 1
    · rw [if_pos d]
      show Ex 32 15 _ [.inl 1] _ _ _
      rw [b32_15, if_neg (by omega), b32_21]
      refine m51 hB h (fun iv' f h6 h' hs => ?_)
      have hn := hB.1.1
      show Ex 32 25 _ [] _ _ _
      rw [b32_25 hS c.1 (by omega)]
      have hs0 := hs
      obtain ⟨m, h1, h2, h3, h4⟩ := hs
      have hp := h4 x.toNat (by omega)
      rw [m56 ⟨h2.1, h3⟩ (by omega)]
      show Ex 32 45 _ [.inr (.inl _)] _ _ _
      rw [b32_45]
      have := hk iv' (f.M hS.a) h'
      rw [if_pos c, if_pos d] at this
      rw [(oP_eq hB.1 (sS_hi g) h2).1 x.toNat (by omega) y]
      exact this
    · rw [if_neg d]
      rw [if_neg d] at hr
      show Ex 32 15 _ [.inl 0] _ _ _
      rw [b32_15, if_pos rfl, b32_18]
      exact hr
  · rw [if_neg c]
    rw [if_neg c] at hr
    show Ex 32 5 _ [.inl 0] _ _ _
    rw [b32_5, if_pos rfl, b32_8]
    exact hr
theorem c33 {x : Int} (hB : sB g) (h : Rc iv sa sb g) (hk : ∀ iv' : mIv, frM iv iv' → Rc iv' sa sb g → Q (vI (aPix g x)) iv' (RV sa sb)) : Ex 33 0 [vR 0, vI x] [] iv (RV sa sb) Q := by
  have hr := hk iv (fun _ _ _ => rfl) h
  have hS := h.1
  unfold aPix at hk hr
  rw [b33_0, m43, h.2.1.1]
  by_cases c : 0 ≤ x ∧ x < (g.1 : Int)
  · rw [if_pos c]
    show Ex 33 5 _ [.inl 1] _ _ _
    rw [b33_5, if_neg (by omega), b33_11]
    refine m51 hB h (fun iv' f h6 h' hs => ?_)
    have hn := hB.1.1
    show Ex 33 15 _ [] _ _ _
    obtain ⟨e, he⟩ : ∃ e : Nat, x = e := ⟨x.toNat, by omega⟩
    subst he
    rw [b33_15, m55 hS hn (by omega) hs]
    show Ex 33 20 _ [.inr (.inl _)] _ _ _
    rw [b33_20]
    have := hk iv' (f.M hS.a) h'
    rw [if_pos c, Int.toNat_natCast] at this
    obtain ⟨m, h1, h2, h3, h4⟩ := hs
    rw [(oP_eq hB.1 (sS_hi g) h2).2.1 e (by omega)]
    exact this
  · rw [if_neg c]
    rw [if_neg c] at hr
    show Ex 33 5 _ [.inl 0] _ _ _
    rw [b33_5, if_pos rfl, b33_8]
    exact hr
theorem isW_iff (hW : Wc iv g) (x : Int) : (0 ≤ x ∧ x < 9 ∧ iv (6 + 2 * x.toNat) 0 ≠ 0) ↔ isW g x := by
  unfold isW
  constructor
  · rintro ⟨h1, h2, h3⟩
    rw [(hW.2.2.2 x.toNat (by omega)).1] at h3
    exact ⟨h1, h2, h3⟩
  · rintro ⟨h1, h2, h3⟩
    rw [← (hW.2.2.2 x.toNat (by omega)).1] at h3
    exact ⟨h1, h2, h3⟩
theorem m44c (hW : Wc iv g) {x : Int} (k1 : isW g x → Q (vI 1) iv (RV sa sb)) (k0 : ¬ isW g x → Q (vI 0) iv (RV sa sb)) : Ex 44 0 [vR 0, vI x] [] iv (RV sa sb) Q := by
  rw [m44]
  by_cases c : 0 ≤ x ∧ x < 9 ∧ iv (6 + 2 * x.toNat) 0 ≠ 0
  · rw [if_pos c]; exact k1 ((isW_iff hW x).mp c)
  · rw [if_neg c]; exact k0 (fun z => c ((isW_iff hW x).mpr z))
theorem c34 {x y : Int} (hB : sB g) (h : Rc iv sa sb g) (hk : ∀ iv' : mIv, frM iv iv' → Rc iv' sa sb g → Q (vL (aOff g x y)) iv' (RV sa sb)) : Ex 34 0 [vR 0, vI x, vI y] [] iv (RV sa sb) Q := by
  have hr := hk iv (fun _ _ _ => rfl) h
  have hS := h.1
  unfold aOff at hk hr
  rw [b34_0]
  refine m44c h.2.1 (fun c => ?_) (fun c => ?_)
  · rw [if_pos c] at hr
    show Ex 34 5 _ [.inl 1] _ _ _
    rw [b34_5, if_neg (by omega), b34_12, m42]
    by_cases d : 0 ≤ y ∧ y ≤ 1
    · rw [if_pos d]
      show Ex 34 16 _ [.inl 1] _ _ _
      rw [b34_16, if_neg (by omega), b34_23]
      refine m51 hB h (fun iv' f h6 h' hs => ?_)
      show Ex 34 27 _ [] _ _ _
      obtain ⟨e, he⟩ : ∃ e : Nat, x = e := ⟨x.toNat, by have := c.1; omega⟩
      subst he
      have hw : e < 9 := by have := c.2.1; omega
      obtain ⟨q1, q2⟩ := m6c (sa := sa) (sb := sb) (Q := fun v iv2 rv2 => Ex 34 40 [vR 0, vI e, vI y] (mpush v []) iv2 rv2 Q) hB h'.2.1 hS.a hw hs
      rw [b34_27 hS (by omega) (by omega), Int.toNat_natCast, q1]
      show Ex 34 40 _ [.inr (.inl _)] _ _ _
      have hs0 := hs
      obtain ⟨m, h1, h2, h3, h4⟩ := hs
      have q3 := offV_bd (re := (sC g).2.1 e) (B := 400000000000) q2
      rw [b34_40 hS, m56 ⟨h2.1, h3⟩ (by omega)]
      show Ex 34 51 _ [.inr (.inl _)] _ _ _
      rw [b34_51]
      have := hk iv' (f.M hS.a) h'
      rw [if_pos c, if_pos d, Int.toNat_natCast] at this
      rw [(oP_eq hB.1 (sS_hi g) h2).2.2.1 e y]
      exact this
    · rw [if_neg d]
      rw [if_neg d] at hr
      show Ex 34 16 _ [.inl 0] _ _ _
      rw [b34_16, if_pos rfl, b34_19]
      exact hr
  · rw [if_neg c] at hr
    show Ex 34 5 _ [.inl 0] _ _ _
    rw [b34_5, if_pos rfl, b34_8]
    exact hr
theorem m18c (hW : Wc iv g) {k : Nat} (hk : k < 9) : Ex 18 0 [vR (6 + 2 * k)] [] iv (RV sa sb) Q = Q (vI (if sS g k = true then 1 else 0)) iv (RV sa sb) := by
  obtain ⟨a0, a1, a2, a3, a4, a5, a6⟩ := hW.2.2.2 k hk
  rw [m18 hk, a0, a1]
  unfold sS
  by_cases c : g.2.2.1 k ≠ 0 ∧ g.2.2.2.1 k = 0
  · rw [if_pos c, if_pos (decide_eq_true ⟨hk, c⟩)]
  · rw [if_neg c, if_neg (fun z => c (of_decide_eq_true z).2)]
theorem w_cs {s a o : Int} {k : Nat} (hk : k < 9) (hs : 0 ≤ s ∧ s ≤ 4000000000000 * (k : Int)) (ha : 0 ≤ a ∧ a ≤ 9) (ho : 0 ≤ o ∧ o ≤ 400000000000) : w64 (s + w64 (a * o)) = s + a * o ∧ 0 ≤ s + a * o ∧ s + a * o ≤ 4000000000000 * ((k + 1 : Nat) : Int) := by
  have h1 := Int.mul_nonneg ha.1 ho.1
  have h2 : a * o ≤ 9 * 400000000000 := Int.mul_le_mul ha.2 ho.2 ho.1 (by omega)
  refine ⟨?_, by omega, by omega⟩
  rw [w64_of (x := a * o) (by omega) (by omega), w64_of (by omega) (by omega)]
theorem c35 {x y : Int} (hB : sB g) (h : Rc iv sa sb g) (hk : ∀ iv' : mIv, frM iv iv' → Rc iv' sa sb g → Q (vL (aCost g x y)) iv' (RV sa sb)) : Ex 35 0 [vR 0, vI x, vI y, none, none, none, none] [] iv (RV sa sb) Q := by
  have hr := hk iv (fun _ _ _ => rfl) h
  have hS := h.1
  unfold aCost at hk hr
  have bad : ¬ ((1 ≤ x ∧ x ≤ 3) ∧ 0 ≤ y ∧ y ≤ 1) → Ex 35 16 [vR 0, vI x, vI y, none, none, none, none] [] iv (RV sa sb) Q := fun z => by
    rw [b35_16]
    rw [if_neg z] at hr
    exact hr
  rw [b35_0]
  by_cases c1 : 0 < x
  · rw [if_pos c1, b35_4]
    by_cases c2 : x < 4
    · rw [if_pos c2, b35_9, m42]
      by_cases d : 0 ≤ y ∧ y ≤ 1
      · rw [if_pos d]
        show Ex 35 13 _ [.inl 1] _ _ _
        rw [b35_13, if_neg (by omega), b35_20]
        refine m51 hB h (fun iv' f h6 h' hs => ?_)
        show Ex 35 24 _ [] _ _ _
        rw [b35_24]
        obtain ⟨L, hLe⟩ : ∃ L : Nat, x = L := ⟨x.toNat, by omega⟩
        subst hLe
        have hfin := hk iv' (f.M hS.a) h'
        rw [if_pos ⟨by omega, d⟩, Int.toNat_natCast] at hfin
        have loop : ∀ t k : Nat, k + t = 9 → ∀ (s : Int) (u6 : Option mV), s = sm k (fun w => ind (sS g w = true ∧ ((sC g).2.2.1 w).toNat = L) ((sC g).2.2.2.1 w * offV ((sC g).2.1 w) (gW (sC g) g.1 w (iv' (sa + 1)) (iv' sa 0)))) → (0 ≤ s ∧ s ≤ 4000000000000 * (k : Int)) → Ex 35 29 [vR 0, vI L, vI y, vL s, none, vI k, u6] [] iv' (RV sa sb) Q := by
          intro t
          induction t with
          | zero =>
            intro k hk' s u6 hse hsb
            have : k = 9 := by omega
            subst this
            rw [b35_29, if_neg (by omega), b35_87 hS]
            have hs0 := hs
            obtain ⟨m, h1, h2, h3, h4⟩ := hs
            rw [m56 ⟨h2.1, h3⟩ (by omega)]
            show Ex 35 99 _ [.inr (.inl _)] _ _ _
            rw [b35_99, hse, ← cT_off hB.1 (by omega), (oP_eq hB.1 (sS_hi g) h2).2.2.2.1 L (by omega) y]
            exact hfin
          | succ t ih =>
            intro k hk' s u6 hse hsb
            have xk : ((k : Int)).toNat = k := Int.toNat_natCast k
            obtain ⟨a0, a1, a2, a3, a4, a5, a6⟩ := h'.2.1.2.2.2 k (by omega)
            have bw := hB.1.2.2.1 k (by omega)
            have e9 : sm (k + 1) (fun w => ind (sS g w = true ∧ ((sC g).2.2.1 w).toNat = L) ((sC g).2.2.2.1 w * offV ((sC g).2.1 w) (gW (sC g) g.1 w (iv' (sa + 1)) (iv' sa 0)))) = s + ind (sS g k = true ∧ ((sC g).2.2.1 k).toNat = L) ((sC g).2.2.2.1 k * offV ((sC g).2.1 k) (gW (sC g) g.1 k (iv' (sa + 1)) (iv' sa 0))) := by rw [hse]; rfl
            have skip : ¬ (sS g k = true ∧ ((sC g).2.2.1 k).toNat = L) → Ex 35 81 [vR 0, vI L, vI y, vL s, none, vI k, vR (6 + 2 * k)] [] iv' (RV sa sb) Q := fun z => by
              rw [b35_81 (by omega), w32_of (by omega) (by omega)]
              refine ih (k + 1) (by omega) s _ ?_ (by omega)
              rw [e9]; unfold ind; rw [if_neg z, Int.add_zero]
            rw [b35_29, if_pos (by omega), b35_36 (by omega) (by omega), xk, m18c h'.2.1 (by omega)]
            by_cases z : sS g k = true
            · rw [if_pos z]
              show Ex 35 50 _ [.inl 1] _ _ _
              rw [b35_50 (by omega), if_neg (by omega), b35_53 (by omega), a3]
              by_cases w : (sC g).2.2.1 k = (L : Int)
              · rw [if_pos w]
                obtain ⟨q1, q2⟩ := m6c (sa := sa) (sb := sb) (Q := fun v iv2 rv2 => Ex 35 78 [vR 0, vI L, vI y, vL s, none, vI k, vR (6 + 2 * k)] (mpush v [.inr (.inl (iv' (6 + 2 * k) 4)), .inr (.inl s)]) iv2 rv2 Q) hB h'.2.1 hS.a (show k < 9 by omega) hs
                rw [b35_62 (by omega) hS, q1]
                show Ex 35 78 _ [.inr (.inl _), .inr (.inl (iv' (6 + 2 * k) 4)), .inr (.inl s)] _ _ _
                have q3 := offV_bd (re := (sC g).2.1 k) (B := 400000000000) q2
                obtain ⟨g1, g2⟩ := w_cs (show k < 9 by omega) hsb bw.2.2.1 q3
                rw [b35_78 (by omega), a4, g1, b35_81 (by omega), w32_of (by omega) (by omega)]
                refine ih (k + 1) (by omega) _ _ ?_ g2
                rw [e9]; unfold ind; rw [if_pos ⟨z, by rw [w]; rfl⟩]
              · rw [if_neg w]
                exact skip (fun y => w (by have := y.2; omega))
            · rw [if_neg z]
              show Ex 35 50 _ [.inl 0] _ _ _
              rw [b35_50 (by omega), if_pos rfl]
              exact skip (fun y => z y.1)
        exact loop 9 0 rfl 0 none rfl (by omega)
      · rw [if_neg d]
        show Ex 35 13 _ [.inl 0] _ _ _
        rw [b35_13, if_pos rfl]
        exact bad (fun z => d z.2)
    · rw [if_neg c2]
      exact bad (fun z => by omega)
  · rw [if_neg c1]
    exact bad (fun z => by omega)
end ASK
