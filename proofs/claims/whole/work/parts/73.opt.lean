/-! missOf, copy, drop; best points: there is one, and just one -/
theorem m100 {sa sb : Nat} {iv : mIv} {Q : Option mV → mIv → mRv → Prop} {x y : Int} : Ex 100 0 [vL x, none, vL y, none] [] iv (RV sa sb) Q = Q (vL (if x < y then y else x)) iv (RV sa sb) := by
  rw [b100_0]
  by_cases c : x < y
  · rw [if_pos c, if_pos c, b100_10, b100_11]
  · rw [if_neg c, if_neg c, b100_6, b100_11]
def offV (re g : Int) : Int := if re = 1 then (if g < 0 then 0 else g) else if re = 2 then (if -g < 0 then 0 else -g) else absI g
theorem w_ms {s f p : Int} {e : Nat} (he : e < 5) (hs : -(63000000000 * (e : Int)) - 30000000 ≤ s ∧ s ≤ 63000000000 * (e : Int) + 30000000) (hf : -3 ≤ f ∧ f ≤ 3) (hp : -21000000000 ≤ p ∧ p ≤ 21000000000) : w64 (s + w64 (f * p)) = s + f * p ∧ -(63000000000 * ((e + 1 : Nat) : Int)) - 30000000 ≤ s + f * p ∧ s + f * p ≤ 63000000000 * ((e + 1 : Nat) : Int) + 30000000 := by
  have h := mul_bd (B := 3) (C := 21000000000) hf hp
  refine ⟨?_, by omega, by omega⟩
  rw [w64_of (x := f * p) (by omega) (by omega), w64_of (by omega) (by omega)]
theorem w_nd {u d : Int} (hu : -1000 ≤ u ∧ u ≤ 1000) (hd : 0 < d ∧ d ≤ 29160) : w64 (w32 (-u) * d) = 0 - u * d ∧ -30000000 ≤ 0 - u * d ∧ 0 - u * d ≤ 30000000 := by
  have h := mul_bd (B := 1000) (C := 29160) (show -1000 ≤ -u ∧ -u ≤ 1000 by omega) (show -29160 ≤ d ∧ d ≤ 29160 by omega)
  rw [w32_of (by omega) (by omega)]
  have e : -u * d = 0 - u * d := by grind
  rw [e] at h ⊢
  exact ⟨w64_of (by omega) (by omega), by omega, by omega⟩
def gapX (iv : mIv) (b n k : Nat) : Int := sm n (fun e => iv (7 + 2 * k) e * iv (b + 1) e) - iv (6 + 2 * k) 5 * iv b 0
theorem m6 {sa sb : Nat} {iv : mIv} {Q : Option mV → mIv → mRv → Prop} {b n k : Nat} (hb : b = 24 ∨ b = 45) (hk : k < 9) (hn : n ≤ 5) (h3 : iv b 3 = n) (hd : 0 < iv b 0 ∧ iv b 0 ≤ 29160) (hfa : ∀ e, e < 5 → -3 ≤ iv (7 + 2 * k) e ∧ iv (7 + 2 * k) e ≤ 3) (hnu : -1000 ≤ iv (6 + 2 * k) 5 ∧ iv (6 + 2 * k) 5 ≤ 1000) (hp : ∀ e, e < n → -21000000000 ≤ iv (b + 1) e ∧ iv (b + 1) e ≤ 21000000000) : Ex 6 0 [vR b, vR (6 + 2 * k), none, none, none] [] iv (RV sa sb) Q = Q (vL (offV (iv (6 + 2 * k) 2) (gapX iv b n k))) iv (RV sa sb) ∧ -400000000000 ≤ gapX iv b n k ∧ gapX iv b n k ≤ 400000000000 := by
  have loop : ∀ t e : Nat, e + t = n → ∀ s : Int, s = sm e (fun e => iv (7 + 2 * k) e * iv (b + 1) e) - iv (6 + 2 * k) 5 * iv b 0 → (-(63000000000 * (e : Int)) - 30000000 ≤ s ∧ s ≤ 63000000000 * (e : Int) + 30000000) → Ex 6 15 [vR b, vR (6 + 2 * k), vL s, none, vI e] [] iv (RV sa sb) Q = Q (vL (offV (iv (6 + 2 * k) 2) (gapX iv b n k))) iv (RV sa sb) ∧ -400000000000 ≤ gapX iv b n k ∧ gapX iv b n k ≤ 400000000000 := by
    intro t
    induction t with
    | zero =>
      intro e he s hs hsb
      have : e = n := by omega
      subst this
      have hg : s = gapX iv b e k := hs
      refine ⟨?_, by omega, by omega⟩
      rw [b6_15 hb hk, if_neg (by rw [h3]; omega), b6_49 hb hk, ← hg]
      unfold offV
      by_cases c1 : iv (6 + 2 * k) 2 = 1
      · rw [if_pos c1, if_pos c1, b6_57 hb hk, m100]
        show Ex 6 62 _ [.inr (.inl (if s < 0 then 0 else s))] _ _ _ = _
        rw [b6_62 hb hk]
      · rw [if_neg c1, if_neg c1, b6_63 hb hk]
        by_cases c2 : iv (6 + 2 * k) 2 = 2
        · rw [if_pos c2, if_pos c2, b6_71 hb hk, w64_of (by omega) (by omega), m100]
          show Ex 6 77 _ [.inr (.inl (if -s < 0 then 0 else -s))] _ _ _ = _
          rw [b6_77 hb hk, b6_84 hb hk]
        · rw [if_neg c2, if_neg c2, b6_80 hb hk, m99 (by omega) (by omega)]
          show Ex 6 84 _ [.inr (.inl (absI s))] _ _ _ = _
          rw [b6_84 hb hk]
    | succ t ih =>
      intro e he s hs hsb
      have xe : ((e : Int)).toNat = e := Int.toNat_natCast e
      obtain ⟨g1, g2⟩ := w_ms (show e < 5 by omega) hsb (hfa e (by omega)) (hp e (by omega))
      rw [b6_15 hb hk, if_pos (by rw [h3]; omega), b6_24 hb hk (by omega) (by omega), xe, g1, w32_of (by omega) (by omega)]
      refine ih (e + 1) (by omega) _ ?_ g2
      have e9 : sm (e + 1) (fun e => iv (7 + 2 * k) e * iv (b + 1) e) = sm e (fun e => iv (7 + 2 * k) e * iv (b + 1) e) + iv (7 + 2 * k) e * iv (b + 1) e := rfl
      rw [hs, e9]
      clear g1 g2
      omega
  obtain ⟨z1, z2⟩ := w_nd hnu hd
  rw [b6_0 hb hk, z1]
  exact loop n 0 (by omega) _ rfl (by omega)
theorem cp_at {iv : mIv} {r q j : Nat} {n : Int} (h : (j : Int) < n) : cpyv iv r q 0 0 n q j = iv r j := by
  unfold cpyv
  rw [if_pos ⟨rfl, by omega, by omega⟩]
  congr 1
  show 0 + (j - 0) = j
  omega
theorem cp_ne {iv : mIv} {r q y j : Nat} {n : Int} (h : y ≠ q) : cpyv iv r q 0 0 n y j = iv y j := by
  unfold cpyv
  rw [if_neg (fun z => h z.1)]
theorem cp_ge {iv : mIv} {r q y j : Nat} {n : Int} (h : n ≤ (j : Int)) : cpyv iv r q 0 0 n y j = iv y j := by
  unfold cpyv
  rw [if_neg (fun z => by omega)]
theorem m2 {c : Cg} {n m : Nat} {S : Nat → Bool} {sa sb : Nat} {iv : mIv} {Q : Option mV → mIv → mRv → Prop} {b d : Nat} (hb : b = 24 ∨ b = 45) (hd : d = 24 ∨ d = 45) (hne : b ≠ d) (hsol : solB iv b) (h : okL c n S iv d m) (hk : ∀ iv' : mIv, frB b iv iv' → okL c n S iv' b m → Q none iv' (RV sa sb)) : Ex 2 0 [vR b, vR d, none] [] iv (RV sa sb) Q := by
  have h0 := h
  obtain ⟨⟨a1, a2, a3, a4, a5, a6, a7, a8, a9⟩, e2, e3⟩ := h
  rw [b2_0 hb hd]
  generalize hI : cpyv (cpyv (cpyv (cpyv (cpyv (cpyv (cpyv (cpyv (st2 (st2 (st2 iv b 0 (iv d 0)) b 2 ((st2 iv b 0 (iv d 0)) d 2)) b 3 ((st2 (st2 iv b 0 (iv d 0)) b 2 ((st2 iv b 0 (iv d 0)) d 2)) d 3)) (d + 2) (b + 2) 0 0 9) (d + 3) (b + 3) 0 0 9) (d + 4) (b + 4) 0 0 5) (d + 5) (b + 5) 0 0 9) (d + 16) (b + 16) 0 0 5) (d + 17) (b + 17) 0 0 14) (d + 18) (b + 18) 0 0 14) (d + 19) (b + 19) 0 0 14 = iv1
  have f : ∀ p j, p ≠ b → p ≠ b + 2 → p ≠ b + 3 → p ≠ b + 4 → p ≠ b + 5 → p ≠ b + 16 → p ≠ b + 17 → p ≠ b + 18 → p ≠ b + 19 → iv1 p j = iv p j := fun p j n0 n2 n3 n4 n5 n16 n17 n18 n19 => by
    rw [← hI, cp_ne n19, cp_ne n18, cp_ne n17, cp_ne n16, cp_ne n5, cp_ne n4, cp_ne n3, cp_ne n2, st2_ne n0, st2_ne n0, st2_ne n0]
  have g0 : iv1 b 0 = iv d 0 := by
    rw [← hI, cp_ne (by omega), cp_ne (by omega), cp_ne (by omega), cp_ne (by omega), cp_ne (by omega), cp_ne (by omega), cp_ne (by omega), cp_ne (by omega), st2_nk (by omega), st2_nk (by omega), st2_eq]
  have g2 : iv1 b 2 = iv d 2 := by
    rw [← hI, cp_ne (by omega), cp_ne (by omega), cp_ne (by omega), cp_ne (by omega), cp_ne (by omega), cp_ne (by omega), cp_ne (by omega), cp_ne (by omega), st2_nk (by omega), st2_eq, st2_ne (by omega)]
  have g3 : iv1 b 3 = iv d 3 := by
    rw [← hI, cp_ne (by omega), cp_ne (by omega), cp_ne (by omega), cp_ne (by omega), cp_ne (by omega), cp_ne (by omega), cp_ne (by omega), cp_ne (by omega), st2_eq, st2_ne (by omega), st2_ne (by omega)]
  have r2 : ∀ j, j < 9 → iv1 (b + 2) j = iv (d + 2) j := fun j hj => by
    rw [← hI, cp_ne (by omega), cp_ne (by omega), cp_ne (by omega), cp_ne (by omega), cp_ne (by omega), cp_ne (by omega), cp_ne (by omega), cp_at (by omega), st2_ne (by omega), st2_ne (by omega), st2_ne (by omega)]
  have r3 : ∀ j, j < 9 → iv1 (b + 3) j = iv (d + 3) j := fun j hj => by
    rw [← hI, cp_ne (by omega), cp_ne (by omega), cp_ne (by omega), cp_ne (by omega), cp_ne (by omega), cp_ne (by omega), cp_at (by omega), cp_ne (by omega), st2_ne (by omega), st2_ne (by omega), st2_ne (by omega)]
  have r4 : ∀ j, j < 5 → iv1 (b + 4) j = iv (d + 4) j := fun j hj => by
    rw [← hI, cp_ne (by omega), cp_ne (by omega), cp_ne (by omega), cp_ne (by omega), cp_ne (by omega), cp_at (by omega), cp_ne (by omega), cp_ne (by omega), st2_ne (by omega), st2_ne (by omega), st2_ne (by omega)]
  have r5 : ∀ j, j < 9 → iv1 (b + 5) j = iv (d + 5) j := fun j hj => by
    rw [← hI, cp_ne (by omega), cp_ne (by omega), cp_ne (by omega), cp_ne (by omega), cp_at (by omega), cp_ne (by omega), cp_ne (by omega), cp_ne (by omega), st2_ne (by omega), st2_ne (by omega), st2_ne (by omega)]
  have r16 : ∀ j, j < 5 → iv1 (b + 16) j = iv (d + 16) j := fun j hj => by
    rw [← hI, cp_ne (by omega), cp_ne (by omega), cp_ne (by omega), cp_at (by omega), cp_ne (by omega), cp_ne (by omega), cp_ne (by omega), cp_ne (by omega), st2_ne (by omega), st2_ne (by omega), st2_ne (by omega)]
  have r17 : ∀ j, j < 14 → iv1 (b + 17) j = iv (d + 17) j := fun j hj => by
    rw [← hI, cp_ne (by omega), cp_ne (by omega), cp_at (by omega), cp_ne (by omega), cp_ne (by omega), cp_ne (by omega), cp_ne (by omega), cp_ne (by omega), st2_ne (by omega), st2_ne (by omega), st2_ne (by omega)]
  have r18 : ∀ j, j < 14 → iv1 (b + 18) j = iv (d + 18) j := fun j hj => by
    rw [← hI, cp_ne (by omega), cp_at (by omega), cp_ne (by omega), cp_ne (by omega), cp_ne (by omega), cp_ne (by omega), cp_ne (by omega), cp_ne (by omega), st2_ne (by omega), st2_ne (by omega), st2_ne (by omega)]
  have r19 : ∀ j, j < 14 → iv1 (b + 19) j = iv (d + 19) j := fun j hj => by
    rw [← hI, cp_at (by omega), cp_ne (by omega), cp_ne (by omega), cp_ne (by omega), cp_ne (by omega), cp_ne (by omega), cp_ne (by omega), cp_ne (by omega), st2_ne (by omega), st2_ne (by omega), st2_ne (by omega)]
  have o18 : ∀ j, 14 ≤ j → iv1 (b + 18) j = iv (b + 18) j := fun j hj => by
    rw [← hI, cp_ne (by omega), cp_ge (by omega), cp_ne (by omega), cp_ne (by omega), cp_ne (by omega), cp_ne (by omega), cp_ne (by omega), cp_ne (by omega), st2_ne (by omega), st2_ne (by omega), st2_ne (by omega)]
  have o19 : ∀ j, 14 ≤ j → iv1 (b + 19) j = iv (b + 19) j := fun j hj => by
    rw [← hI, cp_ge (by omega), cp_ne (by omega), cp_ne (by omega), cp_ne (by omega), cp_ne (by omega), cp_ne (by omega), cp_ne (by omega), cp_ne (by omega), st2_ne (by omega), st2_ne (by omega), st2_ne (by omega)]
  clear hI
  have loop : ∀ t k : Nat, k + t = m → ∀ ivc : mIv, (∀ p j, (∀ i, i < 9 → p ≠ b + 7 + i) → ivc p j = iv1 p j) → (∀ i, i < k → ∀ j, j < 5 → ivc (b + 7 + i) j = iv (d + 7 + i) j) → (∀ i, i < 9 → ∀ j, ivc (d + 7 + i) j = iv (d + 7 + i) j) → Ex 2 144 [vR b, vR d, vI k] [] ivc (RV sa sb) Q := by
    intro t
    induction t with
    | zero =>
      intro k hkm ivc f1 f2 f3
      have : k = m := by omega
      subst this
      have fb : ∀ j, ivc b j = iv1 b j := fun j => f1 b j (fun i _ => by omega)
      rw [b2_144 hb hd, if_neg (by rw [fb, g2, a2]; omega), b2_176 hb hd]
      refine hk ivc (fun p j hp => by rw [f1 p j (fun i _ => by omega)]; exact f p j (by omega) (by omega) (by omega) (by omega) (by omega) (by omega) (by omega) (by omega) (by omega)) ⟨⟨by rw [fb, g3]; exact a1, by rw [fb, g2]; exact a2, a3, a4, fun i hi => by rw [f1 _ _ (fun i _ => by omega), r2 i (by omega)]; exact a5 i hi, fun j hj => by rw [f1 _ _ (fun i _ => by omega), r4 j (by omega)]; exact a6 j hj, fun l hl => by rw [f1 _ _ (fun i _ => by omega), r17 l hl]; exact a7 l hl, fun l => ?_, DI_congr (D := dcM iv d) (fun j hj => ?_) (fun i hi => ?_) ?_ (fun i hi j hj => ?_) (fun i hi => ?_) (fun i hi => ?_) a9⟩, fun l hl hP => ?_, fun e he => by rw [f1 _ _ (fun i _ => by omega), r16 e (by omega)]; exact e3 e he⟩
      · unfold abF beF
        rw [f1 _ _ (fun i _ => by omega), f1 _ _ (fun i _ => by omega)]
        by_cases c14 : l < 14
        · rw [r18 l c14, r19 l c14]; exact a8 l
        · rw [o18 l (by omega), o19 l (by omega)]; exact hsol.1 l
      · show lnC ivc b j = lnC iv d j
        unfold lnC; rw [f1 _ _ (fun i _ => by omega), r4 j (by omega)]
      · show lnR ivc b i = lnR iv d i
        unfold lnR; rw [f1 _ _ (fun i _ => by omega), r2 i (by omega)]
      · show ivc b 0 = iv d 0
        rw [fb, g0]
      · exact f2 i hi j (by omega)
      · show ivc (b + 5) i = iv (d + 5) i
        rw [f1 _ _ (fun i _ => by omega), r5 i (by omega)]
      · show ivc (b + 3) i = iv (d + 3) i
        rw [f1 _ _ (fun i _ => by omega), r3 i (by omega)]
      · unfold lvF abF beF
        rw [f1 _ _ (fun i _ => by omega), f1 _ _ (fun i _ => by omega), f1 _ _ (fun i _ => by omega), r17 l hl, r18 l hl, r19 l hl]
        exact e2 l hl hP
    | succ t ih =>
      intro k hkm ivc f1 f2 f3
      have xk : ((k : Int)).toNat = k := Int.toNat_natCast k
      have fb : ∀ j, ivc b j = iv1 b j := fun j => f1 b j (fun i _ => by omega)
      rw [b2_144 hb hd, if_pos (by rw [fb, g2, a2]; omega), b2_152 hb hd (by omega) (by omega), xk, w32_of (by omega) (by omega)]
      refine ih (k + 1) (by omega) _ (fun p j hp => by rw [cp_ne (hp k (by omega))]; exact f1 p j hp) (fun i hi j hj => ?_) (fun i hi j => by rw [cp_ne (by omega)]; exact f3 i hi j)
      by_cases e : i = k
      · rw [e, cp_at (by omega), f3 k (by omega)]
      · rw [cp_ne (by omega)]; exact f2 i (by omega) j hj
  exact loop m 0 (by omega) iv1 (fun _ _ _ => rfl) (fun i hi => by omega) (fun i hi j => f _ _ (by omega) (by omega) (by omega) (by omega) (by omega) (by omega) (by omega) (by omega) (by omega))
/-- a wish that weighs nothing -/
def dropW (c : Cg) (v : Nat) : Cg := (c.1, c.2.1, c.2.2.1, fun w => if w = v then 0 else c.2.2.2.1 w, c.2.2.2.2.1, c.2.2.2.2.2)
def clrS (S : Nat → Bool) (v : Nat) : Nat → Bool := fun l => if l = v then false else S l
theorem dropW_B {c : Cg} {n v : Nat} (h : cB c n) : cB (dropW c v) n := by
  obtain ⟨h1, h2, h3, h4⟩ := h
  refine ⟨h1, h2, fun w hw => ?_, h4⟩
  obtain ⟨q1, q2, q3, q4⟩ := h3 w hw
  refine ⟨q1, q2, ?_, q4⟩
  show 0 ≤ (if w = v then 0 else c.2.2.2.1 w) ∧ (if w = v then 0 else c.2.2.2.1 w) ≤ 9
  split
  · omega
  · exact q3
theorem m3 {c : Cg} {n m v : Nat} {S : Nat → Bool} {sa sb : Nat} {iv : mIv} {Q : Option mV → mIv → mRv → Prop} {b : Nat} (hb : b = 24 ∨ b = 45) (hv : v < 9) (h : okL c n S iv b m) (hk : ∀ iv' : mIv, frB b iv iv' → okL (dropW c v) n S iv' b m → Q none iv' (RV sa sb)) : Ex 3 0 [vR b, vI v] [] iv (RV sa sb) Q := by
  obtain ⟨⟨a1, a2, a3, a4, a5, a6, a7, a8, a9⟩, e2, e3⟩ := h
  rw [b3_0 hb (by omega) (by omega), Int.toNat_natCast]
  have f : ∀ p j, p ≠ b + 18 → p ≠ b + 19 → st2 (st2 iv (b + 18) v 0) (b + 19) v 0 p j = iv p j := fun p j n18 n19 => by rw [st2_ne n19, st2_ne n18]
  refine hk _ (fun p j hp => f p j (by omega) (by omega)) ⟨⟨by rw [f b 3 (by omega) (by omega)]; exact a1, by rw [f b 2 (by omega) (by omega)]; exact a2, a3, a4, fun i hi => by rw [f _ _ (by omega) (by omega)]; exact a5 i hi, fun j hj => by rw [f _ _ (by omega) (by omega)]; exact a6 j hj, fun l hl => by rw [f _ _ (by omega) (by omega)]; exact a7 l hl, fun l => ?_, DI_congr (D := dcM iv b) (fun j hj => ?_) (fun i hi => ?_) ?_ (fun i hi j hj => ?_) (fun i hi => ?_) (fun i hi => ?_) a9⟩, fun l hl hP => ?_, fun e he => by rw [f _ _ (by omega) (by omega)]; exact e3 e he⟩
  · unfold abF beF
    have := a8 l
    unfold abF beF at this
    by_cases e : l = v
    · rw [e, st2_ne (by omega), st2_eq, st2_eq]; omega
    · rw [st2_nk e, st2_nk e, st2_nk e, st2_nk e]; exact this
  · show lnC _ b j = lnC iv b j
    unfold lnC; rw [f _ _ (by omega) (by omega)]
  · show lnR _ b i = lnR iv b i
    unfold lnR; rw [f _ _ (by omega) (by omega)]
  · exact f _ _ (by omega) (by omega)
  · exact f (b + 7 + i) j (by omega) (by omega)
  · exact f _ _ (by omega) (by omega)
  · exact f _ _ (by omega) (by omega)
  · obtain ⟨q1, q2, q3⟩ := e2 l hl hP
    refine ⟨?_, ?_, ?_⟩
    · rw [show clv (dropW c v) S l = clv c S l from rfl, ← q1]
      unfold lvF; rw [f _ _ (by omega) (by omega)]
    · show st2 _ _ _ _ (b + 18) l = _
      by_cases e : l = v
      · rw [e, st2_ne (by omega), st2_eq]
        unfold cab lab dropW
        rw [if_pos hv]
        simp
      · rw [st2_nk e, st2_nk e]
        refine Eq.trans q2 ?_
        unfold cab lab dropW
        simp only [if_neg e]
    · show st2 _ _ _ _ (b + 19) l = _
      by_cases e : l = v
      · rw [e, st2_eq]
        unfold cbe lbe dropW
        rw [if_pos hv]
        simp
      · rw [st2_nk e, st2_nk e]
        refine Eq.trans q3 ?_
        unfold cbe lbe dropW
        simp only [if_neg e]
/-- as good as not there -/
theorem cT_drop {c : Cg} {n v : Nat} {S : Nat → Bool} (hv : v < 9) (L : Nat) (X : Nat → Int) (q : Int) : cT (dropW c v) n S L X q = cT c n (clrS S v) L X q := by
  unfold cT tot
  exact sm_congr (fun l hl => by
    by_cases e : l = v
    · subst e
      have e1 : cab (dropW c l) n S l = 0 := by unfold cab lab dropW; rw [if_pos hv]; simp
      have e2 : cbe (dropW c l) n S l = 0 := by unfold cbe lbe dropW; rw [if_pos hv]; simp
      have e3 : lP n (clrS S l) l = false := by unfold lP clrS; rw [if_pos hv, if_pos rfl]
      rw [e1, e2, e3]
      unfold ind lcst
      simp
    · have hS : clrS S v l = S l := by unfold clrS; rw [if_neg e]
      have e1 : lP n (clrS S v) l = lP n S l := by unfold lP; rw [hS]
      have e2 : clv c (clrS S v) l = clv (dropW c v) S l := by unfold clv llv; rw [hS]; rfl
      have e3 : cab c n (clrS S v) l = cab (dropW c v) n S l := by unfold cab lab dropW; rw [hS]; simp only [if_neg e]
      have e4 : cbe c n (clrS S v) l = cbe (dropW c v) n S l := by unfold cbe lbe dropW; rw [hS]; simp only [if_neg e]
      have e5 : cA c n (clrS S v) l = cA (dropW c v) n S l := by funext t; unfold cA lA; rw [hS]; rfl
      have e6 : cK c n (clrS S v) l = cK (dropW c v) n S l := by unfold cK lK; rw [hS]; rfl
      have e7 : gp (cA c n (clrS S v)) (cK c n (clrS S v)) l X q = gp (cA (dropW c v) n S) (cK (dropW c v) n S) l X q := by unfold gp; rw [e5, e6]
      rw [e1, e2, e3, e4, e7])
theorem cOpt_drop {c : Cg} {n v Kl : Nat} {S : Nat → Bool} (hv : v < 9) {X : Nat → Int} {d : Int} (h : cOpt (dropW c v) n S Kl X d) : cOpt c n (clrS S v) Kl X d := by
  refine ⟨h.1, fun Y r hr => lxn_congr (fun L _ => ?_) (h.2 Y r hr)⟩
  rw [cT_drop hv, cT_drop hv]
/-- two best points are one -/
theorem cOpt_eq {c : Cg} {n : Nat} {S : Nat → Bool} (hB : cB c n) {X Y : Nat → Int} {d r : Int} (h1 : cOpt c n S (4 + n) X d) (h2 : cOpt c n S (4 + n) Y r) : (∀ e, e < n → r * X e = d * Y e) ∧ ∀ L, L < 4 + n → d * cT c n S L Y r = r * cT c n S L X d := by
  obtain ⟨u1, u2⟩ := uniq (A := cA c n S) (K := cK c n S) (ab := cab c n S) (be := cbe c n S) (lev := clv c S) (P := lP n S) (Kl := 4 + n) (fun l => (hB.ab S l).1) (fun l => (hB.be S l).1) h1.1 h1.2 (Y := Y) h2.1 (h2.2 X d h1.1)
  refine ⟨fun e he => ?_, u1⟩
  have hn := hB.1
  have := u2 (4 + e) (by omega) (9 + e) (by omega) (fun l hl => ?_) ?_ ?_
  · rw [gp_stay c S hn he, gp_stay c S hn he] at this
    have e1 : r * (X e - c.2.2.2.2.2 e * d) = r * X e - c.2.2.2.2.2 e * (d * r) := by grind
    have e2 : d * (Y e - c.2.2.2.2.2 e * r) = d * Y e - c.2.2.2.2.2 e * (d * r) := by grind
    omega
  · constructor
    · rintro ⟨_, hl2⟩
      unfold clv llv at hl2
      by_cases c9 : l < 9
      · rw [if_pos c9] at hl2
        have := (hB.2.2.1 l c9).2.1
        split at hl2 <;> omega
      · rw [if_neg c9] at hl2
        omega
    · intro e9
      subst e9
      refine ⟨?_, ?_⟩
      · unfold lP; rw [if_neg (by omega)]; exact decide_eq_true (by omega)
      · unfold clv llv; rw [if_neg (by omega)]; omega
  · unfold cab lab; rw [if_neg (by omega), if_pos (by omega)]
  · unfold cbe lbe; rw [if_neg (by omega), if_pos (by omega)]
theorem opt_sat {c : Cg} {n Kl : Nat} {S : Nat → Bool} (hB : cB c n) {X : Nat → Int} {d : Int} (h : cOpt c n S (Kl + 1) X d) (hs : cSat c n S) : cT c n S 0 X d = 0 := by
  obtain ⟨Y, r, hr, hY⟩ := hs
  have h1 := h.2 Y r hr
  have h2 := cT_nn hB S 0 X d
  have h3 : 0 ≤ d * cT c n S 0 Y r - r * cT c n S 0 X d := by
    rcases h1 with h1 | ⟨h1, _⟩
    · exact Int.le_of_lt h1
    · exact Int.le_of_eq (Eq.symm h1)
  rw [hY, Int.mul_zero] at h3
  rcases Int.lt_or_eq_of_le h2 with g | g
  · have := Int.mul_pos hr g
    omega
  · exact g.symm
/-- a memory that holds a config -/
def ivE (c : Cg) : mIv := fun p j => if p = 1 then c.2.2.2.2.2 j else if 6 ≤ p ∧ p < 24 then (if p % 2 = 0 then (if j = 2 then c.2.1 ((p - 6) / 2) else if j = 3 then c.2.2.1 ((p - 6) / 2) else if j = 4 then c.2.2.2.1 ((p - 6) / 2) else if j = 5 then c.2.2.2.2.1 ((p - 6) / 2) else 0) else c.1 ((p - 7) / 2) j) else 0
theorem ivE_w (c : Cg) {w : Nat} (hw : w < 9) : (∀ j, ivE c (7 + 2 * w) j = c.1 w j) ∧ ivE c (6 + 2 * w) 2 = c.2.1 w ∧ ivE c (6 + 2 * w) 3 = c.2.2.1 w ∧ ivE c (6 + 2 * w) 4 = c.2.2.2.1 w ∧ ivE c (6 + 2 * w) 5 = c.2.2.2.2.1 w := by
  have e1 : (6 + 2 * w - 6) / 2 = w := by omega
  have e2 : (7 + 2 * w - 7) / 2 = w := by omega
  refine ⟨fun j => ?_, ?_, ?_, ?_, ?_⟩
  · unfold ivE
    rw [if_neg (by omega), if_pos (by omega), if_neg (by omega), e2]
  · unfold ivE
    rw [if_neg (by omega), if_pos (by omega), if_pos (by omega), if_pos rfl, e1]
  · unfold ivE
    rw [if_neg (by omega), if_pos (by omega), if_pos (by omega), if_neg (by omega), if_pos rfl, e1]
  · unfold ivE
    rw [if_neg (by omega), if_pos (by omega), if_pos (by omega), if_neg (by omega), if_neg (by omega), if_pos rfl, e1]
  · unfold ivE
    rw [if_neg (by omega), if_pos (by omega), if_pos (by omega), if_neg (by omega), if_neg (by omega), if_neg (by omega), if_pos rfl, e1]
/-- configs that agree on the wishes of S and on the edges -/
def cEq (n : Nat) (S : Nat → Bool) (c c' : Cg) : Prop := (∀ w, w < 9 → S w = true → (∀ t, t < n → c.1 w t = c'.1 w t) ∧ c.2.1 w = c'.2.1 w ∧ c.2.2.1 w = c'.2.2.1 w ∧ c.2.2.2.1 w = c'.2.2.2.1 w ∧ c.2.2.2.2.1 w = c'.2.2.2.2.1 w) ∧ ∀ e, e < n → c.2.2.2.2.2 e = c'.2.2.2.2.2 e
theorem cEq.A {n : Nat} {S : Nat → Bool} {c c' : Cg} (h : cEq n S c c') : cA c n S = cA c' n S := by
  funext l t
  unfold cA lA
  by_cases c9 : l < 9
  · rw [if_pos c9, if_pos c9]
    by_cases z : S l = true ∧ t < n
    · rw [if_pos z, if_pos z, (h.1 l c9 z.1).1 t z.2]
    · rw [if_neg z, if_neg z]
  · rw [if_neg c9, if_neg c9]
theorem cEq.K {n : Nat} {S : Nat → Bool} {c c' : Cg} (h : cEq n S c c') : cK c n S = cK c' n S := by
  funext l
  unfold cK lK
  by_cases c9 : l < 9
  · rw [if_pos c9, if_pos c9]
    by_cases z : S l = true
    · rw [if_pos z, if_pos z, (h.1 l c9 z).2.2.2.2]
    · rw [if_neg z, if_neg z]
  · rw [if_neg c9, if_neg c9]
    by_cases z : l - 9 < n
    · rw [if_pos z, if_pos z, h.2 _ z]
    · rw [if_neg z, if_neg z]
theorem cEq.ab {n : Nat} {S : Nat → Bool} {c c' : Cg} (h : cEq n S c c') : cab c n S = cab c' n S := by
  funext l
  unfold cab lab
  by_cases c9 : l < 9
  · rw [if_pos c9, if_pos c9]
    by_cases z : S l = true
    · rw [(h.1 l c9 z).2.1, (h.1 l c9 z).2.2.2.1]
    · rw [if_neg (fun y => z y.1), if_neg (fun y => z y.1)]
  · rw [if_neg c9, if_neg c9]
theorem cEq.be {n : Nat} {S : Nat → Bool} {c c' : Cg} (h : cEq n S c c') : cbe c n S = cbe c' n S := by
  funext l
  unfold cbe lbe
  by_cases c9 : l < 9
  · rw [if_pos c9, if_pos c9]
    by_cases z : S l = true
    · rw [(h.1 l c9 z).2.1, (h.1 l c9 z).2.2.2.1]
    · rw [if_neg (fun y => z y.1), if_neg (fun y => z y.1)]
  · rw [if_neg c9, if_neg c9]
theorem cEq.lv {n : Nat} {S : Nat → Bool} {c c' : Cg} (h : cEq n S c c') : clv c S = clv c' S := by
  funext l
  unfold clv llv
  by_cases c9 : l < 9
  · rw [if_pos c9, if_pos c9]
    by_cases z : S l = true
    · rw [if_pos z, if_pos z, (h.1 l c9 z).2.2.1]
    · rw [if_neg z, if_neg z]
  · rw [if_neg c9, if_neg c9]
theorem cEq.T {n : Nat} {S : Nat → Bool} {c c' : Cg} (h : cEq n S c c') : cT c n S = cT c' n S := by
  funext L X q
  unfold cT
  rw [h.A, h.K, h.ab, h.be, h.lv]
theorem cEq.Opt {n : Nat} {S : Nat → Bool} {c c' : Cg} (h : cEq n S c c') {Kl : Nat} {X : Nat → Int} {d : Int} : cOpt c n S Kl X d = cOpt c' n S Kl X d := by
  unfold cOpt
  rw [h.T]
theorem cEq.Sat {n : Nat} {S : Nat → Bool} {c c' : Cg} (h : cEq n S c c') : cSat c n S = cSat c' n S := by
  unfold cSat
  rw [h.T]
theorem cEq.okL {n : Nat} {S : Nat → Bool} {c c' : Cg} (h : cEq n S c c') {iv : mIv} {b m : Nat} : okL c n S iv b m → okL c' n S iv b m := by
  rintro ⟨a, e2, e3⟩
  rw [h.A, h.K] at a
  rw [h.ab, h.be, h.lv] at e2
  exact ⟨a, e2, fun e he => by rw [← h.2 e he]; exact e3 e he⟩
theorem cEq.sol {n : Nat} {S : Nat → Bool} {c c' : Cg} (h : cEq n S c c') {iv : mIv} {b : Nat} : solS c n S iv b → solS c' n S iv b := by
  rintro ⟨m, h1, h2, h3⟩
  exact ⟨m, h.okL h1, by rw [← h.Opt]; exact h2, h3⟩
/-- there is a best point, where lines meet -/
theorem optE {c : Cg} {n s : Nat} (hB : cB c n) (hs : s < 512) {Kl : Nat} (hKl : Kl ≤ 9) : ∃ (Cl : Nat → Nat) (X : Nat → Int) (d : Int), (∀ j, j < n → Cl j < 14 ∧ lP n s.testBit (Cl j) = true) ∧ (∀ j k, j < n → k < n → Cl j = Cl k → j = k) ∧ dv (ccv (cA c n s.testBit) n Cl) ≠ 0 ∧ (∀ j, j < n → gp (cA c n s.testBit) (cK c n s.testBit) (Cl j) X d = 0) ∧ cOpt c n s.testBit Kl X d := by
  have hE : cEq n s.testBit (cM (ivE c)) c := ⟨fun w hw _ => ⟨fun t _ => (ivE_w c hw).1 t, (ivE_w c hw).2⟩, fun e _ => by show ivE c 1 e = _; unfold ivE; rw [if_pos rfl]⟩
  have hBE : cB (cM (ivE c)) n := by
    obtain ⟨h1, h2, h3, h4⟩ := hB
    refine ⟨h1, fun w hw e he => ?_, fun w hw => ?_, fun e he => ?_⟩
    · show -3 ≤ ivE c (7 + 2 * w) e ∧ ivE c (7 + 2 * w) e ≤ 3
      rw [(ivE_w c hw).1 e]; exact h2 w hw e he
    · obtain ⟨-, q1, q2, q3, q4⟩ := ivE_w c hw
      show (0 ≤ ivE c (6 + 2 * w) 2 ∧ ivE c (6 + 2 * w) 2 ≤ 2) ∧ (0 ≤ ivE c (6 + 2 * w) 3 ∧ ivE c (6 + 2 * w) 3 ≤ 3) ∧ (0 ≤ ivE c (6 + 2 * w) 4 ∧ ivE c (6 + 2 * w) 4 ≤ 9) ∧ (-1000 ≤ ivE c (6 + 2 * w) 5 ∧ ivE c (6 + 2 * w) 5 ≤ 1000)
      rw [q1, q2, q3, q4]; exact h3 w hw
    · show -100000 ≤ ivE c 1 e ∧ ivE c 1 e ≤ 100000
      unfold ivE; rw [if_pos rfl]; exact h4 e he
  have hz : ∀ p j, 24 ≤ p → ivE c p j = 0 := fun p j hp => by unfold ivE; rw [if_neg (by omega), if_neg (by omega)]
  have hsol : solB (ivE c) 24 := ⟨fun l => by unfold abF beF; rw [hz _ _ (by omega), hz _ _ (by omega)]; omega, fun l hl => by rw [hz _ _ (by omega)]; omega⟩
  refine Ex.out (m0 (sa := 24) (sb := 45) (b := 24) (Q := fun _ _ _ => _) (Or.inl rfl) hs hBE hsol (fun iv1 m _ h1 => ?_))
  refine Ex.out (m7c (sa := 24) (sb := 45) (Q := fun _ _ _ => _) (Or.inl rfl) hKl hB (hE.okL h1) (fun iv2 _ h2 hno => ?_))
  obtain ⟨X, hX⟩ := h2.1.2.2.2.2.2.2.2.2.1.vert hB.1
  have hp := h2.1.2.2.2.2.2.2.2.2.2.1
  exact ⟨lnC iv2 24, X, iv2 24 0, hp.1, hp.2.2.1, h2.1.2.2.2.2.2.2.2.2.1.ne, hX, h2.optC hno hX⟩
