/-! the model: offBy, isLive, weigh, isLess -/
theorem sh_int {s k : Nat} (hs : s < 16384) (hk : k < 14) : (Int32.ofInt (s : Int) >>> (Int32.ofInt (k : Int) &&& 31)).toInt = ((s >>> k : Nat) : Int) := by
  have hy : (Int32.ofInt (k : Int) &&& 31).toBitVec.smod 32 = BitVec.ofNat 32 k := by
    have : ∀ k : Nat, k < 14 → (Int32.ofInt (k : Int) &&& 31).toBitVec.smod 32 = BitVec.ofNat 32 k := by decide +kernel
    exact this k hk
  have h1 : (Int32.ofInt (s : Int)).toInt = (s : Int) := Int32.toInt_ofInt_of_le (by simp) (by simp; omega)
  show (Int32.ofInt (s : Int) >>> (Int32.ofInt (k : Int) &&& 31)).toBitVec.toInt = _
  rw [Int32.toBitVec_shiftRight, hy, BitVec.sshiftRight_eq', BitVec.toInt_sshiftRight]
  show (Int32.ofInt (s : Int)).toInt >>> _ = _
  rw [h1]
  have h2 : (BitVec.ofNat 32 k).toNat = k := by simp; omega
  rw [h2]
  rfl
theorem an_int {m : Nat} : (Int32.ofInt (m : Int) &&& Int32.ofInt 1).toInt = ((m % 2 : Nat) : Int) := by
  show (Int32.ofInt (m : Int) &&& Int32.ofInt 1).toBitVec.toInt = _
  rw [Int32.toBitVec_and]
  have h1 : (Int32.ofInt (m : Int)).toBitVec = BitVec.ofNat 32 m := by
    rw [Int32.toBitVec_ofInt]; exact BitVec.ofInt_natCast ..
  have h2 : (Int32.ofInt 1).toBitVec = 1#32 := rfl
  rw [h1, h2]
  have h3 : (BitVec.ofNat 32 m &&& 1#32).toNat = m % 2 := by
    rw [BitVec.toNat_and]
    simp
  rw [BitVec.toInt_eq_toNat_of_lt (by rw [h3]; omega), h3]
theorem bt14 {s k : Nat} (hs : s < 16384) (hk : k < 14) : ((Int32.ofInt ((Int32.ofInt (s : Int) >>> (Int32.ofInt (k : Int) &&& 31)).toInt) &&& Int32.ofInt 1).toInt = 1 ↔ s.testBit k = true) := by
  rw [sh_int hs hk, an_int]
  unfold Nat.testBit
  rw [Nat.and_comm, Nat.and_one_is_mod]
  have hx : s >>> k % 2 < 2 := Nat.mod_lt _ (by omega)
  generalize s >>> k % 2 = x at *
  constructor
  · intro h; simp; omega
  · intro h; simp at h; omega
/-- the model's memory holds the config -/
def Wm (iv : mIv) (n : Nat) (c : Cg) : Prop := iv 66 0 = n ∧ (∀ e, e < 5 → iv 67 e = c.2.2.2.2.2 e) ∧ ∀ w, w < 9 → iv 70 w = c.2.1 w ∧ iv 71 w = c.2.2.1 w ∧ iv 72 w = c.2.2.2.1 w ∧ iv 73 w = c.2.2.2.2.1 w ∧ ∀ e, e < 5 → iv 75 (5 * w + e) = c.1 w e
theorem Wm.fr {iv iv' : mIv} {n : Nat} {c : Cg} (h : Wm iv n c) (f : ∀ p j, (p < 76 ∨ 80 < p) → ¬ (p = 66 ∧ (j = 14 ∨ j = 16 ∨ j = 19)) → iv' p j = iv p j) : Wm iv' n c := by
  obtain ⟨h1, h2, h3⟩ := h
  refine ⟨by rw [f _ _ (by omega) (by omega)]; exact h1, fun e he => by rw [f _ _ (by omega) (by omega)]; exact h2 e he, fun w hw => ?_⟩
  rw [f _ _ (by omega) (by omega), f _ _ (by omega) (by omega), f _ _ (by omega) (by omega), f _ _ (by omega) (by omega)]
  obtain ⟨a1, a2, a3, a4, a5⟩ := h3 w hw
  exact ⟨a1, a2, a3, a4, fun e he => by rw [f _ _ (by omega) (by omega)]; exact a5 e he⟩
theorem cT_stay {c : Cg} {n : Nat} {S : Nat → Bool} (hB : cB c n) {e : Nat} (he : e < n) (X : Nat → Int) (q : Int) : cT c n S (4 + e) X q = absI (X e - c.2.2.2.2.2 e * q) := by
  have hn := hB.1
  unfold cT tot
  rw [sm_one (k := 9 + e) (by omega) (fun l hl hne => by
    unfold ind
    rw [if_neg (fun z => by
      have z2 := z.2
      unfold clv llv at z2
      by_cases c9 : l < 9
      · rw [if_pos c9] at z2
        have := (hB.2.2.1 l c9).2.1
        split at z2 <;> omega
      · rw [if_neg c9] at z2; omega)])]
  have e1 : lP n S (9 + e) = true := by unfold lP; rw [if_neg (by omega)]; exact decide_eq_true (by omega)
  have e2 : clv c S (9 + e) = 4 + e := by unfold clv llv; rw [if_neg (by omega)]; omega
  have e3 : cab c n S (9 + e) = 1 := by unfold cab lab; rw [if_neg (by omega), if_pos (by omega)]
  have e4 : cbe c n S (9 + e) = 1 := by unfold cbe lbe; rw [if_neg (by omega), if_pos (by omega)]
  rw [e1, e2, e3, e4, gp_stay c S hn he]
  unfold ind lcst absI
  rw [if_pos ⟨rfl, rfl⟩]
  by_cases z : 0 ≤ X e - c.2.2.2.2.2 e * q
  · rw [if_pos z, if_neg (by omega)]; omega
  · rw [if_neg z, if_pos (by omega)]; omega
theorem cT_hi {c : Cg} {n : Nat} {S : Nat → Bool} (hB : cB c n) {e : Nat} (he : n ≤ e) (X : Nat → Int) (q : Int) : cT c n S (4 + e) X q = 0 := by
  unfold cT tot
  exact sm_0 (fun l hl => by
    unfold ind
    rw [if_neg (fun z => by
      have z1 := z.1
      have z2 := z.2
      unfold clv llv at z2
      unfold lP at z1
      by_cases c9 : l < 9
      · rw [if_pos c9] at z2
        have := (hB.2.2.1 l c9).2.1
        split at z2 <;> omega
      · rw [if_neg c9] at z2
        rw [if_neg c9] at z1
        have := of_decide_eq_true z1
        omega)])
theorem bt9 {s w : Nat} (hs : s < 512) (hw : w < 9) : ((Int32.ofInt ((Int32.ofInt (s : Int) >>> (Int32.ofInt (w : Int) &&& 31)).toInt) &&& Int32.ofInt 1).toInt = 1 ↔ s.testBit w = true) := bt_get s hs w hw
section WEI
variable {sa sb : Nat} {iv : mIv} {Q : Option mV → mIv → mRv → Prop} {n : Nat} {c : Cg}
theorem b24' {w k g : Nat} {x3 x5 : Int} (hg : g = 77 ∨ g = 78) (hw : w < 9) (hk : k < 5) : Ex 64 24 [vR 66, vI w, vR g, vL x3, none, vL x5, none, vI k] [] iv (RV sa sb) Q = Ex 64 15 [vR 66, vI w, vR g, vL x3, none, vL (w64 (x5 + w64 (iv 75 (5 * w + k) * iv g k))), none, vI ((k + 1 : Nat) : Int)] [] iv (RV sa sb) Q := by
  have e5 := idx55 hw hk
  rw [b64_24 hg (by rw [e5]; omega) (by rw [e5]; omega) (by omega) (by omega), e5, Int.toNat_natCast, Int.toNat_natCast, w32_of (by omega) (by omega)]
  rfl
theorem m64 {w g : Nat} {d : Int} (hg : g = 77 ∨ g = 78) (hw : w < 9) (hB : cB c n) (hW : Wm iv n c) (hd : 0 < d ∧ d ≤ 29160) (hp : ∀ e, e < n → -21000000000 ≤ iv g e ∧ iv g e ≤ 21000000000) : Ex 64 0 [vR 66, vI w, vR g, vL d, none, none, none, none] [] iv (RV sa sb) Q = Q (vL (offV (c.2.1 w) (gW c n w (iv g) d))) iv (RV sa sb) ∧ -400000000000 ≤ gW c n w (iv g) d ∧ gW c n w (iv g) d ≤ 400000000000 := by
  obtain ⟨a1, a2, a3, a4, a5⟩ := hW.2.2 w hw
  have hn := hB.1
  have hre := (hB.2.2.1 w hw).1
  have loop : ∀ t e : Nat, e + t = n → ∀ s : Int, s = sm e (fun t => c.1 w t * iv g t) - c.2.2.2.2.1 w * d → (-(63000000000 * (e : Int)) - 30000000 ≤ s ∧ s ≤ 63000000000 * (e : Int) + 30000000) → Ex 64 15 [vR 66, vI w, vR g, vL d, none, vL s, none, vI e] [] iv (RV sa sb) Q = Q (vL (offV (c.2.1 w) (gW c n w (iv g) d))) iv (RV sa sb) ∧ -400000000000 ≤ gW c n w (iv g) d ∧ gW c n w (iv g) d ≤ 400000000000 := by
    intro t
    induction t with
    | zero =>
      intro e he s hs hsb
      have : e = n := by omega
      subst this
      have hgg : s = gW c e w (iv g) d := hs
      refine ⟨?_, by omega, by omega⟩
      rw [b64_15 hg, if_neg (by rw [hW.1]; omega), b64_52 hg (by omega) (by omega), Int.toNat_natCast, a1, ← hgg]
      unfold offV
      by_cases c0 : c.2.1 w = 0
      · rw [if_pos c0, if_neg (by omega), if_neg (by omega), b64_61 hg, m59 (by omega) (by omega)]
        show Ex 64 66 _ [.inr (.inl (absI s))] _ _ _ = _
        rw [b64_66 hg, b64_109 hg]
      · rw [if_neg c0, b64_69 hg (by omega) (by omega), Int.toNat_natCast, a1]
        by_cases c1 : c.2.1 w = 1
        · rw [if_pos c1, if_pos c1, b64_79 hg]
          by_cases z : 0 < s
          · rw [if_pos z, if_neg (by omega), b64_86 hg, b64_109 hg]
          · rw [if_neg z, b64_91 hg, b64_109 hg]
            by_cases y : s < 0
            · rw [if_pos y]
            · rw [if_neg y, show s = 0 by omega]
        · rw [if_neg c1, if_neg c1, if_pos (show c.2.1 w = 2 by omega), b64_95 hg]
          by_cases z : s < 0
          · rw [if_pos z, if_neg (by omega), b64_102 hg, b64_109 hg, w64_of (by omega) (by omega)]
          · rw [if_neg z, b64_108 hg, b64_109 hg]
            by_cases y : -s < 0
            · rw [if_pos y]
            · rw [if_neg y, show -s = 0 by omega]
    | succ t ih =>
      intro e he s hs hsb
      obtain ⟨g1, g2⟩ := w_ms (show e < 5 by omega) hsb (hB.2.1 w hw e (by omega)) (hp e (by omega))
      rw [b64_15 hg, if_pos (by rw [hW.1]; omega), b24' hg hw (by omega), a5 e (by omega), g1]
      refine ih (e + 1) (by omega) _ ?_ g2
      have e9 : sm (e + 1) (fun t => c.1 w t * iv g t) = sm e (fun t => c.1 w t * iv g t) + c.1 w e * iv g e := rfl
      rw [hs, e9]
      clear g1 g2
      omega
  obtain ⟨z1, z2⟩ := w_nd (hB.2.2.1 w hw).2.2.2 hd
  rw [b64_0 hg (by omega) (by omega), Int.toNat_natCast, a4, z1]
  exact loop n 0 (by omega) _ rfl (by omega)
theorem m65 {s w : Nat} (hs : s < 512) (hw : w < 9) (hl : iv 66 19 = s) : Ex 65 0 [vR 66, vI w] [] iv (RV sa sb) Q = Q (vI (if s.testBit w = true then 1 else 0)) iv (RV sa sb) := by
  rw [b65_0, hl]
  by_cases z : s.testBit w = true
  · rw [if_pos ((bt9 hs hw).mpr z), if_pos z, b65_12, b65_17 (Or.inr rfl)]
  · rw [if_neg (fun y => z ((bt9 hs hw).mp y)), if_neg z, b65_16, b65_17 (Or.inl rfl)]
/-- all musts of S are met at X / d -/
def mustOk (c : Cg) (n : Nat) (S : Nat → Bool) (X : Nat → Int) (d : Int) : Prop := ∀ w, w < 9 → S w = true → c.2.2.1 w = 0 → offV (c.2.1 w) (gW c n w X d) = 0
/-- the cost of level L by the first k wishes -/
def csK (c : Cg) (n : Nat) (S : Nat → Bool) (X : Nat → Int) (d : Int) (L k : Nat) : Int := sm k (fun w => ind (S w = true ∧ (c.2.2.1 w).toNat = L) (c.2.2.2.1 w * offV (c.2.1 w) (gW c n w X d)))
theorem b68' {w l : Nat} {x2 : Int} (hw : w < 9) (hl : iv 71 w = ((l + 1 : Nat) : Int)) (hl3 : l < 3) : Ex 66 68 [vR 66, vI w, vL x2, none] [] iv (RV sa sb) Q = Ex 66 93 [vR 66, vI w, vL x2, none] [] (st2 iv 79 l (w64 (iv 79 l + w64 (iv 72 w * x2)))) (RV sa sb) Q := by
  have e1 : w32 (iv 71 w - 1) = (l : Int) := by rw [hl, w32_of (by omega) (by omega)]; omega
  rw [b66_68 (by omega) (by omega) (by rw [Int.toNat_natCast, e1]; omega) (by rw [Int.toNat_natCast, e1]; omega), Int.toNat_natCast, e1, Int.toNat_natCast]
theorem w_st {x s d : Int} (hx : -17496000000 ≤ x ∧ x ≤ 17496000000) (hs : -100000 ≤ s ∧ s ≤ 100000) (hd : 0 < d ∧ d ≤ 29160) : w64 (x - w64 (s * d)) = x - s * d ∧ -36000000000 ≤ x - s * d ∧ x - s * d ≤ 36000000000 := by
  obtain ⟨h1, h2⟩ := w_pl hs hd
  rw [h1]
  exact ⟨w64_of (by omega) (by omega), by omega, by omega⟩
theorem m66 {s : Nat} (hs : s < 512) (hB : cB c n) (hW : Wm iv n c) (hl : iv 66 19 = s) (hd : 0 < iv 66 14 ∧ iv 66 14 ≤ 29160) (hp : ∀ e, e < n → -17496000000 ≤ iv 77 e ∧ iv 77 e ≤ 17496000000)
    (k0 : ¬ mustOk c n s.testBit (iv 77) (iv 66 14) → ∀ iv' : mIv, (∀ p j, p ≠ 79 → iv' p j = iv p j) → Q (vI 0) iv' (RV sa sb))
    (k1 : mustOk c n s.testBit (iv 77) (iv 66 14) → ∀ iv' : mIv, (∀ p j, p ≠ 79 → iv' p j = iv p j) → (∀ k, k < 8 → iv' 79 k = cT c n s.testBit (k + 1) (iv 77) (iv 66 14) ∧ 0 ≤ iv' 79 k ∧ iv' 79 k ≤ 36000000000000) → Q (vI 1) iv' (RV sa sb)) : Ex 66 0 [vR 66, none, none, none] [] iv (RV sa sb) Q := by
  have hn := hB.1
  have hp' : ∀ e, e < n → -21000000000 ≤ iv 77 e ∧ iv 77 e ≤ 21000000000 := fun e he => by have := hp e he; omega
  rw [b66_0]
  -- the stays
  have stays : ∀ (t k : Nat), k + t = n → ∀ (ivc : mIv) (u2 : Option mV), (∀ p j, p ≠ 79 → ivc p j = iv p j) → mustOk c n s.testBit (iv 77) (iv 66 14) → (∀ j, j < 8 → ivc 79 j = (if j < 3 then cT c n s.testBit (j + 1) (iv 77) (iv 66 14) else if j - 3 < k then cT c n s.testBit (j + 1) (iv 77) (iv 66 14) else 0) ∧ 0 ≤ ivc 79 j ∧ ivc 79 j ≤ 36000000000000) → Ex 66 101 [vR 66, vI k, u2, none] [] ivc (RV sa sb) Q := by
    intro t
    induction t with
    | zero =>
      intro k hk ivc u2 f1 hm h79
      have : k = n := by omega
      subst this
      rw [b66_101, if_neg (by rw [f1 66 0 (by omega), hW.1]; omega), b66_145]
      refine k1 hm ivc f1 (fun j hj => ⟨?_, (h79 j hj).2⟩)
      rw [(h79 j hj).1]
      by_cases z : j < 3
      · rw [if_pos z]
      · rw [if_neg z]
        by_cases y : j - 3 < k
        · rw [if_pos y]
        · rw [if_neg y, show j + 1 = 4 + (j - 3) by omega, cT_hi hB (by omega)]
    | succ t ih =>
      intro k hk ivc u2 f1 hm h79
      obtain ⟨z1, z2⟩ := w_st (hp k (by omega)) (hB.2.2.2 k (by omega)) hd
      have w3 : w32 (3 + (k : Int)) = ((3 + k : Nat) : Int) := by rw [w32_of (by omega) (by omega)]; omega
      rw [b66_101, if_pos (by rw [f1 66 0 (by omega), hW.1]; omega), b66_109 (by omega) (by omega), Int.toNat_natCast, f1 77 k (by omega), f1 67 k (by omega), f1 66 14 (by omega), hW.2.1 k (by omega), z1, m59 (by omega) (by omega), w3]
      show Ex 66 138 _ [.inr (.inl _), .inl ((3 + k : Nat) : Int), .inr (.inr (some 79))] _ _ _
      rw [b66_138 (by omega) (by omega), Int.toNat_natCast, w32_of (by omega) (by omega)]
      clear w3
      refine ih (k + 1) (by omega) _ _ (fun p j hp => by rw [st2_ne hp]; exact f1 p j hp) hm (fun j hj => ?_)
      by_cases e : j = 3 + k
      · rw [e, st2_eq, if_neg (by omega), if_pos (by omega), show 3 + k + 1 = 4 + k by omega, cT_stay hB (by omega)]
        refine ⟨rfl, ?_, ?_⟩
        · unfold absI; split <;> omega
        · unfold absI; split <;> omega
      · rw [st2_nk e]
        refine ⟨?_, (h79 j hj).2⟩
        rw [(h79 j hj).1]
        by_cases z : j < 3
        · rw [if_pos z, if_pos z]
        · rw [if_neg z, if_neg z]
          by_cases y : j - 3 < k
          · rw [if_pos y, if_pos (by omega)]
          · rw [if_neg y, if_neg (by omega)]
  -- the wishes
  have wishes : ∀ (t k : Nat), k + t = 9 → ∀ (ivc : mIv) (u2 : Option mV), (∀ p j, p ≠ 79 → ivc p j = iv p j) → (∀ w, w < k → s.testBit w = true → c.2.2.1 w = 0 → offV (c.2.1 w) (gW c n w (iv 77) (iv 66 14)) = 0) → (∀ j, j < 8 → ivc 79 j = (if j < 3 then csK c n s.testBit (iv 77) (iv 66 14) (j + 1) k else 0) ∧ 0 ≤ ivc 79 j ∧ ivc 79 j ≤ 4000000000000 * (k : Int)) → Ex 66 23 [vR 66, vI k, u2, none] [] ivc (RV sa sb) Q := by
    intro t
    induction t with
    | zero =>
      intro k hk ivc u2 f1 hm h79
      have : k = 9 := by omega
      subst this
      rw [b66_23, if_neg (by omega), b66_99]
      refine stays n 0 (by omega) ivc u2 f1 hm (fun j hj => ?_)
      obtain ⟨q1, q2, q3⟩ := h79 j hj
      refine ⟨?_, q2, by omega⟩
      rw [q1]
      by_cases z : j < 3
      · rw [if_pos z, if_pos z, cT_off hB (by omega)]; rfl
      · rw [if_neg z, if_neg z, if_neg (by omega)]
    | succ t ih =>
      intro k hk ivc u2 f1 hm h79
      have hk9 : k < 9 := by omega
      have hWc : Wm ivc n c := hW.fr (fun p j h1 h2 => f1 p j (by omega))
      obtain ⟨a1, a2, a3, a4, a5⟩ := hWc.2.2 k hk9
      have bw := hB.2.2.1 k hk9
      have e77 : ivc 77 = iv 77 := by funext j; exact f1 77 j (by omega)
      have es : ∀ j, csK c n s.testBit (iv 77) (iv 66 14) (j + 1) (k + 1) = csK c n s.testBit (iv 77) (iv 66 14) (j + 1) k + ind (s.testBit k = true ∧ (c.2.2.1 k).toNat = j + 1) (c.2.2.2.1 k * offV (c.2.1 k) (gW c n k (iv 77) (iv 66 14))) := fun j => rfl
      have next : ∀ (ivd : mIv) (u2' : Option mV), (∀ p j, p ≠ 79 → ivd p j = iv p j) → (s.testBit k = true → c.2.2.1 k = 0 → offV (c.2.1 k) (gW c n k (iv 77) (iv 66 14)) = 0) → (∀ j, j < 8 → ivd 79 j = (if j < 3 then csK c n s.testBit (iv 77) (iv 66 14) (j + 1) (k + 1) else 0) ∧ 0 ≤ ivd 79 j ∧ ivd 79 j ≤ 4000000000000 * ((k + 1 : Nat) : Int)) → Ex 66 93 [vR 66, vI k, u2', none] [] ivd (RV sa sb) Q := fun ivd u2' g1 g2 g3 => by
        rw [b66_93, w32_of (by omega) (by omega)]
        refine ih (k + 1) (by omega) ivd u2' g1 (fun w hw => ?_) g3
        by_cases z : w = k
        · rw [z]; exact g2
        · exact hm w (by omega)
      have same : (¬ (s.testBit k = true ∧ c.2.2.1 k ≠ 0)) → ∀ j, j < 8 → ivc 79 j = (if j < 3 then csK c n s.testBit (iv 77) (iv 66 14) (j + 1) (k + 1) else 0) ∧ 0 ≤ ivc 79 j ∧ ivc 79 j ≤ 4000000000000 * ((k + 1 : Nat) : Int) := fun hno j hj => by
        obtain ⟨q1, q2, q3⟩ := h79 j hj
        refine ⟨?_, q2, by omega⟩
        rw [q1, es]
        have : ind (s.testBit k = true ∧ (c.2.2.1 k).toNat = j + 1) (c.2.2.2.1 k * offV (c.2.1 k) (gW c n k (iv 77) (iv 66 14))) = 0 := by
          unfold ind
          rw [if_neg (fun z => hno ⟨z.1, fun y => by have := z.2; omega⟩)]
        rw [this, Int.add_zero]
      rw [b66_23, if_pos (by omega), b66_29, m65 hs hk9 (by rw [f1 66 19 (by omega)]; exact hl)]
      by_cases z : s.testBit k = true
      · rw [if_pos z]
        show Ex 66 34 _ [.inl 1] _ _ _
        obtain ⟨o1, o2⟩ := m64 (sa := sa) (sb := sb) (Q := fun v iv2 rv2 => Ex 66 50 [vR 66, vI k, u2, none] (mpush v []) iv2 rv2 Q) (Or.inl rfl) hk9 hB hWc (d := ivc 66 14) (by rw [f1 66 14 (by omega)]; exact hd) (fun e he => by rw [e77]; exact hp' e he)
        rw [b66_34, if_neg (by omega), b66_37, o1]
        show Ex 66 50 _ [.inr (.inl _)] _ _ _
        rw [b66_50 (by omega) (by omega), Int.toNat_natCast, a2]
        rw [e77, f1 66 14 (by omega)] at o2 ⊢
        have ob := offV_bd (re := c.2.1 k) (B := 400000000000) o2
        by_cases y : c.2.2.1 k = 0
        · rw [if_pos y, b66_60]
          by_cases x : 0 < offV (c.2.1 k) (gW c n k (iv 77) (iv 66 14))
          · rw [if_pos x, b66_66]
            exact k0 (fun q => by have := q k hk9 z y; omega) ivc f1
          · rw [if_neg x]
            exact next ivc _ f1 (fun _ _ => by omega) (same (fun q => q.2 y))
        · rw [if_neg y]
          obtain ⟨l, hl1, hl2⟩ : ∃ l : Nat, c.2.2.1 k = ((l + 1 : Nat) : Int) ∧ l < 3 := ⟨(c.2.2.1 k - 1).toNat, by omega, by omega⟩
          obtain ⟨q1, q2, q3⟩ := h79 l (by omega)
          obtain ⟨g1, g2⟩ := w_cs hk9 ⟨q2, q3⟩ bw.2.2.1 ob
          rw [b68' hk9 (by rw [a2]; exact hl1) hl2, a3, g1]
          refine next _ _ (fun p j hp => by rw [st2_ne hp]; exact f1 p j hp) (fun _ h0 => absurd h0 y) (fun j hj => ?_)
          by_cases e : j = l
          · subst e
            rw [st2_eq]
            refine ⟨?_, g2⟩
            rw [if_pos hl2, es, q1, if_pos hl2]
            unfold ind
            rw [if_pos ⟨z, by rw [hl1]; omega⟩]
          · rw [st2_nk e]
            obtain ⟨r1, r2, r3⟩ := h79 j hj
            refine ⟨?_, r2, by omega⟩
            rw [r1, es]
            have : ind (s.testBit k = true ∧ (c.2.2.1 k).toNat = j + 1) (c.2.2.2.1 k * offV (c.2.1 k) (gW c n k (iv 77) (iv 66 14))) = 0 := by
              unfold ind
              rw [if_neg (fun q => e (by have := q.2; omega))]
            rw [this, Int.add_zero]
      · rw [if_neg z]
        show Ex 66 34 _ [.inl 0] _ _ _
        rw [b66_34, if_pos rfl]
        exact next ivc u2 f1 (fun h => absurd h z) (same (fun q => z q.1))
  -- zeros
  have zeros : ∀ (t k : Nat), k + t = 8 → ∀ ivc : mIv, (∀ p j, p ≠ 79 → ivc p j = iv p j) → (∀ j, j < k → ivc 79 j = 0) → Ex 66 2 [vR 66, vI k, none, none] [] ivc (RV sa sb) Q := by
    intro t
    induction t with
    | zero =>
      intro k hk ivc f1 h79
      have : k = 8 := by omega
      subst this
      rw [b66_2, if_neg (by omega), b66_21]
      refine wishes 9 0 rfl ivc none f1 (fun w hw => by omega) (fun j hj => ?_)
      rw [h79 j hj]
      refine ⟨?_, by omega, by omega⟩
      split
      · rfl
      · rfl
    | succ t ih =>
      intro k hk ivc f1 h79
      rw [b66_2, if_pos (by omega), b66_8 (by omega) (by omega), Int.toNat_natCast, w32_of (by omega) (by omega)]
      refine ih (k + 1) (by omega) _ (fun p j hp => by rw [st2_ne hp]; exact f1 p j hp) (fun j hj => ?_)
      by_cases e : j = k
      · rw [e, st2_eq]
      · rw [st2_nk e]; exact h79 j (by omega)
  exact zeros 8 0 rfl iv (fun _ _ _ => rfl) (fun j hj => by omega)
theorem w_le {x d : Int} (hx : 0 ≤ x ∧ x ≤ 36000000000000) (hd : 0 < d ∧ d ≤ 29160) : w64 (x * d) = x * d := by
  have h1 := Int.mul_nonneg hx.1 (Int.le_of_lt hd.1)
  have h2 : x * d ≤ 36000000000000 * 29160 := Int.mul_le_mul hx.2 hd.2 (Int.le_of_lt hd.1) (by omega)
  exact w64_of (by omega) (by omega)
theorem m67 (hd : 0 < iv 66 14 ∧ iv 66 14 ≤ 29160) (hD : 0 < iv 66 16 ∧ iv 66 16 ≤ 29160) (h79 : ∀ k, k < 8 → 0 ≤ iv 79 k ∧ iv 79 k ≤ 36000000000000) (h80 : ∀ k, k < 8 → 0 ≤ iv 80 k ∧ iv 80 k ≤ 36000000000000) (k1 : lng 8 (fun k => iv 79 k * iv 66 16 - iv 80 k * iv 66 14) → Q (vI 1) iv (RV sa sb)) (k0 : ¬ lng 8 (fun k => iv 79 k * iv 66 16 - iv 80 k * iv 66 14) → Q (vI 0) iv (RV sa sb)) : Ex 67 0 [vR 66, none, none, none, none, none] [] iv (RV sa sb) Q := by
  rw [b67_0]
  have loop : ∀ (t k : Nat), k + t = 8 → ∀ (u2 u4 : Option mV), (lng t (fun i => iv 79 (k + i) * iv 66 16 - iv 80 (k + i) * iv 66 14) → Q (vI 1) iv (RV sa sb)) → (¬ lng t (fun i => iv 79 (k + i) * iv 66 16 - iv 80 (k + i) * iv 66 14) → Q (vI 0) iv (RV sa sb)) → Ex 67 2 [vR 66, vI k, u2, none, u4, none] [] iv (RV sa sb) Q := by
    intro t
    induction t with
    | zero =>
      intro k hk u2 u4 q1 q0
      rw [b67_2, if_neg (by omega), b67_59]
      exact q0 id
    | succ t ih =>
      intro k hk u2 u4 q1 q0
      have esh : (fun i => iv 79 (k + 1 + i) * iv 66 16 - iv 80 (k + 1 + i) * iv 66 14) = (fun i => iv 79 (k + (i + 1)) * iv 66 16 - iv 80 (k + (i + 1)) * iv 66 14) := by
        funext i; rw [show k + 1 + i = k + (i + 1) by omega]
      rw [b67_2, if_pos (by omega), b67_8 (by omega) (by omega), Int.toNat_natCast, w_le (h79 k (by omega)) hD, w_le (h80 k (by omega)) hd]
      by_cases z : iv 79 k * iv 66 16 = iv 80 k * iv 66 14
      · rw [if_pos z, b67_53, w32_of (by omega) (by omega)]
        have hz : iv 79 (k + 0) * iv 66 16 - iv 80 (k + 0) * iv 66 14 = 0 := by rw [Nat.add_zero]; omega
        refine ih (k + 1) (by omega) _ _ (fun h => q1 (Or.inr ⟨hz, ?_⟩)) (fun h => q0 (fun y => h ?_))
        · rw [esh] at h; exact h
        · rw [esh]
          rcases y with y | ⟨_, y⟩
          · have : iv 79 (k + 0) * iv 66 16 - iv 80 (k + 0) * iv 66 14 < 0 := y
            omega
          · exact y
      · rw [if_neg z, b67_40]
        have hnz : ¬ iv 79 (k + 0) * iv 66 16 - iv 80 (k + 0) * iv 66 14 = 0 := by rw [Nat.add_zero]; omega
        by_cases y : iv 79 k * iv 66 16 < iv 80 k * iv 66 14
        · rw [if_pos y, b67_47, b67_52 (Or.inr rfl)]
          refine q1 (Or.inl ?_)
          show iv 79 (k + 0) * iv 66 16 - iv 80 (k + 0) * iv 66 14 < 0
          rw [Nat.add_zero]; omega
        · rw [if_neg y, b67_51, b67_52 (Or.inl rfl)]
          refine q0 (fun x => ?_)
          rcases x with x | ⟨x, _⟩
          · have : iv 79 (k + 0) * iv 66 16 - iv 80 (k + 0) * iv 66 14 < 0 := x
            rw [Nat.add_zero] at this; omega
          · exact hnz x
  refine loop 8 0 rfl none none (fun h => k1 ?_) (fun h => k0 (fun z => h ?_))
  · simp only [Nat.zero_add] at h; exact h
  · simp only [Nat.zero_add]; exact z
end WEI
