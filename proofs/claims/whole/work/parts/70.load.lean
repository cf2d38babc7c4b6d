/-! addRow, load -/
theorem bt_get : ∀ s : Nat, s < 512 → ∀ w : Nat, w < 9 → ((Int32.ofInt ((Int32.ofInt (s : Int) >>> (Int32.ofInt (w : Int) &&& 31)).toInt) &&& Int32.ofInt 1).toInt = 1 ↔ s.testBit w = true) := by decide +kernel
theorem m19 {sa sb : Nat} {iv : mIv} {Q : Option mV → mIv → mRv → Prop} {k : Nat} (hk : k < 9) : Ex 19 0 [vR (6 + 2 * k)] [] iv (RV sa sb) Q = Q (vI (if iv (6 + 2 * k) 2 = 2 then 0 else iv (6 + 2 * k) 4)) iv (RV sa sb) := by
  rw [b19_0 hk]
  by_cases c : iv (6 + 2 * k) 2 = 2
  · rw [if_pos c, if_pos c, b19_8 hk, b19_16 hk]
  · rw [if_neg c, if_neg c, b19_12 hk, b19_16 hk]
theorem m20 {sa sb : Nat} {iv : mIv} {Q : Option mV → mIv → mRv → Prop} {k : Nat} (hk : k < 9) : Ex 20 0 [vR (6 + 2 * k)] [] iv (RV sa sb) Q = Q (vI (if iv (6 + 2 * k) 2 = 1 then 0 else iv (6 + 2 * k) 4)) iv (RV sa sb) := by
  rw [b20_0 hk]
  by_cases c : iv (6 + 2 * k) 2 = 1
  · rw [if_pos c, if_pos c, b20_8 hk, b20_16 hk]
  · rw [if_neg c, if_neg c, b20_12 hk, b20_16 hk]
theorem m101 {sa sb : Nat} {iv : mIv} {Q : Option mV → mIv → mRv → Prop} {x y : Int} : Ex 101 0 [vI x, vI y] [] iv (RV sa sb) Q = Q (vI (if y < x then y else x)) iv (RV sa sb) := by
  rw [b101_0]
  by_cases c : y < x
  · rw [if_pos c, if_pos c, b101_9, b101_10]
  · rw [if_neg c, if_neg c, b101_5, b101_10]
/-- what line k's gap is at the stays, of n edges -/
def gapL (fa st : Nat → Int) (nu : Int) (n : Nat) : Int := sm n (fun e => fa e * st e) - nu
def rowP (iv : mIv) (b k n m : Nat) (iv' : mIv) : Prop := (∀ p j, ¬ (p = b ∧ j = 2) → ¬ (p = b + 2 ∧ j = m) → ¬ (p = b + 3 ∧ j = m) → ¬ (p = b + 5 ∧ j = m) → p ≠ b + 7 + m → ¬ (p = b + 17 ∧ j = k) → ¬ (p = b + 18 ∧ j = k) → ¬ (p = b + 19 ∧ j = k) → iv' p j = iv p j) ∧ iv' b 2 = (m : Int) + 1 ∧ iv' (b + 2) m = k ∧ iv' (b + 5) m = gapL (iv (7 + 2 * k)) (iv (b + 16)) (iv (6 + 2 * k) 5) n ∧ iv' (b + 3) m = (if gapL (iv (7 + 2 * k)) (iv (b + 16)) (iv (6 + 2 * k) 5) n < 0 then -1 else 1) ∧ (∀ j, j < n → iv' (b + 7 + m) j = iv (7 + 2 * k) j) ∧ iv' (b + 17) k = iv (6 + 2 * k) 3 ∧ iv' (b + 18) k = (if iv (6 + 2 * k) 2 = 2 then 0 else iv (6 + 2 * k) 4) ∧ iv' (b + 19) k = (if iv (6 + 2 * k) 2 = 1 then 0 else iv (6 + 2 * k) 4)
theorem w_gap {s f t : Int} {e : Nat} (he : e < 5) (hs : -(301000 * (e : Int)) - 1000 ≤ s ∧ s ≤ 301000 * (e : Int) + 1000) (hf : -3 ≤ f ∧ f ≤ 3) (ht : -100000 ≤ t ∧ t ≤ 100000) : w64 (s + w64 (f * t)) = s + f * t ∧ -(301000 * ((e + 1 : Nat) : Int)) - 1000 ≤ s + f * t ∧ s + f * t ≤ 301000 * ((e + 1 : Nat) : Int) + 1000 := by
  have h := mul_bd (B := 3) (C := 100000) hf ht
  refine ⟨?_, by omega, by omega⟩
  rw [w64_of (x := f * t) (by omega) (by omega), w64_of (by omega) (by omega)]
theorem m1 {sa sb : Nat} {iv : mIv} {Q : Option mV → mIv → mRv → Prop} {b k n m : Nat} (hb : b = 24 ∨ b = 45) (hk : k < 9) (h3 : iv b 3 = n) (hn : n ≤ 5) (h2 : iv b 2 = m) (hm : m < 9) (hfa : ∀ e, e < 5 → -3 ≤ iv (7 + 2 * k) e ∧ iv (7 + 2 * k) e ≤ 3) (hnu : -1000 ≤ iv (6 + 2 * k) 5 ∧ iv (6 + 2 * k) 5 ≤ 1000) (hst : ∀ e, e < n → -100000 ≤ iv (b + 16) e ∧ iv (b + 16) e ≤ 100000)
    (hQ : ∀ iv', rowP iv b k n m iv' → Q none iv' (RV sa sb)) : Ex 1 0 [vR b, vI k, vR (6 + 2 * k), none, none, none] [] iv (RV sa sb) Q := by
  have xk : ((k : Int)).toNat = k := Int.toNat_natCast k
  have xm : ((m : Int)).toNat = m := Int.toNat_natCast m
  rw [b1_0 hb hk (by omega) (by omega), xk, m19 hk]
  show Ex 1 19 _ [.inl _, .inl (k : Int), .inr (.inr (some (b + 18)))] _ _ _
  rw [b1_19 hb hk (by omega) (by omega), xk, m20 hk]
  show Ex 1 29 _ [.inl _, .inl (k : Int), .inr (.inr (some (b + 19)))] _ _ _
  rw [b1_29 hb hk (by omega) (by omega), xk, st2_ne (p := b + 17) (show 6 + 2 * k ≠ b + 17 by omega), st2_ne (p := b + 17) (show 6 + 2 * k ≠ b + 17 by omega)]
  have z1 : ∀ (x : Int) (j : Nat), st2 (st2 iv (b + 17) k (iv (6 + 2 * k) 3)) (b + 18) k x (6 + 2 * k) j = iv (6 + 2 * k) j := fun x j => by rw [st2_ne (by omega), st2_ne (by omega)]
  rw [z1, z1]
  generalize hD : st2 (st2 (st2 iv (b + 17) k (iv (6 + 2 * k) 3)) (b + 18) k (if iv (6 + 2 * k) 2 = 2 then 0 else iv (6 + 2 * k) 4)) (b + 19) k (if iv (6 + 2 * k) 2 = 1 then 0 else iv (6 + 2 * k) 4) = iv3
  have d0 : ∀ p j, ¬ (p = b + 17 ∧ j = k) → ¬ (p = b + 18 ∧ j = k) → ¬ (p = b + 19 ∧ j = k) → iv3 p j = iv p j := fun p j a1 a2 a3 => by
    rw [← hD]; unfold st2
    rw [if_neg a3, if_neg a2, if_neg a1]
  have d17 : iv3 (b + 17) k = iv (6 + 2 * k) 3 := by rw [← hD, st2_ne (by omega), st2_ne (by omega), st2_eq]
  have d18 : iv3 (b + 18) k = (if iv (6 + 2 * k) 2 = 2 then 0 else iv (6 + 2 * k) 4) := by rw [← hD, st2_ne (by omega), st2_eq]
  have d19 : iv3 (b + 19) k = (if iv (6 + 2 * k) 2 = 1 then 0 else iv (6 + 2 * k) 4) := by rw [← hD, st2_eq]
  clear hD
  have dw : ∀ j, iv3 (6 + 2 * k) j = iv (6 + 2 * k) j := fun j => d0 _ _ (by omega) (by omega) (by omega)
  have df : ∀ j, iv3 (7 + 2 * k) j = iv (7 + 2 * k) j := fun j => d0 _ _ (by omega) (by omega) (by omega)
  have d16 : ∀ j, iv3 (b + 16) j = iv (b + 16) j := fun j => d0 _ _ (by omega) (by omega) (by omega)
  have dbb : ∀ j, iv3 b j = iv b j := fun j => d0 _ _ (by omega) (by omega) (by omega)
  rw [dw, w32_of (by omega) (by omega)]
  have loop : ∀ t e : Nat, e + t = n → ∀ (ivc : mIv) (s : Int), s = gapL (iv (7 + 2 * k)) (iv (b + 16)) (iv (6 + 2 * k) 5) e → (-(301000 * (e : Int)) - 1000 ≤ s ∧ s ≤ 301000 * (e : Int) + 1000) → (∀ p j, p ≠ b + 7 + m → ivc p j = iv3 p j) → (∀ j, j < e → ivc (b + 7 + m) j = iv (7 + 2 * k) j) → Ex 1 40 [vR b, vI k, vR (6 + 2 * k), vL s, none, vI e] [] ivc (RV sa sb) Q := by
    intro t
    induction t with
    | zero =>
      intro e he ivc s hs hsb f1 f2
      have : e = n := by omega
      subst this
      have cb : ∀ j, ivc b j = iv b j := fun j => by rw [f1 b j (by omega), dbb]
      rw [b1_40 hb hk, if_neg (by rw [cb, h3]; omega), b1_95 hb hk (by rw [cb, h2]; omega) (by rw [cb, h2]; omega), cb, h2, xm]
      have fin : ∀ sd : Int, sd = (if s < 0 then -1 else 1) → Ex 1 124 [vR b, vI k, vR (6 + 2 * k), vL s, none, vI e] [.inl sd, .inl (m : Int), .inr (.inr (some (b + 3)))] (st2 ivc (b + 5) m s) (RV sa sb) Q := by
        intro sd hsd
        have y2 : ∀ x : Int, st2 (st2 ivc (b + 5) m s) (b + 3) m x b 2 = m := fun x => by rw [st2_ne (by omega), st2_ne (by omega), cb, h2]
        rw [b1_124 hb hk (by omega) (by omega) (by rw [xm, y2]; omega) (by rw [xm, y2]; omega), xm, y2, xm, st2_ne (p := b + 2) (show b ≠ b + 2 by omega), y2, w32_of (by omega) (by omega)]
        refine hQ _ ⟨fun p j n1 n2 n3 n4 n5 n6 n7 n8 => ?_, by rw [st2_eq], by rw [st2_ne (by omega), st2_eq], ?_, ?_, fun j hj => ?_, ?_, ?_, ?_⟩
        · unfold st2
          rw [if_neg n1, if_neg n2, if_neg n3, if_neg n4, f1 p j n5, d0 p j n6 n7 n8]
        · rw [st2_ne (by omega), st2_ne (by omega), st2_ne (by omega), st2_eq, hs]
        · rw [st2_ne (by omega), st2_ne (by omega), st2_eq, hsd, hs]
        · rw [st2_ne (by omega), st2_ne (by omega), st2_ne (by omega), st2_ne (by omega), f2 j hj]
        · rw [st2_ne (by omega), st2_ne (by omega), st2_ne (by omega), st2_ne (by omega), f1 _ _ (by omega), d17]
        · rw [st2_ne (by omega), st2_ne (by omega), st2_ne (by omega), st2_ne (by omega), f1 _ _ (by omega), d18]
        · rw [st2_ne (by omega), st2_ne (by omega), st2_ne (by omega), st2_ne (by omega), f1 _ _ (by omega), d19]
      have y0 : st2 ivc (b + 5) m s b 2 = m := by rw [st2_ne (by omega), cb, h2]
      rw [y0]
      by_cases c : s < 0
      · rw [if_pos c, b1_119 hb hk]; exact fin _ (by rw [if_pos c])
      · rw [if_neg c, b1_123 hb hk]; exact fin _ (by rw [if_neg c])
    | succ t ih =>
      intro e he ivc s hs hsb f1 f2
      have xe : ((e : Int)).toNat = e := Int.toNat_natCast e
      have cb : ∀ j, ivc b j = iv b j := fun j => by rw [f1 b j (by omega), dbb]
      have cf : ivc (7 + 2 * k) e = iv (7 + 2 * k) e := by rw [f1 _ _ (by omega), df]
      have c16 : ivc (b + 16) e = iv (b + 16) e := by rw [f1 _ _ (by omega), d16]
      obtain ⟨g1, g2⟩ := w_gap (show e < 5 by omega) hsb (hfa e (by omega)) (hst e (by omega))
      rw [b1_40 hb hk, if_pos (by rw [cb, h3]; omega), b1_49 hb hk (by rw [cb, h2]; omega) (by rw [cb, h2]; omega) (by omega) (by omega), cb, h2, xm, xe, st2_ne (q := 7 + 2 * k) (show 7 + 2 * k ≠ b + 7 + m by omega), st2_ne (q := b + 16) (show b + 16 ≠ b + 7 + m by omega), cf, c16, g1, w32_of (by omega) (by omega)]
      refine ih (e + 1) (by omega) _ _ ?_ g2 (fun p j hp => by rw [st2_ne hp, f1 p j hp]) (fun j hj => ?_)
      · have e9 : sm (e + 1) (fun e => iv (7 + 2 * k) e * iv (b + 16) e) = sm e (fun e => iv (7 + 2 * k) e * iv (b + 16) e) + iv (7 + 2 * k) e * iv (b + 16) e := rfl
        rw [hs]; unfold gapL
        rw [e9]
        clear g1 g2
        omega
      · by_cases c : j = e
        · rw [c, st2_eq]
        · rw [st2_nk c, f2 j (by omega)]
  exact loop n 0 (by omega) iv3 _ (by unfold gapL; show _ = (0 : Int) - _; omega) (by omega) (fun _ _ _ => rfl) (fun j hj => by omega)
/-- the config as the class's memory has it -/
def cM (iv : mIv) : Cg := (fun w e => iv (7 + 2 * w) e, fun w => iv (6 + 2 * w) 2, fun w => iv (6 + 2 * w) 3, fun w => iv (6 + 2 * w) 4, fun w => iv (6 + 2 * w) 5, fun e => iv 1 e)
def solB (iv : mIv) (b : Nat) : Prop := (∀ l, 0 ≤ abF iv b l ∧ abF iv b l ≤ 1000 ∧ 0 ≤ beF iv b l ∧ beF iv b l ≤ 1000) ∧ (∀ l, l < 14 → 0 ≤ iv (b + 17) l ∧ iv (b + 17) l < 9)
def frB (b : Nat) (iv iv' : mIv) : Prop := ∀ p j, p < b ∨ b + 20 < p → iv' p j = iv p j
def colP (iv : mIv) (b n e : Nat) (ivc : mIv) : Prop := frB b iv ivc ∧ ivc b 0 = 1 ∧ ivc b 3 = n ∧ (∀ j, j < e → ivc (b + 16) j = iv 1 j ∧ ivc (b + 4) j = 9 + (j : Int) ∧ ivc (b + 17) (9 + j) = 4 + (j : Int) ∧ ivc (b + 18) (9 + j) = 1 ∧ ivc (b + 19) (9 + j) = 1) ∧ solB ivc b
def rowI (iv : mIv) (b n : Nat) (S : Nat → Bool) (w m : Nat) (ivc : mIv) : Prop := colP iv b n n ivc ∧ ivc b 2 = m ∧ m ≤ w ∧ (∀ i, i < m → ∃ l : Nat, l < w ∧ S l = true ∧ ivc (b + 2) i = l ∧ (∀ j, j < n → ivc (b + 7 + i) j = iv (7 + 2 * l) j) ∧ ivc (b + 5) i = gapL (iv (7 + 2 * l)) (iv 1) (iv (6 + 2 * l) 5) n ∧ ivc (b + 3) i = (if gapL (iv (7 + 2 * l)) (iv 1) (iv (6 + 2 * l) 5) n < 0 then -1 else 1)) ∧ (∀ i k, i < m → k < m → ivc (b + 2) i = ivc (b + 2) k → i = k) ∧ (∀ l : Nat, l < w → S l = true → (∃ i, i < m ∧ ivc (b + 2) i = l) ∧ ivc (b + 17) l = iv (6 + 2 * l) 3 ∧ ivc (b + 18) l = (if iv (6 + 2 * l) 2 = 2 then 0 else iv (6 + 2 * l) 4) ∧ ivc (b + 19) l = (if iv (6 + 2 * l) 2 = 1 then 0 else iv (6 + 2 * l) 4))
theorem gapL_congr {f f' s s' : Nat → Int} {u u' : Int} {n : Nat} (h1 : ∀ e, e < n → f e = f' e) (h2 : ∀ e, e < n → s e = s' e) (h3 : u = u') : gapL f s u n = gapL f' s' u' n := by
  unfold gapL
  rw [h3, sm_congr (fun e he => by rw [h1 e he, h2 e he])]
theorem rowI_step {iv ivc iv' : mIv} {b n w m : Nat} {S : Nat → Bool} (hb : b = 24 ∨ b = 45) (hw : w < 9) (hn : n ≤ 5) (hS : S w = true) (hB : cB (cM iv) n) (h : rowI iv b n S w m ivc) (hr : rowP ivc b w n m iv') : rowI iv b n S (w + 1) (m + 1) iv' := by
  obtain ⟨⟨c1, c2, c3, c4, c5, c6⟩, h2, h3, h4, h5, h6⟩ := h
  obtain ⟨r0, r1, r2, r3, r4, r5, r6, r7, r8⟩ := hr
  obtain ⟨b1, b2, b3, b4⟩ := hB
  have ef : ∀ j, ivc (7 + 2 * w) j = iv (7 + 2 * w) j := fun j => c1 _ _ (by omega)
  have ew : ∀ j, ivc (6 + 2 * w) j = iv (6 + 2 * w) j := fun j => c1 _ _ (by omega)
  have eg : gapL (ivc (7 + 2 * w)) (ivc (b + 16)) (ivc (6 + 2 * w) 5) n = gapL (iv (7 + 2 * w)) (iv 1) (iv (6 + 2 * w) 5) n := gapL_congr (fun e _ => ef e) (fun e he => (c4 e he).1) (ew 5)
  rw [eg] at r3 r4
  rw [ew] at r6
  rw [ew, ew] at r7 r8
  have bw := b3 w hw
  refine ⟨⟨fun p j hp => ?_, ?_, ?_, fun j hj => ?_, fun l => ?_, fun l hl => ?_⟩, by rw [r1]; omega, by omega, fun i hi => ?_, fun i k hi hk e => ?_, fun l hl hSl => ?_⟩
  · rw [r0 p j (by omega) (by omega) (by omega) (by omega) (by omega) (by omega) (by omega) (by omega)]; exact c1 p j hp
  · rw [r0 b 0 (by omega) (by omega) (by omega) (by omega) (by omega) (by omega) (by omega) (by omega)]; exact c2
  · rw [r0 b 3 (by omega) (by omega) (by omega) (by omega) (by omega) (by omega) (by omega) (by omega)]; exact c3
  · rw [r0 (b + 16) j (by omega) (by omega) (by omega) (by omega) (by omega) (by omega) (by omega) (by omega), r0 (b + 4) j (by omega) (by omega) (by omega) (by omega) (by omega) (by omega) (by omega) (by omega), r0 (b + 17) _ (by omega) (by omega) (by omega) (by omega) (by omega) (by omega) (by omega) (by omega), r0 (b + 18) _ (by omega) (by omega) (by omega) (by omega) (by omega) (by omega) (by omega) (by omega), r0 (b + 19) _ (by omega) (by omega) (by omega) (by omega) (by omega) (by omega) (by omega) (by omega)]
    exact c4 j hj
  · have hwe : 0 ≤ iv (6 + 2 * w) 4 ∧ iv (6 + 2 * w) 4 ≤ 9 := bw.2.2.1
    unfold abF beF
    have e18 : 0 ≤ iv' (b + 18) l ∧ iv' (b + 18) l ≤ 1000 := by
      by_cases c : l = w
      · rw [c, r7]; split <;> omega
      · rw [r0 (b + 18) l (by omega) (by omega) (by omega) (by omega) (by omega) (by omega) (by omega) (by omega)]
        exact ⟨(c5 l).1, (c5 l).2.1⟩
    have e19 : 0 ≤ iv' (b + 19) l ∧ iv' (b + 19) l ≤ 1000 := by
      by_cases c : l = w
      · rw [c, r8]; split <;> omega
      · rw [r0 (b + 19) l (by omega) (by omega) (by omega) (by omega) (by omega) (by omega) (by omega) (by omega)]
        exact (c5 l).2.2
    exact ⟨e18.1, e18.2, e19⟩
  · have hle : 0 ≤ iv (6 + 2 * w) 3 ∧ iv (6 + 2 * w) 3 ≤ 3 := bw.2.1
    by_cases c : l = w
    · rw [c, r6]; omega
    · rw [r0 (b + 17) l (by omega) (by omega) (by omega) (by omega) (by omega) (by omega) (by omega) (by omega)]
      exact c6 l hl
  · by_cases c : i = m
    · subst c
      exact ⟨w, by omega, hS, r2, fun j hj => by rw [r5 j hj, ef], r3, r4⟩
    · obtain ⟨l, l1, l2, l3, l4, l5, l6⟩ := h4 i (by omega)
      refine ⟨l, by omega, l2, ?_, fun j hj => ?_, ?_, ?_⟩
      · rw [r0 (b + 2) i (by omega) (by omega) (by omega) (by omega) (by omega) (by omega) (by omega) (by omega)]; exact l3
      · rw [r0 (b + 7 + i) j (by omega) (by omega) (by omega) (by omega) (by omega) (by omega) (by omega) (by omega)]; exact l4 j hj
      · rw [r0 (b + 5) i (by omega) (by omega) (by omega) (by omega) (by omega) (by omega) (by omega) (by omega)]; exact l5
      · rw [r0 (b + 3) i (by omega) (by omega) (by omega) (by omega) (by omega) (by omega) (by omega) (by omega)]; exact l6
  · have ol : ∀ i, i < m → iv' (b + 2) i = ivc (b + 2) i := fun i hi => r0 (b + 2) i (by omega) (by omega) (by omega) (by omega) (by omega) (by omega) (by omega) (by omega)
    have ne : ∀ i, i < m → iv' (b + 2) i ≠ iv' (b + 2) m := fun i hi z => by
      rw [ol i hi, r2] at z
      obtain ⟨l, l1, l2, l3, _⟩ := h4 i hi
      omega
    by_cases c1 : i = m <;> by_cases c2 : k = m
    · omega
    · rw [c1] at e; exact absurd e.symm (ne k (by omega))
    · rw [c2] at e; exact absurd e (ne i (by omega))
    · rw [ol i (by omega), ol k (by omega)] at e; exact h5 i k (by omega) (by omega) e
  · by_cases c : l = w
    · rw [c]
      exact ⟨⟨m, by omega, r2⟩, r6, r7, r8⟩
    · obtain ⟨⟨i, i1, i2⟩, q1, q2, q3⟩ := h6 l (by omega) hSl
      refine ⟨⟨i, by omega, ?_⟩, ?_, ?_, ?_⟩
      · rw [r0 (b + 2) i (by omega) (by omega) (by omega) (by omega) (by omega) (by omega) (by omega) (by omega)]; exact i2
      · rw [r0 (b + 17) l (by omega) (by omega) (by omega) (by omega) (by omega) (by omega) (by omega) (by omega)]; exact q1
      · rw [r0 (b + 18) l (by omega) (by omega) (by omega) (by omega) (by omega) (by omega) (by omega) (by omega)]; exact q2
      · rw [r0 (b + 19) l (by omega) (by omega) (by omega) (by omega) (by omega) (by omega) (by omega) (by omega)]; exact q3
theorem m0r {sa sb : Nat} {iv : mIv} {Q : Option mV → mIv → mRv → Prop} {b n s : Nat} (hb : b = 24 ∨ b = 45) (hs : s < 512) (hB : cB (cM iv) n) (hsol : solB iv b) (hQ : ∀ (iv' : mIv) (m : Nat), rowI iv b n s.testBit 9 m iv' → Q none iv' (RV sa sb)) : Ex 0 0 [vR b, vR 5, vI s, vR 1, vI n, none] [] iv (RV sa sb) Q := by
  have hB0 := hB
  obtain ⟨hn, b2, b3, b4⟩ := hB
  rw [b0_0 hb, m101, if_neg (by omega)]
  show Ex 0 12 _ [.inl (n : Int), .inr (.inr (some b))] _ _ _
  rw [b0_12 hb]
  have rows : ∀ t w m : Nat, w + t = 9 → ∀ ivc : mIv, rowI iv b n s.testBit w m ivc → Ex 0 100 [vR b, vR 5, vI s, vR 1, vI n, vI w] [] ivc (RV sa sb) Q := by
    intro t
    induction t with
    | zero =>
      intro w m hw ivc h
      have : w = 9 := by omega
      subst this
      rw [b0_100 hb, if_neg (by omega), b0_140 hb]
      exact hQ ivc m h
    | succ t ih =>
      intro w m hw ivc h
      have xw : ((w : Int)).toNat = w := Int.toNat_natCast w
      rw [b0_100 hb, if_pos (by omega), b0_107 hb, if_pos (by omega), b0_114 hb]
      by_cases c : s.testBit w = true
      · rw [if_pos ((bt_get s hs w (by omega)).mpr c), b0_124 hb (by omega) (by omega), xw]
        have h0 := h
        obtain ⟨⟨c1, c2, c3, c4, c5⟩, h2, h3, h4, h5, h6⟩ := h
        refine m1 hb (by omega) c3 hn h2 (by omega) (fun e he => by rw [c1 _ _ (by omega)]; exact b2 w (by omega) e he) (by rw [c1 _ _ (by omega)]; exact (b3 w (by omega)).2.2.2) (fun e he => by rw [(c4 e he).1]; exact b4 e (by omega)) (fun iv' hr => ?_)
        show Ex 0 134 _ [] _ _ _
        rw [b0_134 hb, w32_of (by omega) (by omega)]
        exact ih (w + 1) (m + 1) (by omega) iv' (rowI_step hb (by omega) hn c hB0 h0 hr)
      · rw [if_neg (fun z => c ((bt_get s hs w (by omega)).mp z)), b0_134 hb, w32_of (by omega) (by omega)]
        refine ih (w + 1) m (by omega) ivc ?_
        obtain ⟨h1, h2, h3, h4, h5, h6⟩ := h
        refine ⟨h1, h2, by omega, fun i hi => ?_, h5, fun l hl hSl => ?_⟩
        · obtain ⟨l, l1, l2⟩ := h4 i hi
          exact ⟨l, by omega, l2⟩
        · by_cases e : l = w
          · rw [e] at hSl; exact absurd hSl c
          · exact h6 l (by omega) hSl
  have cols : ∀ t e : Nat, e + t = n → ∀ ivc : mIv, colP iv b n e ivc → Ex 0 18 [vR b, vR 5, vI s, vR 1, vI n, vI e] [] ivc (RV sa sb) Q := by
    intro t
    induction t with
    | zero =>
      intro e he ivc h
      have : e = n := by omega
      subst this
      obtain ⟨c1, c2, c3, c4, c5, c6⟩ := h
      rw [b0_18 hb, if_neg (by rw [c3]; omega), b0_92 hb]
      refine rows 9 0 0 rfl _ ⟨⟨fun p j hp => by rw [st2_ne (by omega)]; exact c1 p j hp, by rw [st2_nk (by omega)]; exact c2, by rw [st2_nk (by omega)]; exact c3, fun j hj => ?_, fun l => ?_, fun l hl => ?_⟩, by rw [st2_eq]; rfl, Nat.le_refl 0, fun i hi => by omega, fun i k hi => by omega, fun l hl => by omega⟩
      · rw [st2_ne (by omega), st2_ne (by omega), st2_ne (by omega), st2_ne (by omega), st2_ne (by omega)]; exact c4 j hj
      · unfold abF beF
        rw [st2_ne (by omega), st2_ne (by omega)]; exact c5 l
      · rw [st2_ne (by omega)]; exact c6 l hl
    | succ t ih =>
      intro e he ivc h
      have xe : ((e : Int)).toNat = e := Int.toNat_natCast e
      obtain ⟨c1, c2, c3, c4, c5, c6⟩ := h
      have w9 : w32 (9 + (e : Int)) = ((9 + e : Nat) : Int) := by rw [w32_of (by omega) (by omega)]; omega
      have w4 : w32 (4 + (e : Int)) = 4 + (e : Int) := w32_of (by omega) (by omega)
      rw [b0_18 hb, if_pos (by rw [c3]; omega), b0_27 hb (by omega) (by omega) (by rw [w9]; omega) (by rw [w9]; omega), w9, w4, xe, Int.toNat_natCast, w32_of (by omega) (by omega)]
      refine ih (e + 1) (by omega) _ ⟨fun p j hp => ?_, ?_, ?_, fun j hj => ?_, fun l => ?_, fun l hl => ?_⟩
      · rw [st2_ne (by omega), st2_ne (by omega), st2_ne (by omega), st2_ne (by omega), st2_ne (by omega)]; exact c1 p j hp
      · rw [st2_ne (by omega), st2_ne (by omega), st2_ne (by omega), st2_ne (by omega), st2_ne (by omega)]; exact c2
      · rw [st2_ne (by omega), st2_ne (by omega), st2_ne (by omega), st2_ne (by omega), st2_ne (by omega)]; exact c3
      · by_cases ej : j = e
        · rw [ej]
          refine ⟨?_, ?_, ?_, ?_, ?_⟩
          · rw [st2_ne (by omega), st2_ne (by omega), st2_ne (by omega), st2_ne (by omega), st2_eq]; exact c1 1 e (by omega)
          · rw [st2_ne (by omega), st2_ne (by omega), st2_ne (by omega), st2_eq]; omega
          · rw [st2_ne (by omega), st2_ne (by omega), st2_eq]
          · rw [st2_ne (by omega), st2_eq]
          · rw [st2_eq]
        · obtain ⟨q1, q2, q3, q4, q5⟩ := c4 j (by omega)
          refine ⟨?_, ?_, ?_, ?_, ?_⟩
          · rw [st2_ne (by omega), st2_ne (by omega), st2_ne (by omega), st2_ne (by omega), st2_nk ej]; exact q1
          · rw [st2_ne (by omega), st2_ne (by omega), st2_ne (by omega), st2_nk ej, st2_ne (by omega)]; exact q2
          · rw [st2_ne (by omega), st2_ne (by omega), st2_nk (by omega), st2_ne (by omega), st2_ne (by omega)]; exact q3
          · rw [st2_ne (by omega), st2_nk (by omega), st2_ne (by omega), st2_ne (by omega), st2_ne (by omega)]; exact q4
          · rw [st2_nk (by omega), st2_ne (by omega), st2_ne (by omega), st2_ne (by omega), st2_ne (by omega)]; exact q5
      · unfold abF beF
        have := c5 l
        unfold abF beF at this
        have e18 : ∀ x : Int, 0 ≤ x ∧ x ≤ 1000 → ∀ f : mIv, 0 ≤ f (b + 18) l ∧ f (b + 18) l ≤ 1000 → 0 ≤ st2 f (b + 18) (9 + e) x (b + 18) l ∧ st2 f (b + 18) (9 + e) x (b + 18) l ≤ 1000 := fun x hx f hf => by
          by_cases z : l = 9 + e
          · rw [z, st2_eq]; exact hx
          · rw [st2_nk z]; exact hf
        have e19 : ∀ x : Int, 0 ≤ x ∧ x ≤ 1000 → ∀ f : mIv, 0 ≤ f (b + 19) l ∧ f (b + 19) l ≤ 1000 → 0 ≤ st2 f (b + 19) (9 + e) x (b + 19) l ∧ st2 f (b + 19) (9 + e) x (b + 19) l ≤ 1000 := fun x hx f hf => by
          by_cases z : l = 9 + e
          · rw [z, st2_eq]; exact hx
          · rw [st2_nk z]; exact hf
        have r1 := e18 1 (by omega) (st2 (st2 (st2 ivc (b + 16) e (ivc 1 e)) (b + 4) e ((9 + e : Nat) : Int)) (b + 17) (9 + e) (4 + (e : Int))) (by rw [st2_ne (by omega), st2_ne (by omega), st2_ne (by omega)]; exact ⟨this.1, this.2.1⟩)
        have r2 := e19 1 (by omega) (st2 (st2 (st2 (st2 ivc (b + 16) e (ivc 1 e)) (b + 4) e ((9 + e : Nat) : Int)) (b + 17) (9 + e) (4 + (e : Int))) (b + 18) (9 + e) 1) (by rw [st2_ne (by omega), st2_ne (by omega), st2_ne (by omega), st2_ne (by omega)]; exact this.2.2)
        refine ⟨?_, ?_, r2.1, r2.2⟩
        · rw [st2_ne (by omega)]; exact r1.1
        · rw [st2_ne (by omega)]; exact r1.2
      · rw [st2_ne (by omega), st2_ne (by omega)]
        by_cases z : l = 9 + e
        · rw [z, st2_eq]; omega
        · rw [st2_nk z, st2_ne (by omega), st2_ne (by omega)]; exact c6 l hl
  refine cols n 0 (by omega) _ ⟨fun p j hp => by rw [st2_ne (by omega), st2_ne (by omega)], by rw [st2_nk (by omega), st2_eq], by rw [st2_eq], fun j hj => by omega, fun l => ?_, fun l hl => ?_⟩
  · unfold abF beF
    rw [st2_ne (by omega), st2_ne (by omega), st2_ne (by omega), st2_ne (by omega)]; exact hsol.1 l
  · rw [st2_ne (by omega), st2_ne (by omega)]; exact hsol.2 l hl
