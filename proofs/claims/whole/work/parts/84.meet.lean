/-! the model: size, putRow, swapRows, meet -/
theorem idx6 {r k : Nat} (hr : r < 5) (hk : k < 6) : w32 ((w32 (6 * (r : Int))) + (k : Int)) = ((6 * r + k : Nat) : Int) := by
  rw [w32_of (x := 6 * (r : Int)) (by omega) (by omega), w32_of (by omega) (by omega)]; omega
theorem idx65 {r : Nat} (hr : r < 5) : w32 ((w32 (6 * (r : Int))) + 5) = ((6 * r + 5 : Nat) : Int) := idx6 (k := 5) hr (by omega)
theorem idx55 {w k : Nat} (hw : w < 9) (hk : k < 5) : w32 ((w32 (5 * (w : Int))) + (k : Int)) = ((5 * w + k : Nat) : Int) := by
  rw [w32_of (x := 5 * (w : Int)) (by omega) (by omega), w32_of (by omega) (by omega)]; omega
theorem w_dva {c p t f d e : Int} (hc : -20000000000 ≤ c ∧ c ≤ 20000000000) (hp : -30000 ≤ p ∧ p ≤ 30000) (ht : -30000 ≤ t ∧ t ≤ 30000) (hf : -20000000000 ≤ f ∧ f ≤ 20000000000) (hd : d ≠ 0) (he : d * e = c * p - t * f) : w64 ((w64 (w64 (c * p) - w64 (t * f))).tdiv d) = e := by
  have a1 := mul_bd (B := 20000000000) (C := 30000) hc hp
  have a2 := mul_bd (B := 30000) (C := 20000000000) ht hf
  rw [w64_of (x := c * p) (by omega) (by omega), w64_of (x := t * f) (by omega) (by omega), w64_of (x := c * p - t * f) (by omega) (by omega), ← he, Int.mul_tdiv_cancel_left _ hd]
  have hn : e.natAbs ≤ (d * e).natAbs := by
    rw [Int.natAbs_mul]
    have : 1 ≤ d.natAbs := by omega
    have := Nat.mul_le_mul_right e.natAbs this
    omega
  exact w64_of (by omega) (by omega)
def mR (iv : mIv) (r k : Nat) : Int := iv 76 (6 * r + k)
section MEE
variable {sa sb : Nat} {iv : mIv} {Q : Option mV → mIv → mRv → Prop}
theorem m59 {x : Int} (h : -9223372036854775807 ≤ x) (h' : x < 9223372036854775808) : Ex 59 0 [vL x, none] [] iv (RV sa sb) Q = Q (vL (absI x)) iv (RV sa sb) := by
  unfold absI
  rw [b59_0]
  by_cases c : x < 0
  · rw [if_pos c, if_pos c, b59_6, b59_12, w64_of (by omega) (by omega)]
  · rw [if_neg c, if_neg c, b59_11, b59_12]
/-- the line's factor, its number: as the model's memory has them -/
def mLa (iv : mIv) (l k : Nat) : Int := if l < 9 then iv 75 (5 * l + k) else if l - 9 = k then 1 else 0
def mLb (iv : mIv) (l : Nat) : Int := if l < 9 then iv 73 l else iv 67 (l - 9)
theorem m61 {r l n : Nat} (hr : r < 5) (hl : l < 14) (h0 : iv 66 0 = n) (hn : n ≤ 5) (hk : ∀ iv' : mIv, (∀ p j, p ≠ 76 → iv' p j = iv p j) → (∀ s k, s ≠ r → k < 6 → mR iv' s k = mR iv s k) → (∀ k, k < n → mR iv' r k = mLa iv l k) → mR iv' r 5 = mLb iv l → Q none iv' (RV sa sb)) : Ex 61 0 [vR 66, vI r, vI l, none] [] iv (RV sa sb) Q := by
  rw [b61_0]
  have loop : ∀ t k : Nat, k + t = n → ∀ ivc : mIv, (∀ p j, p ≠ 76 → ivc p j = iv p j) → (∀ s k, s ≠ r → k < 6 → mR ivc s k = mR iv s k) → (∀ j, j < k → mR ivc r j = mLa iv l j) → Ex 61 2 [vR 66, vI r, vI l, vI k] [] ivc (RV sa sb) Q := by
    intro t
    induction t with
    | zero =>
      intro k hkn ivc f1 f2 f3
      have : k = n := by omega
      subst this
      have fin : ∀ x : Int, x = mLb iv l → Ex 61 96 [vR 66, vI r, vI l, vI k] [.inr (.inl x), .inl ((6 * r + 5 : Nat) : Int), .inr (.inr (some 76))] ivc (RV sa sb) Q := fun x hx => by
        rw [b61_96 (by omega) (by omega), Int.toNat_natCast]
        refine hk _ (fun p j hp => by rw [st2_ne hp]; exact f1 p j hp) (fun s j hs hj => ?_) (fun j hj => ?_) ?_
        · show st2 ivc 76 _ _ 76 (6 * s + j) = _
          rw [st2_nk (by omega)]; exact f2 s j hs hj
        · show st2 ivc 76 _ _ 76 (6 * r + j) = _
          rw [st2_nk (by omega)]; exact f3 j hj
        · show st2 ivc 76 _ _ 76 (6 * r + 5) = _
          rw [st2_eq, hx]
      rw [b61_2, if_neg (by rw [f1 66 0 (by omega), h0]; omega), b61_60, idx65 hr]
      by_cases c : l < 9
      · rw [if_pos (by omega), b61_76 (by omega) (by omega), Int.toNat_natCast]
        refine fin _ ?_
        rw [f1 73 l (by omega)]; unfold mLb; rw [if_pos c]
      · have e9 : w32 ((l : Int) - 9) = ((l - 9 : Nat) : Int) := by rw [w32_of (by omega) (by omega)]; omega
        rw [if_neg (by omega), b61_86 (by rw [e9]; omega) (by rw [e9]; omega), e9, Int.toNat_natCast]
        refine fin _ ?_
        rw [f1 67 _ (by omega)]; unfold mLb; rw [if_neg c]
    | succ t ih =>
      intro k hkn ivc f1 f2 f3
      have fin : ∀ x : Int, x = mLa iv l k → Ex 61 53 [vR 66, vI r, vI l, vI k] [.inr (.inl x), .inl ((6 * r + k : Nat) : Int), .inr (.inr (some 76))] ivc (RV sa sb) Q := fun x hx => by
        rw [b61_53 (by omega) (by omega), Int.toNat_natCast, w32_of (by omega) (by omega)]
        refine ih (k + 1) (by omega) _ (fun p j hp => by rw [st2_ne hp]; exact f1 p j hp) (fun s j hs hj => ?_) (fun j hj => ?_)
        · show st2 ivc 76 _ _ 76 (6 * s + j) = _
          rw [st2_nk (by omega)]; exact f2 s j hs hj
        · show st2 ivc 76 _ _ 76 (6 * r + j) = _
          by_cases z : j = k
          · rw [z, st2_eq, hx]
          · rw [st2_nk (by omega)]; exact f3 j (by omega)
      rw [b61_2, if_pos (by rw [f1 66 0 (by omega), h0]; omega), b61_10, idx6 hr (by omega)]
      by_cases c : l < 9
      · have e5 := idx55 (w := l) (k := k) c (by omega)
        rw [if_pos (by omega), b61_26 (by rw [e5]; omega) (by rw [e5]; omega), e5, Int.toNat_natCast]
        refine fin _ ?_
        rw [f1 75 _ (by omega)]; unfold mLa; rw [if_pos c]
      · have e9 : w32 ((l : Int) - 9) = ((l - 9 : Nat) : Int) := by rw [w32_of (by omega) (by omega)]; omega
        rw [if_neg (by omega), b61_40, e9]
        by_cases d : l - 9 = k
        · rw [if_pos (by omega), b61_48]
          refine fin _ ?_
          unfold mLa; rw [if_neg c, if_pos d]
        · rw [if_neg (by omega), b61_52]
          refine fin _ ?_
          unfold mLa; rw [if_neg c, if_neg d]
  exact loop n 0 (by omega) iv (fun _ _ _ => rfl) (fun _ _ _ _ => rfl) (fun j hj => by omega)
theorem m62 {c q : Nat} (hc : c < 5) (hq : q < 5) (hk : ∀ iv' : mIv, (∀ p j, p ≠ 76 → iv' p j = iv p j) → (∀ r, r < 5 → ∀ k, k < 6 → mR iv' r k = mR iv (swr c q r) k) → Q none iv' (RV sa sb)) : Ex 62 0 [vR 66, vI c, vI q, none, none, none] [] iv (RV sa sb) Q := by
  rw [b62_0]
  have loop : ∀ t e : Nat, e + t = 6 → ∀ (ivc : mIv) (u4 : Option mV), (∀ p j, p ≠ 76 → ivc p j = iv p j) → (∀ r, r < 5 → ∀ k, k < 6 → mR ivc r k = if k < e then mR iv (swr c q r) k else mR iv r k) → Ex 62 2 [vR 66, vI c, vI q, vI e, u4, none] [] ivc (RV sa sb) Q := by
    intro t
    induction t with
    | zero =>
      intro e he ivc u4 f1 f2
      have : e = 6 := by omega
      subst this
      rw [b62_2, if_neg (by omega), b62_62]
      exact hk ivc f1 (fun r hr k hk' => by rw [f2 r hr k hk', if_pos hk'])
    | succ t ih =>
      intro e he ivc u4 f1 f2
      have i1 := idx6 (r := c) (k := e) hc (by omega)
      have i2 := idx6 (r := q) (k := e) hq (by omega)
      have v1 : ivc 76 (6 * c + e) = mR iv c e := by have := f2 c hc e (by omega); rw [if_neg (by omega)] at this; exact this
      have v2 : ivc 76 (6 * q + e) = mR iv q e := by have := f2 q hq e (by omega); rw [if_neg (by omega)] at this; exact this
      rw [b62_2, if_pos (by omega), b62_8 (by rw [i1]; omega) (by rw [i1]; omega) (by rw [i2]; omega) (by rw [i2]; omega), i1, i2, Int.toNat_natCast, Int.toNat_natCast, v1, v2, w32_of (by omega) (by omega)]
      refine ih (e + 1) (by omega) _ _ (fun p j hp => by rw [st2_ne hp, st2_ne hp]; exact f1 p j hp) (fun r hr k hk' => ?_)
      show st2 (st2 ivc 76 _ _) 76 _ _ 76 (6 * r + k) = _
      by_cases z : k = e
      · subst z
        rw [if_pos (by omega)]
        unfold swr
        by_cases rq : r = q
        · rw [rq, st2_eq]
          by_cases cq : q = c
          · rw [if_pos cq, cq]
          · rw [if_neg cq, if_pos rfl]
        · rw [st2_nk (by omega)]
          by_cases rc : r = c
          · rw [rc, st2_eq, if_pos rfl]
          · rw [st2_nk (by omega), if_neg rc, if_neg rq]
            have := f2 r hr k hk'
            rw [if_neg (by omega)] at this
            exact this
      · rw [st2_nk (by omega), st2_nk (by omega)]
        have := f2 r hr k hk'
        by_cases z2 : k < e
        · rw [if_pos z2] at this; rw [if_pos (by omega)]; exact this
        · rw [if_neg z2] at this; rw [if_neg (by omega)]; exact this
  exact loop 6 0 rfl iv none (fun _ _ _ => rfl) (fun r hr k hk' => by rw [if_neg (by omega)])
theorem r120 {c r k : Nat} {ah x4 p f : Int} (hc : c < 5) (hr : r < 5) (hk : k < 6) (hah : ah ≠ 0) : Ex 63 120 [vR 66, vL ah, none, vI c, vI x4, vL p, none, vI r, vL f, none, vI k] [] iv (RV sa sb) Q = Ex 63 107 [vR 66, vL ah, none, vI c, vI x4, vL p, none, vI r, vL f, none, vI ((k + 1 : Nat) : Int)] [] (st2 iv 76 (6 * r + k) (w64 ((w64 (w64 (iv 76 (6 * r + k) * p) - w64 (f * iv 76 (6 * c + k)))).tdiv ah))) (RV sa sb) Q := by
  have i1 := idx6 (r := r) (k := k) hr hk
  have i2 := idx6 (r := c) (k := k) hc hk
  rw [b63_120 (by rw [i1]; omega) (by rw [i1]; omega) (by rw [i2]; omega) (by rw [i2]; omega) hah, i1, i2, Int.toNat_natCast, Int.toNat_natCast, w32_of (x := (k : Int) + 1) (by omega) (by omega)]
  rfl
theorem m63 {n : Nat} {a : Nat → Nat → Int} {b : Nat → Int} (hn : n ≤ 5) (h0 : iv 66 0 = n) (ha : ∀ r, r < n → ∀ t, t < n → -3 ≤ a r t ∧ a r t ≤ 3) (hb : ∀ r, r < n → -100000 ≤ b r ∧ b r ≤ 100000) (h1 : ∀ r, r < n → ∀ k, k < n → mR iv r k = a r k) (h2 : ∀ r, r < n → mR iv r 5 = b r)
    (k0 : (∃ (x : Nat → Int) (c : Nat), c < n ∧ x c ≠ 0 ∧ ∀ l, l < n → sm n (fun t => a l t * x t) = 0) → ∀ iv' : mIv, (∀ p j, p ≠ 76 → iv' p j = iv p j) → Q (vI 0) iv' (RV sa sb))
    (k1 : ∀ iv' : mIv, (∀ p j, p ≠ 76 → p ≠ 77 → ¬ (p = 66 ∧ j = 14) → iv' p j = iv p j) → 0 < iv' 66 14 → iv' 66 14 ≤ 29160 → (∀ r, r < n → -17496000000 ≤ iv' 77 r ∧ iv' 77 r ≤ 17496000000) → (∀ r, r < n → sm n (fun t => a r t * iv' 77 t) = b r * iv' 66 14) → Q (vI 1) iv' (RV sa sb)) : Ex 63 0 [vR 66, none, none, none, none, none, none, none, none, none, none] [] iv (RV sa sb) Q := by
  rw [b63_0]
  -- one row
  have row : ∀ (c : Nat) (x4 ah p : Int) (M : Nat → Nat → Int) (r : Nat), c < n → r < n → r ≠ c → ah ≠ 0 → p = M c c → (-30000 ≤ p ∧ p ≤ 30000) → (-30000 ≤ M r c ∧ M r c ≤ 30000) → (∀ s, s < n → ∀ k, (k < n ∧ c ≤ k) ∨ k = 5 → -20000000000 ≤ M s k ∧ M s k ≤ 20000000000) → (∀ k, (k < n ∧ c ≤ k) ∨ k = 5 → ∃ e, ah * e = M r k * p - M r c * M c k) → ∀ (t k : Nat), k + t = 6 → ∀ (ivc : mIv), (∀ p j, p ≠ 76 → ivc p j = iv p j) → (∀ j, (j < n ∧ c ≤ j) ∨ j = 5 → mR ivc c j = M c j) → (∀ j, (j < n ∧ c ≤ j) ∨ j = 5 → (j < k → ah * mR ivc r j = M r j * p - M r c * M c j) ∧ (k ≤ j → mR ivc r j = M r j)) → (∀ ivd : mIv, (∀ p j, p ≠ 76 → ivd p j = iv p j) → (∀ s j, s ≠ r → j < 6 → mR ivd s j = mR ivc s j) → (∀ j, (j < n ∧ c ≤ j) ∨ j = 5 → ah * mR ivd r j = M r j * p - M r c * M c j) → Ex 63 173 [vR 66, vL ah, none, vI c, vI x4, vL p, none, vI r, vL (M r c), none, vI 6] [] ivd (RV sa sb) Q) → Ex 63 107 [vR 66, vL ah, none, vI c, vI x4, vL p, none, vI r, vL (M r c), none, vI k] [] ivc (RV sa sb) Q := by
    intro c x4 ah p M r hc hr hrc hah hp hpb hfb hMb hex t
    induction t with
    | zero =>
      intro k hk ivc f1 f2 f3 hQ
      have : k = 6 := by omega
      subst this
      rw [b63_107, if_neg (by omega)]
      exact hQ ivc f1 (fun _ _ _ _ => rfl) (fun j hj => (f3 j hj).1 (by omega))
    | succ t ih =>
      intro k hk ivc f1 f2 f3 hQ
      rw [b63_107, if_pos (by omega), b63_114, if_neg (by omega), r120 (by omega) (by omega) (by omega) hah]
      refine ih (k + 1) (by omega) _ (fun p j hp => by rw [st2_ne hp]; exact f1 p j hp) (fun j hj => ?_) (fun j hj => ⟨fun hjk => ?_, fun hjk => ?_⟩) (fun ivd g1 g2 g3 => hQ ivd g1 (fun s j hs hj => ?_) g3)
      · show st2 ivc 76 _ _ 76 (6 * c + j) = _
        rw [st2_nk (by omega)]; exact f2 j hj
      · show ah * st2 ivc 76 _ _ 76 (6 * r + j) = _
        by_cases z : j = k
        · subst z
          rw [st2_eq]
          obtain ⟨e, he⟩ := hex j hj
          have e1 : ivc 76 (6 * r + j) = M r j := (f3 j hj).2 (Nat.le_refl j)
          have e2 : ivc 76 (6 * c + j) = M c j := f2 j hj
          rw [e1, e2, w_dva (hMb r hr j hj) hpb hfb (hMb c hc j hj) hah he]
          exact he
        · rw [st2_nk (by omega)]
          exact (f3 j hj).1 (by omega)
      · show st2 ivc 76 _ _ 76 (6 * r + j) = _
        rw [st2_nk (by omega)]
        exact (f3 j hj).2 (by omega)
      · rw [g2 s j hs hj]
        show st2 ivc 76 _ _ 76 (6 * s + j) = _
        rw [st2_nk (by omega)]; rfl
  -- all rows of a column
  have rows : ∀ (c : Nat) (x4 ah p : Int) (M : Nat → Nat → Int), c < n → gjS n a b c M ah → p = M c c → p ≠ 0 → (∀ ivd : mIv, (∀ p j, p ≠ 76 → ivd p j = iv p j) → gjS n a b (c + 1) (mR ivd) p → ∀ (u8 u10 : Option mV), Ex 63 179 [vR 66, vL ah, none, vI c, vI x4, vL p, none, vI n, u8, none, u10] [] ivd (RV sa sb) Q) → ∀ (t r : Nat), r + t = n → ∀ (ivc : mIv) (u8 u10 : Option mV), (∀ p j, p ≠ 76 → ivc p j = iv p j) → (∀ k, k < 6 → mR ivc c k = M c k) → (∀ s, s < n → s ≠ c → ∀ k, (k < n ∧ c ≤ k) ∨ k = 5 → (s < r → ah * mR ivc s k = M s k * p - M s c * M c k) ∧ (r ≤ s → mR ivc s k = M s k)) → Ex 63 81 [vR 66, vL ah, none, vI c, vI x4, vL p, none, vI r, u8, none, u10] [] ivc (RV sa sb) Q := by
    intro c x4 ah p M hc hg hp hp0 hQ t
    obtain ⟨⟨ah0, ah1⟩, bc, br, hex⟩ := gj_ex hn hc ha hb hg
    have hMb : ∀ s, s < n → ∀ k, (k < n ∧ c ≤ k) ∨ k = 5 → -20000000000 ≤ M s k ∧ M s k ≤ 20000000000 := fun s hs k hk => by
      rcases hk with ⟨z1, z2⟩ | z
      · have := bc s hs k z1 z2; omega
      · rw [z]; have := br s hs; omega
    have bp := bc c hc c hc (Nat.le_refl c)
    induction t with
    | zero =>
      intro r hr ivc u8 u10 f1 f2 f3
      have : r = n := by omega
      subst this
      rw [b63_81, if_neg (by rw [f1 66 0 (by omega), h0]; omega)]
      refine hQ ivc f1 ?_ u8 u10
      rw [hp]
      exact gj_step hn hc hg (by rw [← hp]; exact hp0) (fun s hs hsc k hk => by rw [← hp]; exact (f3 s hs hsc k hk).1 hs) f2
    | succ t ih =>
      intro r hr ivc u8 u10 f1 f2 f3
      have i1 := idx6 (r := r) (k := c) (by omega) (by omega)
      rw [b63_81, if_pos (by rw [f1 66 0 (by omega), h0]; omega), b63_90 (by rw [i1]; omega) (by rw [i1]; omega), i1, Int.toNat_natCast]
      by_cases z : r = c
      · subst z
        rw [b63_107, if_pos (by omega), b63_114, if_pos rfl, b63_173, w32_of (by omega) (by omega)]
        refine ih (r + 1) (by omega) ivc _ _ f1 f2 (fun s hs hsr k hk => ⟨fun q => (f3 s hs hsr k hk).1 (by omega), fun q => (f3 s hs hsr k hk).2 (by omega)⟩)
      · have e1 : ivc 76 (6 * r + c) = M r c := (f3 r (by omega) z c (Or.inl ⟨hc, Nat.le_refl c⟩)).2 (Nat.le_refl r)
        rw [e1]
        have bf := bc r (by omega) c hc (Nat.le_refl c)
        refine row c x4 ah p M r hc (by omega) z ah0 hp (by omega) (by omega) hMb (fun k hk => by rw [hp]; exact hex r (by omega) k hk) 6 0 rfl ivc f1 (fun j hj => f2 j (by omega)) (fun j hj => ⟨fun q => by omega, fun _ => (f3 r (by omega) z j hj).2 (Nat.le_refl r)⟩) (fun ivd g1 g2 g3 => ?_)
        rw [b63_173, w32_of (by omega) (by omega)]
        refine ih (r + 1) (by omega) ivd _ _ g1 (fun k hk => by rw [g2 c k (fun y => z y.symm) hk]; exact f2 k hk) (fun s hs hsc k hk => ?_)
        by_cases y : s = r
        · rw [y]
          exact ⟨fun _ => g3 k hk, fun q => by omega⟩
        · rw [g2 s k y (by omega)]
          exact ⟨fun q => (f3 s hs hsc k hk).1 (by omega), fun q => (f3 s hs hsc k hk).2 (by omega)⟩
  -- the columns
  have cols : ∀ (t c : Nat), c + t = n → ∀ (ivc : mIv) (ah : Int) (u4 u5 u7 u8 u10 : Option mV), (∀ p j, p ≠ 76 → ivc p j = iv p j) → gjS n a b c (mR ivc) ah → Ex 63 4 [vR 66, vL ah, none, vI c, u4, u5, none, u7, u8, none, u10] [] ivc (RV sa sb) Q := by
    intro t
    induction t with
    | zero =>
      intro c hc ivc ah u4 u5 u7 u8 u10 f1 hg
      have : c = n := by omega
      subst this
      obtain ⟨d, s, hs, d1, d2, hah, hbd, hsol⟩ := gj_end hn ha hb hg
      have hab : absI ah = d := by
        unfold absI
        rw [hah]
        rcases hs with e | e <;> rw [e]
        · rw [if_neg (by omega)]; omega
        · rw [if_pos (by omega)]; omega
      rw [b63_4, if_neg (by rw [f1 66 0 (by omega), h0]; omega), b63_188, m59 (by rw [hah]; rcases hs with e | e <;> rw [e] <;> omega) (by rw [hah]; rcases hs with e | e <;> rw [e] <;> omega), hab]
      show Ex 63 193 _ [.inr (.inl d), .inr (.inr (some 66))] _ _ _
      rw [b63_193]
      have last : ∀ (t k : Nat), k + t = c → ∀ ivd : mIv, (∀ p j, p ≠ 77 → ¬ (p = 66 ∧ j = 14) → ivd p j = ivc p j) → ivd 66 14 = d → (∀ j, j < k → ivd 77 j = s * mR ivc j 5) → Ex 63 198 [vR 66, vL ah, none, vI k, u4, u5, none, u7, u8, none, u10] [] ivd (RV sa sb) Q := by
        intro t
        induction t with
        | zero =>
          intro k hk ivd g1 g2 g3
          have : k = c := by omega
          subst this
          rw [b63_198, if_neg (by rw [g1 66 0 (by omega) (by omega), f1 66 0 (by omega), h0]; omega), b63_250]
          refine k1 ivd (fun p j n76 n77 n66 => by rw [g1 p j n77 n66, f1 p j n76]) (by rw [g2]; exact d1) (by rw [g2]; exact d2) (fun r hr => by rw [g3 r hr]; exact hbd r hr) (fun r hr => ?_)
          rw [g2, ← hsol r hr]
          exact sm_congr (fun j hj => by rw [g3 j hj])
        | succ t ih =>
          intro k hk ivd g1 g2 g3
          have i5 := idx65 (r := k) (by omega)
          have e5 : ivd 76 (6 * k + 5) = mR ivc k 5 := g1 76 _ (by omega) (by omega)
          have bk := hbd k (by omega)
          have fin : ∀ x : Int, x = s * mR ivc k 5 → Ex 63 243 [vR 66, vL ah, none, vI k, u4, u5, none, u7, u8, none, u10] [.inr (.inl x), .inl (k : Int), .inr (.inr (some 77))] ivd (RV sa sb) Q := fun x hx => by
            rw [b63_243 (by omega) (by omega), Int.toNat_natCast, w32_of (by omega) (by omega)]
            refine ih (k + 1) (by omega) _ (fun p j n77 n66 => by rw [st2_ne n77]; exact g1 p j n77 n66) (by rw [st2_ne (by omega)]; exact g2) (fun j hj => ?_)
            by_cases z : j = k
            · rw [z, st2_eq, hx]
            · rw [st2_nk z]; exact g3 j (by omega)
          rw [b63_198, if_pos (by rw [g1 66 0 (by omega) (by omega), f1 66 0 (by omega), h0]; omega), b63_206]
          rcases hs with e | e
          · rw [if_neg (by rw [hah, e]; omega), b63_232 (by rw [i5]; omega) (by rw [i5]; omega), i5, Int.toNat_natCast, e5]
            exact fin _ (by rw [e]; omega)
          · rw [e] at bk
            rw [if_pos (by rw [hah, e]; omega), b63_217 (by rw [i5]; omega) (by rw [i5]; omega), i5, Int.toNat_natCast, e5, w64_of (by omega) (by omega)]
            exact fin _ (by rw [e]; omega)
      exact last c 0 (by omega) _ (fun p j n77 n66 => by unfold st2; rw [if_neg n66]) st2_eq (fun j hj => by omega)
    | succ t ih =>
      intro c hc ivc ah u4 u5 u7 u8 u10 f1 hg
      rw [b63_4, if_pos (by rw [f1 66 0 (by omega), h0]; omega), b63_12]
      have pick : ∀ (t' q : Nat), q + t' = n → c ≤ q → (∀ r, c ≤ r → r < q → mR ivc r c = 0) → Ex 63 15 [vR 66, vL ah, none, vI c, vI q, u5, none, u7, u8, none, u10] [] ivc (RV sa sb) Q := by
        intro t'
        induction t' with
        | zero =>
          intro q hq hcq hz
          have : q = n := by omega
          subst this
          rw [b63_15, if_neg (by rw [f1 66 0 (by omega), h0]; omega), b63_47, if_pos (by rw [f1 66 0 (by omega), h0]), b63_56]
          exact k0 (gj_dep hn (by omega) hg (fun r hr hcr => hz r hcr hr)) ivc f1
        | succ t' ih' =>
          intro q hq hcq hz
          have i1 := idx6 (r := q) (k := c) (by omega) (by omega)
          rw [b63_15, if_pos (by rw [f1 66 0 (by omega), h0]; omega), b63_24 (by rw [i1]; omega) (by rw [i1]; omega), i1, Int.toNat_natCast]
          by_cases z : ivc 76 (6 * q + c) = 0
          · rw [if_pos z, b63_41, w32_of (by omega) (by omega)]
            refine ih' (q + 1) (by omega) (by omega) (fun r h1 h2 => ?_)
            by_cases y : r = q
            · rw [y]; exact z
            · exact hz r h1 (by omega)
          · rw [if_neg z, b63_47, if_neg (by rw [f1 66 0 (by omega), h0]; omega), b63_58]
            refine m62 (by omega) (by omega) (fun iv1 g1 g2 => ?_)
            have f2 : ∀ p j, p ≠ 76 → iv1 p j = iv p j := fun p j hp => by rw [g1 p j hp, f1 p j hp]
            have hg1 : gjS n a b c (mR iv1) ah := gj_swap (by omega) hcq (by omega) hg (fun r hr k hk => g2 r (by omega) k hk) hn
            have i2 := idx6 (r := c) (k := c) (by omega) (by omega)
            show Ex 63 65 _ [] _ _ _
            rw [b63_65 (by rw [i2]; omega) (by rw [i2]; omega), i2, Int.toNat_natCast]
            have hpv : iv1 76 (6 * c + c) = mR iv1 c c := rfl
            have hp0 : mR iv1 c c ≠ 0 := by
              rw [g2 c (by omega) c (by omega)]
              have : swr c q c = q := by unfold swr; rw [if_pos rfl]
              rw [this]; exact z
            rw [hpv]
            refine rows c (q : Int) ah (mR iv1 c c) (mR iv1) (by omega) hg1 rfl hp0 (fun ivd d1 d2 u8' u10' => ?_) n 0 (by omega) iv1 _ _ f2 (fun k hk => rfl) (fun s hs hsc k hk => ⟨fun y => by omega, fun _ => rfl⟩)
            rw [b63_179, w32_of (by omega) (by omega)]
            exact ih (c + 1) (by omega) ivd _ _ _ _ _ _ d1 d2
      exact pick (t + 1) c (by omega) (Nat.le_refl c) (fun r h1 h2 => by omega)
  exact cols n 0 (by omega) iv 1 none none none none none (fun _ _ _ => rfl) (gj_0 hn h1 h2)
end MEE
