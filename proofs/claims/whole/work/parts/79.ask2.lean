/-! bitCount, countUnmet, count, why, settle, stay, move, quarrel -/
def bsh (x y : Int) : Int := ((Int32.ofInt x).toUInt32 >>> ((Int32.ofInt y).toUInt32 &&& Int32.toUInt32 31)).toInt32.toInt
def ban (x y : Int) : Int := (Int32.ofInt x &&& Int32.ofInt y).toInt
def bc1 (x : Int) : Int := w32 (x - ban (bsh x 1) 1431655765)
def bc2 (x : Int) : Int := w32 (ban x 858993459 + ban (bsh x 2) 858993459)
def bc3 (x : Int) : Int := ban (w32 (x + bsh x 4)) 252645135
def bc4 (x : Int) : Int := w32 (x + bsh x 8)
def bc5 (x : Int) : Int := w32 (x + bsh x 16)
def nIn (F : Nat → Bool) : Nat := nth (fun w => if F w = true then 1 else 0) 9
theorem pop_t : ∀ s : Nat, s < 512 → ban (bc5 (bc4 (bc3 (bc2 (bc1 (s : Int)))))) 63 = ((nIn s.testBit : Nat) : Int) := by decide +kernel
theorem nth_congr {f f' : Nat → Int} {k : Nat} (h : ∀ l, l < k → (f l = 0 ↔ f' l = 0)) : nth f k = nth f' k := by
  induction k with
  | zero => rfl
  | succ k ih =>
    unfold nth
    rw [ih (fun l hl => h l (by omega))]
    congr 1
    by_cases c : f k = 0
    · rw [if_pos c, if_pos ((h k (by omega)).mp c)]
    · rw [if_neg c, if_neg (fun z => c ((h k (by omega)).mpr z))]
theorem nIn_congr {F F' : Nat → Bool} (h : ∀ l, l < 9 → F l = F' l) : nIn F = nIn F' := nth_congr (fun l hl => by rw [h l hl])
theorem Rc.frS {sa sb : Nat} {iv iv' : mIv} {g : Sg} (h : Rc iv sa sb g) (f : ∀ p j, p < 66 → p ≠ 3 → p ≠ 4 → iv' p j = iv p j) : Rc iv' sa sb g := by
  obtain ⟨hS, hW, s1, s2, hset⟩ := h
  have ha := hS.a
  obtain ⟨h1, h2, h3, h4⟩ := hW
  refine ⟨hS, ⟨by rw [f _ _ (by omega) (by omega) (by omega)]; exact h1, by rw [f _ _ (by omega) (by omega) (by omega)]; exact h2, fun e he => by rw [f _ _ (by omega) (by omega) (by omega), f _ _ (by omega) (by omega) (by omega)]; exact h3 e he, fun w hw => ?_⟩, s1.fr (b := 24) (fun p j q1 q2 => f p j (by omega) (by omega) (by omega)), s2.fr (b := 24) (fun p j q1 q2 => f p j (by omega) (by omega) (by omega)), ?_⟩
  · rw [f _ _ (by omega) (by omega) (by omega), f _ _ (by omega) (by omega) (by omega), f _ _ (by omega) (by omega) (by omega), f _ _ (by omega) (by omega) (by omega), f _ _ (by omega) (by omega) (by omega), f _ _ (by omega) (by omega) (by omega)]
    obtain ⟨a0, a1, a2, a3, a4, a5, a6⟩ := h4 w hw
    exact ⟨a0, a1, a2, a3, a4, a5, fun e he => by rw [f _ _ (by omega) (by omega) (by omega)]; exact a6 e he⟩
  · rw [f 0 9 (by omega) (by omega) (by omega)]
    rcases hset with z | z
    · exact Or.inl z
    · exact Or.inr ⟨z.1, z.2.fr (fun p j q1 q2 => f p j (by omega) (by omega) (by omega))⟩
/-- the trial's solver is not part of what the memory tells -/
theorem Rc.frT {sa sb : Nat} {iv iv' : mIv} {g : Sg} (h : Rc iv sa sb g) (f : frB sb iv iv') (s : solB iv' sb) : Rc iv' sa sb g := by
  obtain ⟨hS, hW, s1, s2, hset⟩ := h
  have hne := hS.ne
  have ha := hS.a
  have hb := hS.b
  have fa : ∀ p j, sa ≤ p → p ≤ sa + 20 → iv' p j = iv p j := fun p j q1 q2 => f p j (by omega)
  refine ⟨hS, hW.fr hb f, ?_, ?_, ?_⟩
  · rcases hS with ⟨e1, e2⟩ | ⟨e1, e2⟩
    · exact s1.fr (b := 24) (fun p j q1 q2 => f p j (by omega))
    · rw [← e2]; exact s
  · rcases hS with ⟨e1, e2⟩ | ⟨e1, e2⟩
    · rw [← e2]; exact s
    · exact s2.fr (b := 24) (fun p j q1 q2 => f p j (by omega))
  · rw [f 0 9 (by omega)]
    rcases hset with z | z
    · exact Or.inl z
    · exact Or.inr ⟨z.1, z.2.fr fa⟩
noncomputable def aUnm (g : Sg) : Nat := nIn (fun w => decide (sS g w = true ∧ oOff g w ≠ 0))
noncomputable def aCount (g : Sg) (x : Int) : Int := if x = 0 then g.1 else if x = 1 then (nth g.2.2.1 9 : Nat) else if x = 2 then (nIn (sM g) : Nat) else if x = 3 then (aUnm g : Nat) else -2000000002
abbrev nearer (g : Sg) (w v : Nat) : Prop := offV ((sC g).2.1 w) (gW (sC g) g.1 w (oP (sC g) g.1 (clrS (sS g) v)).1 (oP (sC g) g.1 (clrS (sS g) v)).2) * oD g < oOff g w * (oP (sC g) g.1 (clrS (sS g) v)).2
noncomputable def whyS (g : Sg) (w : Nat) : Nat → Bool := fun v => decide (v ≠ w ∧ sS g v = true ∧ (sC g).2.2.1 v ≤ (sC g).2.2.1 w ∧ nearer g w v)
noncomputable def aWhy (g : Sg) (x : Int) : Int := @ite Int (isW g x) (Classical.propDecidable _) (if g.2.2.2.1 x.toNat ≠ 0 then 0 else if oOff g x.toNat = 0 then 0 else (bo 9 (whyS g x.toNat) : Nat)) (-2000000001)
theorem frac_lt {o d O D o' d' O' D' : Int} (hd : 0 < d) (hD : 0 < D) (hd' : 0 < d') (hD' : 0 < D') (h : D * o = d * O) (h' : D' * o' = d' * O') : o' * d < o * d' ↔ O' * D < O * D' := by
  have e1 : (D * D') * (o' * d) = (d * d') * (O' * D) := by
    have : (D * D') * (o' * d) = (D' * o') * (D * d) := by grind
    rw [this, h']; grind
  have e2 : (D * D') * (o * d') = (d * d') * (O * D') := by
    have : (D * D') * (o * d') = (D * o) * (D' * d') := by grind
    rw [this, h]; grind
  have p1 : 0 < D * D' := Int.mul_pos hD hD'
  have p2 : 0 < d * d' := Int.mul_pos hd hd'
  constructor
  · intro z
    have := Int.mul_lt_mul_of_pos_left z p1
    rw [e1, e2] at this
    exact Int.lt_of_mul_lt_mul_left this (Int.le_of_lt p2)
  · intro z
    have := Int.mul_lt_mul_of_pos_left z p2
    rw [← e1, ← e2] at this
    exact Int.lt_of_mul_lt_mul_left this (Int.le_of_lt p1)
theorem w_ml {o d : Int} (ho : 0 ≤ o ∧ o ≤ 400000000000) (hd : 0 < d ∧ d ≤ 29160) : w64 (o * d) = o * d := by
  have h1 := Int.mul_nonneg ho.1 (Int.le_of_lt hd.1)
  have h2 : o * d ≤ 400000000000 * 29160 := Int.mul_le_mul ho.2 hd.2 (Int.le_of_lt hd.1) (by omega)
  exact w64_of (by omega) (by omega)
section ASL
variable {sa sb : Nat} {iv : mIv} {Q : Option mV → mIv → mRv → Prop} {g : Sg}
theorem m97 {s : Nat} (hs : s < 512) : Ex 97 0 [vI s] [] iv (RV sa sb) Q = Q (vI (nIn s.testBit : Nat)) iv (RV sa sb) := by
  rw [← pop_t s hs]
  refine Eq.trans (ex_blkT (M := 97) 4 [(0, .iload_n 0, 1), (1, .iload_n 0, 1), (2, .iconst 1, 1), (3, .iushr, 1), (4, .ldc_w 265, 3), (7, .iand, 1), (8, .isub, 1), (9, .istore_n 0, 1)] rfl (by decide +kernel) rfl (by exact trivial)) ?_
  show Ex 97 10 [vI (bc1 (s : Int))] [] iv (RV sa sb) Q = _
  generalize bc1 (s : Int) = y
  refine Eq.trans (ex_blkT (M := 97) 4 [(10, .iload_n 0, 1), (11, .ldc_w 266, 3), (14, .iand, 1), (15, .iload_n 0, 1), (16, .iconst 2, 1), (17, .iushr, 1), (18, .ldc_w 266, 3), (21, .iand, 1), (22, .iadd, 1), (23, .istore_n 0, 1)] rfl (by decide +kernel) rfl (by exact trivial)) ?_
  show Ex 97 24 [vI (bc2 y)] [] iv (RV sa sb) Q = _
  generalize bc2 y = y
  refine Eq.trans (ex_blkT (M := 97) 4 [(24, .iload_n 0, 1), (25, .iload_n 0, 1), (26, .iconst 4, 1), (27, .iushr, 1), (28, .iadd, 1), (29, .ldc_w 267, 3), (32, .iand, 1), (33, .istore_n 0, 1)] rfl (by decide +kernel) rfl (by exact trivial)) ?_
  show Ex 97 34 [vI (bc3 y)] [] iv (RV sa sb) Q = _
  generalize bc3 y = y
  refine Eq.trans (ex_blkT (M := 97) 4 [(34, .iload_n 0, 1), (35, .iload_n 0, 1), (36, .bipush 8, 2), (38, .iushr, 1), (39, .iadd, 1), (40, .istore_n 0, 1)] rfl (by decide +kernel) rfl (by exact trivial)) ?_
  show Ex 97 41 [vI (bc4 y)] [] iv (RV sa sb) Q = _
  generalize bc4 y = y
  refine Eq.trans (ex_blkT (M := 97) 4 [(41, .iload_n 0, 1), (42, .iload_n 0, 1), (43, .bipush 16, 2), (45, .iushr, 1), (46, .iadd, 1), (47, .istore_n 0, 1)] rfl (by decide +kernel) rfl (by exact trivial)) ?_
  show Ex 97 48 [vI (bc5 y)] [] iv (RV sa sb) Q = _
  generalize bc5 y = y
  refine Eq.trans (ex_blkT (M := 97) 4 [(48, .iload_n 0, 1), (49, .bipush 63, 2), (51, .iand, 1)] rfl (by decide +kernel) rfl (by exact trivial)) ?_
  exact (ex_retT (M := 97) (pc := 52) (i := .ireturn) (n := 1) (rt := some .int) (by decide +kernel) (fun _ => rfl) rfl (fun _ _ _ => rfl) rfl rfl (by exact trivial))
theorem off0 {o d O D : Int} (hd : 0 < d) (hD : 0 < D) (h : D * o = d * O) : o = 0 ↔ O = 0 := by
  constructor
  · intro z
    rw [z, Int.mul_zero] at h
    rcases Int.mul_eq_zero.mp h.symm with e | e
    · omega
    · exact e
  · intro z
    rw [z, Int.mul_zero] at h
    rcases Int.mul_eq_zero.mp h with e | e
    · omega
    · exact e
theorem m49 (hB : sB g) (h : Rc iv sa sb g) (hk : ∀ iv' : mIv, frM iv iv' → Rc iv' sa sb g → Q (vI (aUnm g : Nat)) iv' (RV sa sb)) : Ex 49 0 [vR 0, none, none] [] iv (RV sa sb) Q := by
  have hS := h.1
  rw [b49_0]
  refine m51 hB h (fun iv' f h6 h' hs => ?_)
  show Ex 49 4 _ [] _ _ _
  rw [b49_4]
  have hfin := hk iv' (f.M hS.a) h'
  have hs0 := hs
  obtain ⟨m, h1, h2, h3, h4⟩ := hs
  have hq := (oP_eq hB.1 (sS_hi g) h2)
  unfold aUnm nIn at hfin
  generalize hF : (fun w => if decide (sS g w = true ∧ oOff g w ≠ 0) = true then (1 : Int) else 0) = F at hfin
  have loop : ∀ t k : Nat, k + t = 9 → Ex 49 8 [vR 0, vI (nth F k : Nat), vI k] [] iv' (RV sa sb) Q := by
    intro t
    induction t with
    | zero =>
      intro k hk'
      have : k = 9 := by omega
      subst this
      rw [b49_8, if_neg (by omega), b49_53]
      exact hfin
    | succ t ih =>
      intro k hk'
      have xk : ((k : Int)).toNat = k := Int.toNat_natCast k
      have hle := nth_le F k
      have hih := ih (k + 1) (by omega)
      have hFk : F k = if decide (sS g k = true ∧ oOff g k ≠ 0) = true then (1 : Int) else 0 := by rw [← hF]
      have skip : ¬ (sS g k = true ∧ oOff g k ≠ 0) → Ex 49 47 [vR 0, vI (nth F k : Nat), vI k] [] iv' (RV sa sb) Q := fun z => by
        have e : nth F (k + 1) = nth F k := by
          show _ + (if F k = 0 then 0 else 1) = _
          rw [if_pos (by rw [hFk, if_neg (fun y => z (of_decide_eq_true y))])]; rfl
        rw [e] at hih
        rw [b49_47, w32_of (by omega) (by omega)]
        exact hih
      rw [b49_8, if_pos (by omega), b49_14 (by omega) (by omega), xk, m18c h'.2.1 (by omega)]
      by_cases z : sS g k = true
      · rw [if_pos z]
        show Ex 49 23 _ [.inl 1] _ _ _
        obtain ⟨q1, q2⟩ := m6c (sa := sa) (sb := sb) (Q := fun v iv2 rv2 => Ex 49 39 [vR 0, vI (nth F k : Nat), vI k] (mpush v []) iv2 rv2 Q) hB h'.2.1 hS.a (show k < 9 by omega) hs0
        rw [b49_23, if_neg (by omega), b49_26 hS (by omega) (by omega), xk, q1]
        show Ex 49 39 _ [.inr (.inl _)] _ _ _
        rw [b49_39]
        have hz := off0 h2.1 hq.2.2.2.2.2 (hq.2.2.2.2.1 k)
        by_cases y : offV ((sC g).2.1 k) (gW (sC g) g.1 k (iv' (sa + 1)) (iv' sa 0)) = 0
        · rw [if_pos y]
          exact skip (fun w => w.2 (hz.mp y))
        · have e : ((nth F (k + 1) : Nat) : Int) = (nth F k : Nat) + 1 := by
            show ((_ + (if F k = 0 then 0 else 1) : Nat) : Int) = _
            rw [if_neg (by rw [hFk, if_pos (decide_eq_true ⟨z, fun w => y (hz.mpr w)⟩)]; omega)]; omega
          rw [e] at hih
          rw [if_neg y, b49_44, b49_47, w32_of (by omega) (by omega), w32_of (by omega) (by omega)]
          exact hih
      · rw [if_neg z]
        show Ex 49 23 _ [.inl 0] _ _ _
        rw [b49_23, if_pos rfl]
        exact skip (fun y => z y.1)
  exact loop 9 0 rfl
theorem c30 {x : Int} (hB : sB g) (h : Rc iv sa sb g) (hk : ∀ iv' : mIv, frM iv iv' → Rc iv' sa sb g → Q (vI (aCount g x)) iv' (RV sa sb)) : Ex 30 0 [vR 0, vI x] [] iv (RV sa sb) Q := by
  have hr := hk iv (fun _ _ _ => rfl) h
  have hW := h.2.1
  rw [b30_0]
  refine ⟨fun z => ?_, fun z => ?_, fun z => ?_, fun z => ?_, fun z => ?_, trivial⟩
  · rw [b30_56]
    unfold aCount at hr
    rw [if_neg (by omega), if_neg (by omega), if_neg (by omega), if_neg (by omega)] at hr
    exact hr
  · rw [b30_32, hW.1]
    unfold aCount at hr
    rw [if_pos z] at hr
    exact hr
  · rw [b30_37, m48]
    show Ex 30 41 _ [.inl _] _ _ _
    rw [b30_41, nth_congr (f' := g.2.2.1) (fun l hl => by rw [(hW.2.2.2 l hl).1])]
    unfold aCount at hr
    rw [if_neg (by omega), if_pos z] at hr
    exact hr
  · rw [b30_42, m50]
    show Ex 30 47 _ [.inl _] _ _ _
    rw [b30_47, cnt0 hW hB, m97 (bo_lt 9 (by omega))]
    show Ex 30 50 _ [.inl _] _ _ _
    rw [b30_50, nIn_congr (F' := sM g) (fun l hl => bo_9 hl)]
    unfold aCount at hr
    rw [if_neg (by omega), if_neg (by omega), if_pos z] at hr
    exact hr
  · rw [b30_51]
    refine m49 hB h (fun iv' f h' => ?_)
    show Ex 30 55 _ [.inl _] _ _ _
    rw [b30_55]
    have := hk iv' f h'
    unfold aCount at this
    rw [if_neg (by omega), if_neg (by omega), if_neg (by omega), if_pos z] at this
    exact this
theorem c31 (h : Rc iv sa sb g) : Ex 31 0 [vR 0] [] iv (RV sa sb) Q = Q (vI g.2.2.2.2.1) iv (RV sa sb) := by
  rw [b31_0, h.2.1.2.1]
/-- is it nearer without v -/
theorem m54 {w v : Nat} (hB : sB g) (hS : hSS sa sb) (hW : Wc iv g) (hs : solS (sC g) g.1 (sS g) iv sa) (hsol : solB iv sb) (hw : w < 9) (hv : v < 9) (hk : ∀ iv' : mIv, frB sb iv iv' → solB iv' sb → Q (vI (if nearer g w v then 1 else 0)) iv' (RV sa sb)) : Ex 54 0 [vR 0, vR (6 + 2 * w), vI v] [] iv (RV sa sb) Q := by
  have ha := hS.a
  have hb := hS.b
  have hne := hS.ne
  have hs0 := hs
  obtain ⟨m, h1, h2, h3, h4⟩ := hs
  rw [b54_0 hw hS]
  refine m2 hb ha hne hsol h1 (fun iv1 f1 g1 => ?_)
  show Ex 54 11 _ [] _ _ _
  rw [b54_11 hw hS]
  refine m3 hb hv g1 (fun iv2 f2 g2 => ?_)
  show Ex 54 19 _ [] _ _ _
  rw [b54_19 hw hS]
  refine m5 hb (dropW_B hB.1) g2 (fun iv3 o3 g3 => ?_)
  have f3 : frB sb iv iv3 := (f1.trans f2).trans o3.B
  show Ex 54 26 _ [] _ _ _
  have hW3 := hW.fr hb f3
  obtain ⟨q1, q2⟩ := m6c (sa := sa) (sb := sb) (Q := fun v' iv2 rv2 => Ex 54 34 [vR 0, vR (6 + 2 * w), vI v] (mpush v' []) iv2 rv2 Q) hB hW3 hb hw g3
  have fa : ∀ p j, sa ≤ p → p ≤ sa + 20 → iv3 p j = iv p j := fun p j z1 z2 => f3 p j (by omega)
  have hs3 := hs0.fr fa
  rw [b54_26 hw hS, q1]
  show Ex 54 34 _ [.inr (.inl _)] _ _ _
  obtain ⟨p1, p2⟩ := m6c (sa := sa) (sb := sb) (Q := fun v' iv2 rv2 => Ex 54 50 [vR 0, vR (6 + 2 * w), vI v] (mpush v' [.inr (.inl (w64 (offV ((sC g).2.1 w) (gW (sC g) g.1 w (iv3 (sb + 1)) (iv3 sb 0)) * (iv3 sa 0))))]) iv2 rv2 Q) hB hW3 ha hw hs3
  rw [b54_34 hw hS, p1]
  show Ex 54 50 _ [.inr (.inl _), .inr (.inl _)] _ _ _
  have g30 := g3
  obtain ⟨m', k1, k2, k3, k4⟩ := g3
  obtain ⟨m'', j1, j2, j3, j4⟩ := hs3
  rw [b54_50 hw hS, w_ml (offV_bd q2) ⟨j2.1, j3⟩, w_ml (offV_bd p2) ⟨k2.1, k3⟩]
  have u1 := oP_eq hB.1 (sS_hi g) j2
  have u2 := oP_eq hB.1 (clrS_hi (sS_hi g) v) (cOpt_drop hv k2)
  have hiff := frac_lt j2.1 u1.2.2.2.2.2 k2.1 u2.2.2.2.2.2 (u1.2.2.2.2.1 w) (u2.2.2.2.2.1 w)
  have hfin := hk iv3 f3 g30.solB
  by_cases z : nearer g w v
  · rw [if_pos z] at hfin
    rw [if_pos (hiff.mpr z), b54_62 hw, b54_67 hw (Or.inr rfl)]
    exact hfin
  · rw [if_neg z] at hfin
    rw [if_neg (fun y => z (hiff.mp y)), b54_66 hw, b54_67 hw (Or.inl rfl)]
    exact hfin
theorem c36 {x : Int} (hB : sB g) (h : Rc iv sa sb g) (hk : ∀ iv' : mIv, frM iv iv' → Rc iv' sa sb g → Q (vI (aWhy g x)) iv' (RV sa sb)) : Ex 36 0 [vR 0, vI x, none, none, none, none] [] iv (RV sa sb) Q := by
  have hr := hk iv (fun _ _ _ => rfl) h
  have hS := h.1
  unfold aWhy at hk hr
  rw [b36_0]
  refine m44c h.2.1 (fun c => ?_) (fun c => ?_)
  · rw [if_pos c] at hr
    show Ex 36 5 _ [.inl 1] _ _ _
    obtain ⟨w, hwe⟩ : ∃ w : Nat, x = w := ⟨x.toNat, by have := c.1; omega⟩
    subst hwe
    have hw : w < 9 := by have := c.2.1; omega
    rw [b36_5, if_neg (by omega), b36_11 (by omega) (by omega), Int.toNat_natCast, (h.2.1.2.2.2 w hw).2.1]
    rw [Int.toNat_natCast] at hr
    by_cases d : g.2.2.2.1 w = 0
    · rw [if_pos d, b36_27 hw]
      refine m51 hB h (fun iv' f h6 h' hs => ?_)
      show Ex 36 31 _ [] _ _ _
      obtain ⟨q1, q2⟩ := m6c (sa := sa) (sb := sb) (Q := fun v iv2 rv2 => Ex 36 39 [vR 0, vI w, vR (6 + 2 * w), none, none, none] (mpush v []) iv2 rv2 Q) hB h'.2.1 hS.a hw hs
      rw [b36_31 hw hS, q1]
      show Ex 36 39 _ [.inr (.inl _)] _ _ _
      have hs0 := hs
      obtain ⟨m, h1, h2, h3, h4⟩ := hs
      have hq := (oP_eq hB.1 (sS_hi g) h2)
      have hz : offV ((sC g).2.1 w) (gW (sC g) g.1 w (iv' (sa + 1)) (iv' sa 0)) = 0 ↔ oOff g w = 0 := off0 h2.1 hq.2.2.2.2.2 (hq.2.2.2.2.1 w)
      rw [b36_39 hw]
      by_cases y : offV ((sC g).2.1 w) (gW (sC g) g.1 w (iv' (sa + 1)) (iv' sa 0)) = 0
      · have hfin := hk iv' (f.M hS.a) h'
        rw [if_pos c, Int.toNat_natCast, if_neg (fun z => z d), if_pos (hz.mp y)] at hfin
        rw [if_pos y, b36_44 hw]
        exact hfin
      · rw [if_neg y, b36_46 hw]
        have hfin : ∀ iv'' : mIv, frM iv iv'' → Rc iv'' sa sb g → Q (vI (bo 9 (whyS g w) : Nat)) iv'' (RV sa sb) := fun iv'' f'' h'' => by
          have := hk iv'' f'' h''
          rw [if_pos c, Int.toNat_natCast, if_neg (fun z => z d), if_neg (fun z => y (hz.mpr z))] at this
          exact this
        have loop : ∀ t k : Nat, k + t = 9 → ∀ (ivc : mIv) (u5 : Option mV), frM iv ivc → Rc ivc sa sb g → solS (sC g) g.1 (sS g) ivc sa → Ex 36 51 [vR 0, vI w, vR (6 + 2 * w), vI (bo k (whyS g w) : Nat), vI k, u5] [] ivc (RV sa sb) Q := by
          intro t
          induction t with
          | zero =>
            intro k hk' ivc u5 fc hc sc
            have : k = 9 := by omega
            subst this
            rw [b36_51 hw, if_neg (by omega), b36_116 hw]
            exact hfin ivc fc hc
          | succ t ih =>
            intro k hk' ivc u5 fc hc sc
            have xk : ((k : Int)).toNat = k := Int.toNat_natCast k
            have hlt := bo_lt (S := whyS g w) k (by omega)
            have skip : ∀ ivd : mIv, frM iv ivd → Rc ivd sa sb g → solS (sC g) g.1 (sS g) ivd sa → ¬ (k ≠ w ∧ sS g k = true ∧ (sC g).2.2.1 k ≤ (sC g).2.2.1 w ∧ nearer g w k) → Ex 36 110 [vR 0, vI w, vR (6 + 2 * w), vI (bo k (whyS g w) : Nat), vI k, vR (6 + 2 * k)] [] ivd (RV sa sb) Q := fun ivd fd hd sd z => by
              have e : bo (k + 1) (whyS g w) = bo k (whyS g w) := by
                show (if whyS g w k = true then _ else _) = _
                rw [if_neg (show ¬ whyS g w k = true from fun y => z (of_decide_eq_true y))]
              have := ih (k + 1) (by omega) ivd (vR (6 + 2 * k)) fd hd sd
              rw [e] at this
              rw [b36_110 hw (by omega), w32_of (by omega) (by omega)]
              exact this
            obtain ⟨a0, a1, a2, a3, a4, a5, a6⟩ := hc.2.1.2.2.2 k (by omega)
            obtain ⟨a0', a1', a2', a3', a4', a5', a6'⟩ := hc.2.1.2.2.2 w hw
            rw [b36_51 hw, if_pos (by omega), b36_58 hw (by omega) (by omega), xk]
            by_cases e1 : k = w
            · rw [if_pos (by omega)]
              exact skip ivc fc hc sc (fun z => z.1 e1)
            · rw [if_neg (by omega), b36_73 hw (by omega), m18c hc.2.1 (by omega)]
              by_cases e2 : sS g k = true
              · rw [if_pos e2]
                show Ex 36 78 _ [.inl 1] _ _ _
                rw [b36_78 hw (by omega), if_neg (by omega), b36_81 hw (by omega), a3, a3']
                by_cases e3 : (sC g).2.2.1 w < (sC g).2.2.1 k
                · rw [if_pos e3]
                  exact skip ivc fc hc sc (fun z => by omega)
                · rw [if_neg e3, b36_93 hw (by omega)]
                  refine m54 hB hS hc.2.1 sc (sol_ne hS hc.2.2.1 hc.2.2.2.1).2 hw (by omega) (fun ivd fd sd => ?_)
                  have hcd := hc.frT fd sd
                  have hne := hS.ne
                  have ha := hS.a
                  have hb := hS.b
                  have scd := sc.fr (iv' := ivd) (fun p j z1 z2 => fd p j (by omega))
                  have fcd := fc.trans (fd.M hS.b)
                  by_cases e4 : nearer g w k
                  · rw [if_pos e4]
                    show Ex 36 100 _ [.inl 1] _ _ _
                    have e : bo (k + 1) (whyS g w) = adb (bo k (whyS g w)) k := by
                      show (if whyS g w k = true then _ else _) = _
                      rw [if_pos (show whyS g w k = true from decide_eq_true ⟨e1, e2, by omega, e4⟩)]
                    have := ih (k + 1) (by omega) ivd (vR (6 + 2 * k)) fcd hcd scd
                    rw [e] at this
                    rw [b36_100 hw (by omega), if_neg (by omega), b36_103 hw (by omega), adb_i _ hlt k (by omega), b36_110 hw (by omega), w32_of (by omega) (by omega)]
                    exact this
                  · rw [if_neg e4]
                    show Ex 36 100 _ [.inl 0] _ _ _
                    rw [b36_100 hw (by omega), if_pos rfl]
                    exact skip ivd fcd hcd scd (fun z => e4 z.2.2.2)
              · rw [if_neg e2]
                show Ex 36 78 _ [.inl 0] _ _ _
                rw [b36_78 hw (by omega), if_pos rfl]
                exact skip ivc fc hc sc (fun z => e2 z.2.1)
        exact loop 9 0 rfl iv' none (f.M hS.a) h' hs0
    · rw [if_neg d, b36_25 hw]
      rw [if_pos d] at hr
      exact hr
  · rw [if_neg c] at hr
    show Ex 36 5 _ [.inl 0] _ _ _
    rw [b36_5, if_pos rfl, b36_8]
    exact hr
def aStay (g : Sg) (x : Int) : Int := if 0 ≤ x ∧ x < g.1 then (sC g).2.2.2.2.2 x.toNat else -2000000001
theorem c37 {x : Int} (hB : sB g) (h : Rc iv sa sb g) : Ex 37 0 [vR 0, vI x] [] iv (RV sa sb) Q = Q (vI (aStay g x)) iv (RV sa sb) := by
  have hn := hB.1.1
  unfold aStay
  rw [b37_0, m43, h.2.1.1]
  by_cases c : 0 ≤ x ∧ x < (g.1 : Int)
  · rw [if_pos c, if_pos c]
    show Ex 37 5 _ [.inl 1] _ _ _ = _
    rw [b37_5, if_neg (by omega), b37_8 c.1 (by omega), b37_19, (h.2.1.2.2.1 x.toNat (by omega)).1]
  · rw [if_neg c, if_neg c]
    show Ex 37 5 _ [.inl 0] _ _ _ = _
    rw [b37_5, if_pos rfl, b37_17, b37_19]
end ASL
