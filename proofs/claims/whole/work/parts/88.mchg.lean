/-! the model: what its memory holds; allLive, set, clashes -/
def Rk (iv : mIv) (g : Sg) (kk : Int) : Prop := iv 66 0 = g.1 ∧ iv 66 10 = kk ∧ iv 66 11 = g.2.2.2.2.1 ∧ (∀ e, e < 5 → iv 67 e = g.2.2.2.2.2.2.2.2.2.2 e ∧ iv 68 e = g.2.1 e) ∧ ∀ w, w < 9 → iv 69 w = g.2.2.1 w ∧ iv 74 w = g.2.2.2.1 w ∧ iv 70 w = g.2.2.2.2.2.2.1 w ∧ iv 71 w = g.2.2.2.2.2.2.2.1 w ∧ iv 72 w = g.2.2.2.2.2.2.2.2.1 w ∧ iv 73 w = g.2.2.2.2.2.2.2.2.2.1 w ∧ ∀ e, e < 5 → iv 75 (5 * w + e) = g.2.2.2.2.2.1 w e
def Rm (iv : mIv) (g : Sg) : Prop := Rk iv g (nth g.2.2.1 9 : Nat)
def frC (iv iv' : mIv) : Prop := ∀ p j, p < 66 ∨ 81 < p → iv' p j = iv p j
theorem frC.trans {iv iv' iv'' : mIv} (h : frC iv iv') (k : frC iv' iv'') : frC iv iv'' := fun p j hp => (k p j hp).trans (h p j hp)
theorem Rk.W {iv : mIv} {g : Sg} {kk : Int} (h : Rk iv g kk) : Wm iv g.1 (sC g) := by
  obtain ⟨h1, h2, h3, h4, h5⟩ := h
  refine ⟨h1, fun e he => (h4 e he).1, fun w hw => ?_⟩
  obtain ⟨a0, a1, a2, a3, a4, a5, a6⟩ := h5 w hw
  exact ⟨a2, a3, a4, a5, a6⟩
theorem Rk.fr {iv iv' : mIv} {g : Sg} {kk : Int} (h : Rk iv g kk) (f : ∀ p j, 66 ≤ p → p < 76 → ¬ (p = 66 ∧ (j = 14 ∨ j = 16 ∨ j = 19)) → iv' p j = iv p j) : Rk iv' g kk := by
  obtain ⟨h1, h2, h3, h4, h5⟩ := h
  refine ⟨by rw [f _ _ (by omega) (by omega) (by omega)]; exact h1, by rw [f _ _ (by omega) (by omega) (by omega)]; exact h2, by rw [f _ _ (by omega) (by omega) (by omega)]; exact h3, fun e he => by rw [f _ _ (by omega) (by omega) (by omega), f _ _ (by omega) (by omega) (by omega)]; exact h4 e he, fun w hw => ?_⟩
  rw [f _ _ (by omega) (by omega) (by omega), f _ _ (by omega) (by omega) (by omega), f _ _ (by omega) (by omega) (by omega), f _ _ (by omega) (by omega) (by omega), f _ _ (by omega) (by omega) (by omega), f _ _ (by omega) (by omega) (by omega)]
  obtain ⟨a0, a1, a2, a3, a4, a5, a6⟩ := h5 w hw
  exact ⟨a0, a1, a2, a3, a4, a5, fun e he => by rw [f _ _ (by omega) (by omega) (by omega)]; exact a6 e he⟩
theorem Rm.W {iv : mIv} {g : Sg} (h : Rm iv g) : Wm iv g.1 (sC g) := Rk.W h
theorem Rm.fr {iv iv' : mIv} {g : Sg} (h : Rm iv g) (f : ∀ p j, 66 ≤ p → p < 76 → ¬ (p = 66 ∧ (j = 14 ∨ j = 16 ∨ j = 19)) → iv' p j = iv p j) : Rm iv' g := Rk.fr h f
theorem or0_i : ∀ s : Nat, s < 512 → (Int32.ofInt (s : Int) ||| Int32.ofInt 0).toInt = (s : Int) := by decide +kernel
theorem and1_i : ∀ s : Nat, s < 512 → (Int32.ofInt (s : Int) &&& Int32.ofInt (-1)).toInt = (s : Int) := by decide +kernel
theorem sM_hi (g : Sg) : ∀ l, 9 ≤ l → sM g l = false := fun l hl => by unfold sM; exact decide_eq_false (fun z => by omega)
theorem hw_S {g : Sg} (hB : sB g) : ∀ w, w < 9 → sS g w = true → 1 ≤ (sC g).2.2.2.1 w := fun w hw h => (hB.2.2 w hw).2.2 (of_decide_eq_true h).2.1
theorem sM_S {g : Sg} {w : Nat} (h : sM g w = true) : sS g w = true := by
  have := of_decide_eq_true h
  exact decide_eq_true ⟨this.1, this.2.1, this.2.2.1⟩
theorem hw_M {g : Sg} (hB : sB g) : ∀ w, w < 9 → sM g w = true → 1 ≤ (sC g).2.2.2.1 w := fun w hw h => hw_S hB w hw (sM_S h)
theorem sat_M {g : Sg} (hB : sB g) : cSat (sC g) g.1 (sM g) ↔ sSat g := sat_must hB.1 (hw_S hB) (fun w hw => by
  unfold sM sS
  constructor
  · intro h
    have := of_decide_eq_true h
    exact ⟨decide_eq_true ⟨this.1, this.2.1, this.2.2.1⟩, this.2.2.2⟩
  · rintro ⟨h, k⟩
    have := of_decide_eq_true h
    exact decide_eq_true ⟨this.1, this.2.1, this.2.2, k⟩)
/-- the setting stands in the model -/
def setM (iv : mIv) (c : Cg) (n : Nat) (S : Nat → Bool) : Prop := cOpt c n S (4 + n) (iv 78) (iv 66 16) ∧ iv 66 16 ≤ 29160 ∧ (∀ e, e < n → -17496000000 ≤ iv 78 e ∧ iv 78 e ≤ 17496000000) ∧ ∀ k, k < 8 → iv 80 k = cT c n S (k + 1) (iv 78) (iv 66 16) ∧ 0 ≤ iv 80 k ∧ iv 80 k ≤ 36000000000000
section MCH
variable {sa sb : Nat} {iv : mIv} {Q : Option mV → mIv → mRv → Prop} {g : Sg}
theorem m58 {x lo hi : Int} : Ex 58 0 [vL x, none, vL lo, none, vL hi, none] [] iv (RV sa sb) Q = Q (vI (if lo ≤ x ∧ x ≤ hi then 1 else 0)) iv (RV sa sb) := by
  rw [b58_0]
  by_cases c : x < lo
  · rw [if_pos c, if_neg (by omega), b58_17, b58_18 (Or.inl rfl)]
  · rw [if_neg c, b58_6]
    by_cases d : hi < x
    · rw [if_pos d, if_neg (by omega), b58_17, b58_18 (Or.inl rfl)]
    · rw [if_neg d, if_pos (by omega), b58_13, b58_18 (Or.inr rfl)]
theorem m69 {kk : Int} (h : Rk iv g kk) : Ex 69 0 [vR 66, none, none] [] iv (RV sa sb) Q = Q (vI (bo 9 (sS g) : Nat)) iv (RV sa sb) := by
  rw [b69_0]
  have loop : ∀ t k : Nat, k + t = 9 → Ex 69 4 [vR 66, vI (bo k (sS g) : Nat), vI k] [] iv (RV sa sb) Q = Q (vI (bo 9 (sS g) : Nat)) iv (RV sa sb) := by
    intro t
    induction t with
    | zero =>
      intro k hk
      have : k = 9 := by omega
      subst this
      rw [b69_4, if_neg (by omega), b69_44]
    | succ t ih =>
      intro k hk
      have hlt := bo_lt (S := sS g) k (by omega)
      obtain ⟨a0, a1, a2, a3, a4, a5, a6⟩ := h.2.2.2.2 k (by omega)
      have hih := ih (k + 1) (by omega)
      have skip : ¬ sS g k = true → Ex 69 35 [vR 66, vI (bo k (sS g) : Nat), vI k] [.inl (bo k (sS g) : Nat)] iv (RV sa sb) Q = Q (vI (bo 9 (sS g) : Nat)) iv (RV sa sb) := fun z => by
        have e : bo (k + 1) (sS g) = bo k (sS g) := by
          show (if sS g k = true then _ else _) = _
          rw [if_neg z]
        rw [e] at hih
        rw [b69_35, b69_36, or0_i _ hlt, w32_of (by omega) (by omega)]
        exact hih
      rw [b69_4, if_pos (by omega), b69_10 (by omega) (by omega), Int.toNat_natCast, a0]
      by_cases c : g.2.2.1 k = 0
      · rw [if_pos c]
        exact skip (fun z => (of_decide_eq_true z).2.1 c)
      · rw [if_neg c, b69_20 (by omega) (by omega), Int.toNat_natCast, a1]
        by_cases d : g.2.2.2.1 k = 0
        · have hT : sS g k = true := decide_eq_true ⟨by omega, c, d⟩
          have e : bo (k + 1) (sS g) = adb (bo k (sS g)) k := by
            show (if sS g k = true then _ else _) = _
            rw [if_pos hT]
          rw [e] at hih
          rw [if_pos d, b69_29, b69_36, adb_i _ hlt k (by omega), w32_of (by omega) (by omega)]
          exact hih
        · rw [if_neg d]
          exact skip (fun z => d (of_decide_eq_true z).2.2)
  exact loop 9 0 rfl
theorem frV.C {iv' : mIv} (h : frV iv iv') : frC iv iv' := fun p j hp => h p j (by omega) (by omega)
theorem m70 (hB : sB g) (hSat : sSat g) (h : Rm iv g) (hk : ∀ iv' : mIv, frC iv iv' → Rm iv' g → setM iv' (sC g) g.1 (sS g) → Q none iv' (RV sa sb)) : Ex 70 0 [vR 66, none] [] iv (RV sa sb) Q := by
  rw [b70_0, m69 h]
  show Ex 70 5 _ [.inl _, .inr (.inr (some 66))] _ _ _
  rw [b70_5]
  have hb9 : (bo 9 (sS g)).testBit = sS g := bo_S (sS_hi g)
  have f0 : ∀ p j, ¬ (p = 66 ∧ j = 19) → st2 iv 66 19 (bo 9 (sS g) : Nat) p j = iv p j := fun p j hp => by unfold st2; rw [if_neg hp]
  have h1 : Rm (st2 iv 66 19 (bo 9 (sS g) : Nat)) g := h.fr (fun p j _ _ hn => f0 p j (by omega))
  refine m68 (bo_lt 9 (by omega)) hB.1 (fun w hw z => hw_S hB w hw (by rw [hb9] at z; exact z)) h1.W st2_eq (fun hno iv' f => ?_) (fun _ iv' f o1 o2 o3 o4 => ?_)
  · rw [hb9] at hno; exact absurd hSat hno
  · show Ex 70 12 _ [.inl 1] _ _ _
    rw [b70_12]
    rw [hb9] at o1 o4
    refine hk iv' (fun p j hp => by rw [f.C p j hp]; exact f0 p j (by omega)) (h1.fr (fun p j q1 q2 q3 => f p j (by omega) (by omega))) ⟨o1, o2, o3, o4⟩
theorem lqF_sub {c : Cg} {n s : Nat} (hs : s < 512) : ∀ k, k ≤ 9 → ∀ l, l < 9 → (lqF c n k s).testBit l = true → s.testBit l = true
  | 0, _, l, _, h => h
  | k + 1, hk, l, hl, h => by
    have hlt := lqF_lt (c := c) (n := n) hs k (by omega)
    by_cases z : (lqF c n k s).testBit k = true ∧ ¬ cSat c n (clr (lqF c n k s) k).testBit
    · rw [lqF_y z, clr_t _ hlt k (by omega) l hl] at h
      split at h
      · cases h
      · exact lqF_sub hs k (by omega) l hl h
    · rw [lqF_n z] at h
      exact lqF_sub hs k (by omega) l hl h
theorem lqF_congr {c c' : Cg} {n s : Nat} (hs : s < 512) (h : ∀ t, t < 512 → (∀ l, l < 9 → t.testBit l = true → s.testBit l = true) → (cSat c n t.testBit ↔ cSat c' n t.testBit)) : ∀ k, k ≤ 9 → lqF c n k s = lqF c' n k s
  | 0, _ => rfl
  | k + 1, hk => by
    have ih := lqF_congr hs h k (by omega)
    have hlt := lqF_lt (c := c) (n := n) hs k (by omega)
    have hs' := h (clr (lqF c n k s) k) (clr_lt _ hlt k (by omega)) (fun l hl hb => by
      rw [clr_t _ hlt k (by omega) l hl] at hb
      split at hb
      · cases hb
      · exact lqF_sub hs k (by omega) l hl hb)
    by_cases z : (lqF c n k s).testBit k = true ∧ ¬ cSat c n (clr (lqF c n k s) k).testBit
    · rw [lqF_y z, lqF_y (c := c') (by rw [← ih]; exact ⟨z.1, fun y => z.2 (hs'.mpr y)⟩), ih]
    · rw [lqF_n z, lqF_n (c := c') (by rw [← ih]; exact fun y => z ⟨y.1, fun x => y.2 (hs'.mp x)⟩), ih]
/-- the musts' bits, as the model makes them -/
def mkM (g : Sg) : Nat → Nat
  | 0 => bo 9 (sS g)
  | k + 1 => if (sC g).2.2.1 k = 0 then mkM g k else clr (mkM g k) k
theorem mkM_lt (g : Sg) : ∀ k, k ≤ 9 → mkM g k < 512
  | 0, _ => bo_lt 9 (by omega)
  | k + 1, h => by
    unfold mkM
    split
    · exact mkM_lt g k (by omega)
    · exact clr_lt _ (mkM_lt g k (by omega)) k (by omega)
theorem mkM_t (g : Sg) : ∀ k, k ≤ 9 → ∀ l, l < 9 → ((mkM g k).testBit l = true ↔ sS g l = true ∧ (l < k → (sC g).2.2.1 l = 0))
  | 0, _, l, hl => by
    show (bo 9 (sS g)).testBit l = true ↔ _
    rw [bo_9 hl]
    exact ⟨fun h => ⟨h, fun z => by omega⟩, fun h => h.1⟩
  | k + 1, h, l, hl => by
    have ih := mkM_t g k (by omega) l hl
    unfold mkM
    split
    · rename_i z
      rw [ih]
      constructor
      · rintro ⟨q1, q2⟩
        refine ⟨q1, fun y => ?_⟩
        by_cases e : l = k
        · rw [e]; exact z
        · exact q2 (by omega)
      · rintro ⟨q1, q2⟩
        exact ⟨q1, fun y => q2 (by omega)⟩
    · rename_i z
      rw [clr_t _ (mkM_lt g k (by omega)) k (by omega) l hl]
      by_cases e : l = k
      · rw [if_pos e]
        constructor
        · intro y; cases y
        · rintro ⟨_, q2⟩
          exact absurd (by rw [← e]; exact q2 (by omega)) z
      · rw [if_neg e, ih]
        constructor
        · rintro ⟨q1, q2⟩
          exact ⟨q1, fun y => q2 (by omega)⟩
        · rintro ⟨q1, q2⟩
          exact ⟨q1, fun y => q2 (by omega)⟩
theorem mkM_9 (g : Sg) : mkM g 9 = bo 9 (sM g) := bits_eq (mkM_lt g 9 (by omega)) (bo_lt 9 (by omega)) (fun l hl => by
  rw [bo_9 hl]
  have h := mkM_t g 9 (by omega) l hl
  cases hm : sM g l with
  | true =>
    apply h.mpr
    exact ⟨sM_S hm, fun _ => (of_decide_eq_true hm).2.2.2⟩
  | false =>
    cases hx : (mkM g 9).testBit l with
    | false => rfl
    | true =>
      have := h.mp hx
      have q := of_decide_eq_true this.1
      have : sM g l = true := decide_eq_true ⟨hl, q.2.1, q.2.2, this.2 hl⟩
      rw [hm] at this
      cases this)
theorem m71k {kk : Int} (hB : sB g) (h : Rk iv g kk) (k0 : sSat g → ∀ iv' : mIv, frC iv iv' → (∀ j, iv' 81 j = iv 81 j) → Rk iv' g kk → Q (vI 0) iv' (RV sa sb)) (k1 : ¬ sSat g → ∀ iv' : mIv, frC iv iv' → (∀ j, iv' 81 j = iv 81 j) → Rk iv' (setQ g (lq g)) kk → Q (vI 1) iv' (RV sa sb)) : Ex 71 0 [vR 66, none, none] [] iv (RV sa sb) Q := by
  rw [b71_0, m69 h]
  show Ex 71 4 _ [.inl _] _ _ _
  rw [b71_4]
  have hb9 : (bo 9 (sM g)).testBit = sM g := bo_S (sM_hi g)
  have hs9 := bo_lt (S := sM g) 9 (by omega)
  -- the least quarrel
  have two : ¬ sSat g → ∀ (t k : Nat), k + t = 9 → ∀ ivc : mIv, (∀ p j, (p < 76 ∨ 80 < p) → ¬ (p = 66 ∧ (j = 14 ∨ j = 16 ∨ j = 19)) → ivc p j = iv p j) → Ex 71 56 [vR 66, vI (lqF (sC g) g.1 k (bo 9 (sM g)) : Nat), vI k] [] ivc (RV sa sb) Q := by
    intro hns t
    induction t with
    | zero =>
      intro k hk ivc fc
      have : k = 9 := by omega
      subst this
      rw [b71_56, if_neg (by omega), b71_100]
      refine k1 hns _ (fun p j hp => by rw [st2_ne (by omega)]; exact fc p j (by omega) (by omega)) (fun j => by rw [st2_ne (by omega)]; exact fc 81 j (by omega) (by omega)) ?_
      have hR : Rk ivc g kk := h.fr (fun p j q1 q2 q3 => fc p j (by omega) q3)
      obtain ⟨h1, h2, h3, h4, h5⟩ := hR
      refine ⟨by rw [st2_nk (by omega)]; exact h1, by rw [st2_nk (by omega)]; exact h2, st2_eq, fun e he => by rw [st2_ne (by omega), st2_ne (by omega)]; exact h4 e he, fun w hw => ?_⟩
      rw [st2_ne (by omega), st2_ne (by omega), st2_ne (by omega), st2_ne (by omega), st2_ne (by omega), st2_ne (by omega)]
      obtain ⟨a0, a1, a2, a3, a4, a5, a6⟩ := h5 w hw
      exact ⟨a0, a1, a2, a3, a4, a5, fun e he => by rw [st2_ne (by omega)]; exact a6 e he⟩
    | succ t ih =>
      intro k hk ivc fc
      have hlt := lqF_lt (c := sC g) (n := g.1) hs9 k (by omega)
      rw [b71_56, if_pos (by omega), b71_62]
      by_cases z : (lqF (sC g) g.1 k (bo 9 (sM g))).testBit k = true
      · rw [if_pos ((bt9 hlt (by omega)).mpr z), b71_71, clr_i _ hlt k (by omega)]
        have hcl := clr_lt _ hlt k (by omega)
        have hsub : ∀ w, w < 9 → (clr (lqF (sC g) g.1 k (bo 9 (sM g))) k).testBit w = true → 1 ≤ (sC g).2.2.2.1 w := fun w hw hb => by
          rw [clr_t _ hlt k (by omega) w hw] at hb
          split at hb
          · cases hb
          · have := lqF_sub hs9 k (by omega) w hw hb
            rw [bo_9 hw] at this
            exact hw_M hB w hw this
        have f0 : ∀ p j, ¬ (p = 66 ∧ j = 19) → st2 ivc 66 19 (clr (lqF (sC g) g.1 k (bo 9 (sM g))) k : Nat) p j = ivc p j := fun p j hp => by unfold st2; rw [if_neg hp]
        have hR : Rk (st2 ivc 66 19 (clr (lqF (sC g) g.1 k (bo 9 (sM g))) k : Nat)) g kk := h.fr (fun p j q1 q2 q3 => by rw [f0 p j (by omega)]; exact fc p j (by omega) q3)
        refine m68 hcl hB.1 hsub hR.W st2_eq (fun hno iv' f => ?_) (fun hyes iv' f _ _ _ _ => ?_)
        · show Ex 71 86 _ [.inl 0] _ _ _
          have e19 : iv' 66 19 = (clr (lqF (sC g) g.1 k (bo 9 (sM g))) k : Nat) := by rw [f 66 19 (by omega) (by omega), st2_eq]
          rw [b71_86, if_pos rfl, b71_89, e19, b71_94, w32_of (by omega) (by omega), ← lqF_y ⟨z, hno⟩]
          exact ih (k + 1) (by omega) iv' (fun p j q1 q2 => by rw [f p j q1 (by omega), f0 p j (by omega)]; exact fc p j q1 q2)
        · show Ex 71 86 _ [.inl 1] _ _ _
          rw [b71_86, if_neg (by omega), b71_94, w32_of (by omega) (by omega), ← lqF_n (k := k) (fun y => y.2 hyes)]
          exact ih (k + 1) (by omega) iv' (fun p j q1 q2 => by rw [f p j q1 (by omega), f0 p j (by omega)]; exact fc p j q1 q2)
      · rw [if_neg (fun y => z ((bt9 hlt (by omega)).mp y)), b71_94, w32_of (by omega) (by omega), ← lqF_n (k := k) (fun y => z y.1)]
        exact ih (k + 1) (by omega) ivc fc
  have one : ∀ (t k : Nat), k + t = 9 → Ex 71 7 [vR 66, vI (mkM g k : Nat), vI k] [] iv (RV sa sb) Q := by
    intro t
    induction t with
    | zero =>
      intro k hk
      have : k = 9 := by omega
      subst this
      rw [b71_7, if_neg (by omega), b71_40, mkM_9]
      have f0 : ∀ p j, ¬ (p = 66 ∧ j = 19) → st2 iv 66 19 (bo 9 (sM g) : Nat) p j = iv p j := fun p j hp => by unfold st2; rw [if_neg hp]
      have hR : Rk (st2 iv 66 19 (bo 9 (sM g) : Nat)) g kk := h.fr (fun p j _ _ hn => f0 p j (by omega))
      refine m68 hs9 hB.1 (fun w hw z => hw_M hB w hw (by rw [hb9] at z; exact z)) hR.W st2_eq (fun hno iv' f => ?_) (fun hyes iv' f _ _ _ _ => ?_)
      · rw [hb9, sat_M hB] at hno
        show Ex 71 49 _ [.inl 0] _ _ _
        rw [b71_49, if_pos rfl, b71_54]
        exact two hno 9 0 rfl iv' (fun p j q1 q2 => by rw [f p j q1 (by omega)]; exact f0 p j (by omega))
      · rw [hb9, sat_M hB] at hyes
        show Ex 71 49 _ [.inl 1] _ _ _
        rw [b71_49, if_neg (by omega), b71_52]
        exact k0 hyes iv' (fun p j hp => by rw [f.C p j hp]; exact f0 p j (by omega)) (fun j => by rw [f 81 j (by omega) (by omega)]; exact f0 81 j (by omega)) (hR.fr (fun p j q1 q2 q3 => f p j (by omega) (by omega)))
    | succ t ih =>
      intro k hk
      have hlt := mkM_lt g k (by omega)
      obtain ⟨a0, a1, a2, a3, a4, a5, a6⟩ := h.2.2.2.2 k (by omega)
      have hih := ih (k + 1) (by omega)
      rw [b71_7, if_pos (by omega), b71_13 (by omega) (by omega), Int.toNat_natCast, a3]
      by_cases z : (sC g).2.2.1 k = 0
      · have e : mkM g (k + 1) = mkM g k := by
          show (if (sC g).2.2.1 k = 0 then _ else _) = _
          rw [if_pos z]
        rw [e] at hih
        rw [if_pos z, b71_23, b71_32, and1_i _ hlt, w32_of (by omega) (by omega)]
        exact hih
      · have e : mkM g (k + 1) = clr (mkM g k) k := by
          show (if (sC g).2.2.1 k = 0 then _ else _) = _
          rw [if_neg z]
        rw [e] at hih
        rw [if_neg z, b71_27, b71_32, clr_i _ hlt k (by omega), w32_of (by omega) (by omega)]
        exact hih
  exact one 9 0 rfl
theorem m71 (hB : sB g) (h : Rm iv g) (k0 : sSat g → ∀ iv' : mIv, frC iv iv' → (∀ j, iv' 81 j = iv 81 j) → Rm iv' g → Q (vI 0) iv' (RV sa sb)) (k1 : ¬ sSat g → ∀ iv' : mIv, frC iv iv' → (∀ j, iv' 81 j = iv 81 j) → Rm iv' (setQ g (lq g)) → Q (vI 1) iv' (RV sa sb)) : Ex 71 0 [vR 66, none, none] [] iv (RV sa sb) Q := m71k hB h k0 k1
theorem m72 {x : Int} (hB : sB g) (h : Rm iv g) : Ex 72 0 [vR 66, vI x] [] iv (RV sa sb) Q = Q (vI (if 0 ≤ x ∧ x < (g.1 : Int) then 0 else 1)) iv (RV sa sb) := by
  have hn := hB.1.1
  rw [b72_0, h.1, w32_of (by omega) (by omega), m58]
  by_cases c : 0 ≤ x ∧ x < (g.1 : Int)
  · rw [if_pos (by omega), if_pos c]
    show Ex 72 13 _ [.inl 1] _ _ _ = _
    rw [b72_13, if_neg (by omega), b72_20, b72_21 (Or.inl rfl)]
  · rw [if_neg (by omega), if_neg c]
    show Ex 72 13 _ [.inl 0] _ _ _ = _
    rw [b72_13, if_pos rfl, b72_16, b72_21 (Or.inr rfl)]
theorem m73 {x : Int} (h : Rm iv g) (k1 : isW g x → Q (vI 0) iv (RV sa sb)) (k0 : ¬ isW g x → Q (vI 1) iv (RV sa sb)) : Ex 73 0 [vR 66, vI x] [] iv (RV sa sb) Q := by
  rw [b73_0, m58]
  have no : ¬ isW g x → Ex 73 21 [vR 66, vI x] [] iv (RV sa sb) Q := fun z => by
    rw [b73_21, b73_26 (Or.inr rfl)]; exact k0 z
  by_cases c : 0 ≤ x ∧ x ≤ 8
  · rw [if_pos c]
    show Ex 73 9 _ [.inl 1] _ _ _
    rw [b73_9, if_neg (by omega), b73_12 c.1 (by omega), (h.2.2.2.2 x.toNat (by omega)).1]
    by_cases d : g.2.2.1 x.toNat = 0
    · rw [if_pos d]; exact no (fun z => z.2.2 d)
    · rw [if_neg d, b73_25, b73_26 (Or.inl rfl)]; exact k1 ⟨c.1, by omega, d⟩
  · rw [if_neg c]
    show Ex 73 9 _ [.inl 0] _ _ _
    rw [b73_9, if_pos rfl]
    exact no (fun z => by have := z.1; have := z.2.1; omega)
theorem m77 {x y : Int} : Ex 77 0 [vI x, vI y] [] iv (RV sa sb) Q = Q (vI (if 0 ≤ x ∧ x ≤ 3 ∧ 1 ≤ y ∧ y ≤ 9 then 1 else 0)) iv (RV sa sb) := by
  rw [b77_0, m58]
  by_cases c : 0 ≤ x ∧ x ≤ 3
  · rw [if_pos c]
    show Ex 77 9 _ [.inl 1] _ _ _ = _
    rw [b77_9, if_neg (by omega), b77_12, m58]
    by_cases d : 1 ≤ y ∧ y ≤ 9
    · rw [if_pos d, if_pos ⟨c.1, c.2, d⟩]
      show Ex 77 21 _ [.inl 1] _ _ _ = _
      rw [b77_21, if_neg (by omega), b77_24, b77_29 (Or.inr rfl)]
    · rw [if_neg d, if_neg (fun z => d z.2.2)]
      show Ex 77 21 _ [.inl 0] _ _ _ = _
      rw [b77_21, if_pos rfl, b77_28, b77_29 (Or.inl rfl)]
  · rw [if_neg c, if_neg (fun z => c ⟨z.1, z.2.1⟩)]
    show Ex 77 9 _ [.inl 0] _ _ _ = _
    rw [b77_9, if_pos rfl, b77_28, b77_29 (Or.inl rfl)]
end MCH
