/-! pass, findLeaving -/
theorem w_lev {x q : Int} (h : 0 ≤ x ∧ x < 9) (hq : 0 ≤ q ∧ q < 5) : w32 (w32 (x * 5) + q) = x * 5 + q ∧ (x * 5 + q).toNat = x.toNat * 5 + q.toNat := by
  refine ⟨?_, by omega⟩
  rw [w32_of (x := x * 5) (by omega) (by omega), w32_of (by omega) (by omega)]
def absI (x : Int) : Int := if x < 0 then -x else x
theorem w_ben {w a c : Int} (hw : w = 1 ∨ w = -1) (ha : 0 ≤ a ∧ a ≤ 2000) (hc : -1000000 ≤ c ∧ c ≤ 1000000) : w64 (w * w64 (a * absI c)) = w * (a * absI c) ∧ -2000000000 ≤ w * (a * absI c) ∧ w * (a * absI c) ≤ 2000000000 := by
  have hc' : -1000000 ≤ absI c ∧ absI c ≤ 1000000 := by unfold absI; split <;> omega
  have h1 := mul_bd (B := 2000) (C := 1000000) (show -2000 ≤ a ∧ a ≤ 2000 by omega) hc'
  rw [w64_of (x := a * absI c) (by omega) (by omega)]
  rcases hw with rfl | rfl
  · exact ⟨w64_of (by omega) (by omega), by omega, by omega⟩
  · exact ⟨w64_of (by omega) (by omega), by omega, by omega⟩
theorem w_n1 {s : Int} (hs : s = 1 ∨ s = -1) : w32 (-s) = -s := by rcases hs with rfl | rfl <;> decide +kernel
theorem w_a2 {x y : Int} (hx : 0 ≤ x ∧ x ≤ 1000) (hy : 0 ≤ y ∧ y ≤ 1000) : w32 (x + y) = x + y := w32_of (by omega) (by omega)
theorem w_gb {g x B : Int} (hg : -B ≤ g ∧ g ≤ B) (hB : B ≤ 100000000000) (hx : -2000000000 ≤ x ∧ x ≤ 2000000000) : w64 (g + x) = g + x ∧ -(B + 2000000000) ≤ g + x ∧ g + x ≤ B + 2000000000 := ⟨w64_of (by omega) (by omega), by omega, by omega⟩
/-- the growth a passed row brings -/
def benF (iv : mIv) (b q r : Nat) (w : Int) : Int := w * ((abF iv b (lnR iv b r) + beF iv b (lnR iv b r)) * absI (ceF iv b r q))
theorem m14 {sa sb : Nat} {iv : mIv} {Q : Option mV → mIv → mRv → Prop} {b q r : Nat} {w B : Int} (hb : b = 24 ∨ b = 45) (hr : r < 9) (hq : iv b 14 = q) (hq5 : q < 5) (hw : iv b 15 = w) (hw1 : w = 1 ∨ w = -1) (hl : 0 ≤ iv (b + 2) r ∧ iv (b + 2) r < 14) (hlev : 0 ≤ iv (b + 17) (lnR iv b r) ∧ iv (b + 17) (lnR iv b r) < 9) (hab : 0 ≤ abF iv b (lnR iv b r) ∧ abF iv b (lnR iv b r) ≤ 1000 ∧ 0 ≤ beF iv b (lnR iv b r) ∧ beF iv b (lnR iv b r) ≤ 1000) (hce : -1000000 ≤ ceF iv b r q ∧ ceF iv b r q ≤ 1000000) (hsd : sdF iv b r = 1 ∨ sdF iv b r = -1) (hgr : grW iv b B) (hB : B ≤ 100000000000) : Ex 14 0 [vR b, vI r, none, none, none] [] iv (RV sa sb) Q = Q none (st2 (st2 iv (b + 20) (lvF iv b (lnR iv b r) * 5 + q) (iv (b + 20) (lvF iv b (lnR iv b r) * 5 + q) + benF iv b q r w)) (b + 3) r (-(sdF iv b r))) (RV sa sb) := by
  have er : ((r : Int)).toNat = r := Int.toNat_natCast r
  have eq : ((q : Int)).toNat = q := Int.toNat_natCast q
  obtain ⟨l1, l2⟩ := w_lev hlev (show 0 ≤ (q : Int) ∧ (q : Int) < 5 by omega)
  obtain ⟨n1, n2⟩ := w_ben (a := abF iv b (lnR iv b r) + beF iv b (lnR iv b r)) (c := ceF iv b r q) hw1 (by omega) hce
  obtain ⟨g1, g2⟩ := w_gb (hgr (lvF iv b (lnR iv b r) * 5 + q) (by unfold lvF; omega)) hB n2
  have a2 : w32 (iv (b + 18) (iv (b + 2) r).toNat + iv (b + 19) (iv (b + 2) r).toNat) = abF iv b (lnR iv b r) + beF iv b (lnR iv b r) := w_a2 ⟨hab.1, hab.2.1⟩ hab.2.2
  rw [b14_0 hb (by omega) (by omega) (by rw [er]; exact hl.1) (by rw [er]; exact hl.2) (by rw [hq]; omega) (by rw [hq]; omega), er, hq, eq, m99 (by have : -1000000 ≤ iv (b + 7 + r) q := hce.1; omega) (by have : iv (b + 7 + r) q ≤ 1000000 := hce.2; omega), a2]
  show Ex 14 35 [vR b, vI r, vI (iv (b + 2) r), none, none] [.inr (.inl (absI (ceF iv b r q))), .inr (.inl (abF iv b (lnR iv b r) + beF iv b (lnR iv b r)))] iv (RV sa sb) Q = _
  have l1' : w32 (w32 (iv (b + 17) (iv (b + 2) r).toNat * 5) + iv b 14) = iv (b + 17) (lnR iv b r) * 5 + (q : Int) := by rw [hq]; exact l1
  rw [b14_35 hb hl.1 hl.2 (by rw [l1']; omega) (by rw [l1']; omega) (by omega) (by omega), l1', l2, eq, er, hw, n1]
  have g1' : w64 (iv (b + 20) ((iv (b + 17) (lnR iv b r)).toNat * 5 + q) + w * ((abF iv b (lnR iv b r) + beF iv b (lnR iv b r)) * absI (ceF iv b r q))) = iv (b + 20) (lvF iv b (lnR iv b r) * 5 + q) + benF iv b q r w := g1
  rw [g1', st2_ne (by omega)]
  have := w_n1 hsd
  rw [show w32 (-iv (b + 3) r) = -(sdF iv b r) from this]
  rfl
def flp (sd : Nat → Int) (r : Nat) : Nat → Int := fun i => if i = r then -(sd i) else sd i
theorem flp_r (sd : Nat → Int) (r : Nat) : flp sd r r = -(sd r) := by unfold flp; rw [if_pos rfl]
theorem flp_n (sd : Nat → Int) {r i : Nat} (h : i ≠ r) : flp sd r i = sd i := by unfold flp; rw [if_neg h]
theorem slp_flip {a be s w c : Int} (hs : s = 1 ∨ s = -1) (hw : w = 1 ∨ w = -1) (hsp : 0 < -s * w * c) : (if 0 < -s then a else -be) * c = (if 0 < s then a else -be) * c + w * ((a + be) * absI c) := by
  rcases hs with rfl | rfl <;> rcases hw with rfl | rfl
  · have : c < 0 := by omega
    simp [absI, this]; grind
  · have : ¬ c < 0 := by omega
    simp [absI, this]; grind
  · have : ¬ c < 0 := by omega
    simp [absI, this]; grind
  · have : c < 0 := by omega
    simp [absI, this]; grind
theorem grw_flip {iv : mIv} {b m q r : Nat} {w : Int} {sd : Nat → Int} (hr : r < m) (hs : sd r = 1 ∨ sd r = -1) (hw : w = 1 ∨ w = -1) (hsp : 0 < spS iv b sd q w r) (L : Nat) : grw (abF iv b) (beF iv b) (lvF iv b) (lnR iv b) m (ceF iv b) (flp sd r) L q = grw (abF iv b) (beF iv b) (lvF iv b) (lnR iv b) m (ceF iv b) sd L q + ind (lvF iv b (lnR iv b r) = L) (benF iv b q r w) := by
  unfold grw
  rw [sm_out r hr, sm_out (f := fun i => ind (lvF iv b (lnR iv b i) = L) (slp (abF iv b) (beF iv b) (lnR iv b) sd i * ceF iv b i q)) r hr]
  have e1 : sm m (fun i => if i = r then 0 else ind (lvF iv b (lnR iv b i) = L) (slp (abF iv b) (beF iv b) (lnR iv b) (flp sd r) i * ceF iv b i q)) = sm m (fun i => if i = r then 0 else ind (lvF iv b (lnR iv b i) = L) (slp (abF iv b) (beF iv b) (lnR iv b) sd i * ceF iv b i q)) := sm_congr (fun i _ => by
    by_cases e : i = r
    · rw [if_pos e, if_pos e]
    · rw [if_neg e, if_neg e]
      unfold slp
      rw [flp_n sd e])
  rw [e1]
  have e2 : slp (abF iv b) (beF iv b) (lnR iv b) (flp sd r) r * ceF iv b r q = slp (abF iv b) (beF iv b) (lnR iv b) sd r * ceF iv b r q + benF iv b q r w := by
    unfold slp benF
    rw [flp_r]
    exact slp_flip hs hw hsp
  rw [e2, ind_add]
  omega
def fitS (iv : mIv) (b m : Nat) (sd : Nat → Int) (q : Nat) (w : Int) (r : Nat) : Prop := ∀ i, i < m → spS iv b sd q w i * szS iv b sd r ≤ szS iv b sd i * spS iv b sd q w r
theorem fstP_congr {k : Nat} {sz sp sz' sp' : Nat → Int} {ln ln' : Nat → Nat} {r : Nat} (h1 : ∀ i, i < k → sz i = sz' i) (h2 : ∀ i, i < k → sp i = sp' i) (h3 : ∀ i, i < k → ln i = ln' i) (h : fstP k sz sp ln r) : fstP k sz' sp' ln' r := by
  obtain ⟨a, b, c⟩ := h
  refine ⟨a, by rw [← h2 r a]; exact b, fun i hi => ?_⟩
  rw [← h2 i hi, ← h1 i hi, ← h2 r a, ← h1 r a, ← h3 r a, ← h3 i hi]
  exact c i hi
theorem fit_0 {iv : mIv} {b m q r : Nat} {w : Int} {sd : Nat → Int} {ln : Nat → Nat} (hz : ∀ i, i < m → 0 ≤ szS iv b sd i) (h : fstP m (szS iv b sd) (spS iv b sd q w) ln r) : fitS iv b m sd q w r := fun i hi => by
  by_cases c : 0 < spS iv b sd q w i
  · have := (h.2.2 i hi c).1
    rw [Int.mul_comm]; exact this
  · have h1 := Int.mul_nonneg (hz i hi) (Int.le_of_lt h.2.1)
    have h2 := Int.mul_nonneg (show 0 ≤ -(spS iv b sd q w i) by omega) (hz r h.1)
    have : -(spS iv b sd q w i) * szS iv b sd r = -(spS iv b sd q w i * szS iv b sd r) := by grind
    omega
theorem fit_n {iv : mIv} {b m q r r' : Nat} {w : Int} {sd : Nat → Int} {ln : Nat → Nat} (hr : r < m) (hsp : 0 < spS iv b sd q w r) (hF : fitS iv b m sd q w r) (h : fstP m (szS iv b (flp sd r)) (spS iv b (flp sd r) q w) ln r') : fitS iv b m (flp sd r) q w r' ∧ r' ≠ r := by
  have hpr : spS iv b (flp sd r) q w r = -(spS iv b sd q w r) := by unfold spS; rw [flp_r]; grind
  have hzr : szS iv b (flp sd r) r = -(szS iv b sd r) := by unfold szS; rw [flp_r]; grind
  have hp : ∀ i, i ≠ r → spS iv b (flp sd r) q w i = spS iv b sd q w i := fun i e => by unfold spS; rw [flp_n sd e]
  have hz : ∀ i, i ≠ r → szS iv b (flp sd r) i = szS iv b sd i := fun i e => by unfold szS; rw [flp_n sd e]
  have hne : r' ≠ r := fun z => by
    have := h.2.1
    rw [z, hpr] at this
    omega
  have hr' := hF r' h.1
  have hsp' := h.2.1
  rw [hp r' hne] at hsp'
  refine ⟨fun i hi => ?_, hne⟩
  rw [hp r' hne, hz r' hne]
  by_cases ei : i = r
  · rw [ei, hpr, hzr]
    have x1 : -(spS iv b sd q w r) * szS iv b sd r' = -(szS iv b sd r' * spS iv b sd q w r) := by grind
    have x2 : -(szS iv b sd r) * spS iv b sd q w r' = -(spS iv b sd q w r' * szS iv b sd r) := by grind
    omega
  · by_cases c : 0 < spS iv b sd q w i
    · have := (h.2.2 i hi (by rw [hp i ei]; exact c)).1
      rw [hp i ei, hz i ei, hp r' hne, hz r' hne] at this
      rw [hp i ei, hz i ei, Int.mul_comm]
      exact this
    · rw [hp i ei, hz i ei]
      have f1 := hF i hi
      have y1 : spS iv b sd q w i * szS iv b sd r * spS iv b sd q w r' ≤ szS iv b sd i * spS iv b sd q w r * spS iv b sd q w r' := Int.mul_le_mul_of_nonneg_right f1 (by omega)
      have y2 : spS iv b sd q w r' * szS iv b sd r * (-(spS iv b sd q w i)) ≤ szS iv b sd r' * spS iv b sd q w r * (-(spS iv b sd q w i)) := Int.mul_le_mul_of_nonneg_right hr' (by omega)
      have y3 : spS iv b sd q w i * szS iv b sd r' * spS iv b sd q w r ≤ szS iv b sd i * spS iv b sd q w r' * spS iv b sd q w r := by
        have z1 : spS iv b sd q w i * szS iv b sd r * spS iv b sd q w r' = -(spS iv b sd q w r' * szS iv b sd r * (-(spS iv b sd q w i))) := by grind
        have z2 : spS iv b sd q w i * szS iv b sd r' * spS iv b sd q w r = -(szS iv b sd r' * spS iv b sd q w r * (-(spS iv b sd q w i))) := by grind
        have z3 : szS iv b sd i * spS iv b sd q w r * spS iv b sd q w r' = szS iv b sd i * spS iv b sd q w r' * spS iv b sd q w r := by grind
        omega
      exact Int.le_of_mul_le_mul_right y3 hsp
/-- what findLeaving has found -/
def lvP (iv : mIv) (b m levels q : Nat) (w : Int) (r : Nat) (iv' : mIv) : Prop := r < m ∧ 0 < spS iv b (sdF iv b) q w r ∧ ((rsF iv b r = 0 ∧ fstP m (szS iv b (sdF iv b)) (spS iv b (sdF iv b) q w) (lnR iv b) r ∧ ∀ i, i < m → sdF iv' b i = sdF iv b i) ∨ (rsF iv b r ≠ 0 ∧ ∃ sd : Nat → Int, (∀ i, i < m → sd i = 1 ∨ sd i = -1) ∧ (∀ i, i < m → i ≠ r → sdF iv' b i = sd i) ∧ sd r = sdF iv b r ∧ fitS iv b m sd q w r ∧ lng levels (chD iv b m sd q w)))
def onlyH (b : Nat) (iv iv' : mIv) : Prop := ∀ p j, p ≠ b + 20 → p ≠ b + 3 → iv' p j = iv p j
theorem no_row {iv : mIv} {b m levels q : Nat} {w : Int} {sd : Nat → Int} (hs : ∀ i, i < m → sd i = 1 ∨ sd i = -1) (hd : 0 ≤ iv b 0) (hab : ∀ l, 0 ≤ abF iv b l ∧ 0 ≤ beF iv b l) (hw : w = 1 ∨ w = -1) (h : ∀ i, i < m → ¬ 0 < spS iv b sd q w i) : ¬ lng levels (chD iv b m sd q w) := by
  intro hl
  refine lxn_not _ _ (lxn_nn (fun L _ => ?_)) hl
  unfold chD chg grw
  have h1 : 0 ≤ sm m (fun i => w * ind (lvF iv b (lnR iv b i) = L) (slp (abF iv b) (beF iv b) (lnR iv b) sd i * ceF iv b i q)) := sm_nn (fun i hi => by
    rw [← ind_mul]
    unfold ind
    split
    · have h2 := h i hi
      unfold spS at h2
      have ha := hab (lnR iv b i)
      unfold slp
      rcases hs i hi with e | e
      · rw [e] at h2 ⊢
        rw [if_pos (by omega)]
        have := Int.mul_nonneg ha.1 (show 0 ≤ w * ceF iv b i q by have : -1 * w * ceF iv b i q = -(w * ceF iv b i q) := by grind
                                                                  omega)
        have e3 : w * (abF iv b (lnR iv b i) * ceF iv b i q) = abF iv b (lnR iv b i) * (w * ceF iv b i q) := by grind
        omega
      · rw [e] at h2 ⊢
        rw [if_neg (by omega)]
        have := Int.mul_nonneg ha.2 (show 0 ≤ -(w * ceF iv b i q) by have : - -1 * w * ceF iv b i q = w * ceF iv b i q := by grind
                                                                     omega)
        have e3 : w * (-(beF iv b (lnR iv b i)) * ceF iv b i q) = beF iv b (lnR iv b i) * -(w * ceF iv b i q) := by grind
        omega
    · exact Int.le_refl _)
  rw [sm_mul] at h1
  have h2 : 0 ≤ ind (lvF iv b (lnC iv b q) = L) (iv b 0 * if 0 < w then abF iv b (lnC iv b q) else beF iv b (lnC iv b q)) := by
    have ha := hab (lnC iv b q)
    unfold ind
    split
    · split
      · exact Int.mul_nonneg hd ha.1
      · exact Int.mul_nonneg hd ha.2
    · exact Int.le_refl _
  exact Int.add_nonneg h1 h2
