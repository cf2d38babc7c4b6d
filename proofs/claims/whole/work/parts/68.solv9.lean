/-! lessenCost -/
theorem okS_GE {A : Nat → Nat → Int} {K : Nat → Int} {P : Nat → Bool} {iv iv' : mIv} {b n m : Nat} (o : onlyGE b iv iv') (h : okS A K P iv b n m) : okS A K P iv' b n m := by
  obtain ⟨h1, h2, h3, h4, h5, h6, h7, h8, h9⟩ := h
  refine ⟨by rw [o b 3 (by omega) (by omega)]; exact h1, by rw [o b 2 (by omega) (by omega)]; exact h2, h3, h4, fun i hi => by rw [o (b + 2) i (by omega) (by omega)]; exact h5 i hi, fun j hj => by rw [o (b + 4) j (by omega) (by omega)]; exact h6 j hj, fun l hl => by rw [o (b + 17) l (by omega) (by omega)]; exact h7 l hl, fun l => ?_, DI_congr (fun j _ => ?_) (fun i _ => ?_) ?_ (fun i hi j _ => ?_) (fun i _ => ?_) (fun i _ => ?_) h9⟩
  · unfold abF beF
    rw [o (b + 18) l (by omega) (by omega), o (b + 19) l (by omega) (by omega)]; exact h8 l
  · show lnC iv' b j = lnC iv b j
    unfold lnC; rw [o (b + 4) j (by omega) (by omega)]
  · show lnR iv' b i = lnR iv b i
    unfold lnR; rw [o (b + 2) i (by omega) (by omega)]
  · exact o b 0 (by omega) (by omega)
  · exact o (b + 7 + i) j (by omega) (by omega)
  · exact o (b + 5) i (by omega) (by omega)
  · exact o (b + 3) i (by omega) (by omega)
theorem svB_H {iv iv' : mIv} {b n m : Nat} (o : onlyH b iv iv') (h : svB iv b n m) : svB iv' b n m := by
  obtain ⟨h1, h2, h3, h4, h5, h6, h7, h8, h9, h10, h11⟩ := h
  refine ⟨by rw [o b 3 (by omega) (by omega)]; exact h1, by rw [o b 2 (by omega) (by omega)]; exact h2, h3, h4, fun i hi => by rw [o (b + 2) i (by omega) (by omega)]; exact h5 i hi, fun j hj => by rw [o (b + 4) j (by omega) (by omega)]; exact h6 j hj, fun l hl => by rw [o (b + 17) l (by omega) (by omega)]; exact h7 l hl, fun l => ?_, by rw [o b 0 (by omega) (by omega)]; exact h9, by rw [o b 0 (by omega) (by omega)]; exact h10, fun i hi j hj => ?_⟩
  · unfold abF beF
    rw [o (b + 18) l (by omega) (by omega), o (b + 19) l (by omega) (by omega)]; exact h8 l
  · have : ceF iv' b i j = ceF iv b i j := o (b + 7 + i) j (by omega) (by omega)
    rw [this]; exact h11 i hi j hj
theorem pm_mul {a b : Int} (ha : a = 1 ∨ a = -1) (hb : b = 1 ∨ b = -1) : -a * b = 1 ∨ -a * b = -1 := by
  rcases ha with rfl | rfl <;> rcases hb with rfl | rfl <;> decide
theorem m7 {A : Nat → Nat → Int} {K : Nat → Int} {P : Nat → Bool} {sa sb : Nat} {iv : mIv} {Q : Option mV → mIv → mRv → Prop} {b n m levels : Nat} (hb : b = 24 ∨ b = 45) (hlv : levels ≤ 9) (hL : lnB A K) (hF : ∀ l, l < 14 → P l = true → flat A n l) (h : okS A K P iv b n m)
    (hk : ∀ iv' : mIv, onlyW b iv iv' → okS A K P iv' b n m → (∀ j, j < n → ∀ v : Int, (v = 1 ∨ v = -1) → ¬ lng levels (chD iv' b m (sdF iv' b) j v)) → Q none iv' (RV sa sb)) : Ex 7 0 [vR b, vI levels, none, none] [] iv (RV sa sb) Q := by
  have hn : n ≤ 5 := h.2.2.1
  have hab : ∀ l, 0 ≤ abF iv b l := fun l => (h.2.2.2.2.2.2.2.1 l).1
  have hbe : ∀ l, 0 ≤ beF iv b l := fun l => (h.2.2.2.2.2.2.2.1 l).2.2.1
  have loop : ∀ R t : Nat, t + R = 600000 → ∀ (ivc : mIv) (f : Nat → Dc) (u3 : Option mV), onlyW b iv ivc → okS A K P ivc b n m → f t = dcM ivc b → (∀ s, s ≤ t → DI A K n m P (f s)) → (∀ s, s < t → (∃ q w r, dg (abF iv b) (beF iv b) (lvF iv b) n m levels (f s) (f (s + 1)) q w r) ∨ bet A K (abF iv b) (beF iv b) (lvF iv b) P n levels (f s) (f (s + 1))) → Ex 7 2 [vR b, vI levels, vI t, u3] [] ivc (RV sa sb) Q := by
    intro R
    induction R with
    | zero =>
      intro t ht ivc f u3 _ _ _ fD fS
      have := walk_end hn hab hbe hF fD fS
      omega
    | succ R ih =>
      intro t ht ivc f u3 oc okc ft fD fS
      obtain ⟨hsv, hrs⟩ := okc.sv hL
      have eab : abF ivc b = abF iv b := by funext l; exact oc (b + 18) l (by omega) (by omega) (by omega) (by omega) (by omega) (fun i _ => by omega) (by omega)
      have ebe : beF ivc b = beF iv b := by funext l; exact oc (b + 19) l (by omega) (by omega) (by omega) (by omega) (by omega) (fun i _ => by omega) (by omega)
      have elv : lvF ivc b = lvF iv b := by funext l; unfold lvF; rw [oc (b + 17) l (by omega) (by omega) (by omega) (by omega) (by omega) (fun i _ => by omega) (by omega)]
      have okc0 := okc
      obtain ⟨c1, c2, c3, c4, c5, c6, c7, c8, c9⟩ := okc
      obtain ⟨hT, hp, hs, hg⟩ := c9
      rw [b7_2 hb, if_pos (by omega)]
      refine m8 hb hlv hsv ?_ ?_
      · intro iv1 q w o1 gw gS hq hw e14 e15 hl hbl
        rw [b7_18 hb, if_neg (by omega), b7_22 hb]
        have ok1 := okS_GE o1 okc0
        obtain ⟨hsv1, hrs1⟩ := ok1.sv hL
        have x18 : abF iv1 b = abF ivc b := by funext l; exact o1 (b + 18) l (by omega) (by omega)
        have x19 : beF iv1 b = beF ivc b := by funext l; exact o1 (b + 19) l (by omega) (by omega)
        have x17 : lvF iv1 b = lvF ivc b := by funext l; unfold lvF; rw [o1 (b + 17) l (by omega) (by omega)]
        have x4 : lnC iv1 b = lnC ivc b := by funext l; unfold lnC; rw [o1 (b + 4) l (by omega) (by omega)]
        have x2 : lnR iv1 b = lnR ivc b := by funext l; unfold lnR; rw [o1 (b + 2) l (by omega) (by omega)]
        have x3 : sdF iv1 b = sdF ivc b := by funext l; exact o1 (b + 3) l (by omega) (by omega)
        have x5 : rsF iv1 b = rsF ivc b := by funext l; exact o1 (b + 5) l (by omega) (by omega)
        have x0 : iv1 b 0 = ivc b 0 := o1 b 0 (by omega) (by omega)
        have xc : ∀ i, i < m → ∀ j, ceF iv1 b i j = ceF ivc b i j := fun i hi j => o1 (b + 7 + i) j (by omega) (by omega)
        have xch : ∀ (sd : Nat → Int), chD iv1 b m sd q w = chD ivc b m sd q w := fun sd => chD_congr x18 x19 x17 x4 x2 x0 (fun i hi => xc i hi q) (fun _ _ => rfl)
        have xsz : ∀ (sd : Nat → Int) i, szS iv1 b sd i = szS ivc b sd i := fun sd i => by unfold szS; rw [x5]
        have xsp : ∀ (sd : Nat → Int) i, i < m → spS iv1 b sd q w i = spS ivc b sd q w i := fun sd i hi => by unfold spS; rw [xc i hi]
        refine m12 hb hlv hsv1 hrs1 (fun i hi => by rw [x3]; exact hs i hi) (fun i hi => by rw [x3, xsz]; exact hg i hi) hq e14 e15 hw (fun L hL => by
          rw [gS q hq L hL, x18, x19, x17, x2, x3]
          exact (grw_congr (fun i hi => xc i hi q) (fun _ _ => rfl)).symm) gw (by rw [x3, xch]; exact hl) ?_
        intro iv2 r oH hlP
        obtain ⟨hr, hsp1, hcase⟩ := hlP
        rw [x3, xsp _ r hr] at hsp1
        show Ex 7 27 _ [.inl (r : Int)] _ _ _
        rw [b7_27 hb, if_neg (by omega), b7_34 hb]
        have y2 : lnR iv2 b = lnR ivc b := by rw [← x2]; funext l; unfold lnR; rw [oH (b + 2) l (by omega) (by omega)]
        have y4 : lnC iv2 b = lnC ivc b := by rw [← x4]; funext l; unfold lnC; rw [oH (b + 4) l (by omega) (by omega)]
        have y5 : rsF iv2 b = rsF ivc b := by rw [← x5]; funext l; exact oH (b + 5) l (by omega) (by omega)
        have y0 : iv2 b 0 = ivc b 0 := by rw [← x0]; exact oH b 0 (by omega) (by omega)
        have yc : ∀ i, i < m → ∀ j, ceF iv2 b i j = ceF ivc b i j := fun i hi j => by rw [← xc i hi]; exact oH (b + 7 + i) j (by omega) (by omega)
        have hsr := hs r hr
        have hsg : -w * sdF ivc b r = 1 ∨ -w * sdF ivc b r = -1 := pm_mul hw hsr
        have hpos : 0 < -w * sdF ivc b r * ceF ivc b r q := by
          have : -w * sdF ivc b r * ceF ivc b r q = -(sdF ivc b r) * w * ceF ivc b r q := by grind
          rw [this]; exact hsp1
        have hsp : sdF ivc b r * (w * ceF ivc b r q) < 0 := by
          have : sdF ivc b r * (w * ceF ivc b r q) = -(-(sdF ivc b r) * w * ceF ivc b r q) := by grind
          have h2 : 0 < -(sdF ivc b r) * w * ceF ivc b r q := hsp1
          omega
        have hxc : ∀ i j, ∃ e : Int, i < m → j < n → ivc b 0 * e = ceF ivc b i j * (-w * sdF ivc b r * ceF ivc b r q) - -w * sdF ivc b r * ceF ivc b i q * ceF ivc b r j := fun i j => by
          by_cases c : i < m ∧ j < n
          · obtain ⟨e, he⟩ := hT.exc hn hq hr (-w * sdF ivc b r) c.1 c.2
            exact ⟨e, fun _ _ => he⟩
          · exact ⟨0, fun z1 z2 => absurd ⟨z1, z2⟩ c⟩
        have hxr : ∀ i, ∃ e : Int, i < m → ivc b 0 * e = rsF ivc b i * (-w * sdF ivc b r * ceF ivc b r q) - -w * sdF ivc b r * ceF ivc b i q * rsF ivc b r := fun i => by
          by_cases c : i < m
          · obtain ⟨e, he⟩ := hT.exr hn hq hr (-w * sdF ivc b r) c
            exact ⟨e, fun _ => he⟩
          · exact ⟨0, fun z1 => absurd z1 c⟩
        refine m15 (sg := -w * sdF ivc b r) (q := q) (w := w) hb (svB_H oH hsv1) (fun i hi => by rw [y5]; exact hrs i hi) hr (by rw [oH b 14 (by omega) (by omega)]; exact e14) (by rw [oH b 15 (by omega) (by omega)]; exact e15) hq hsg (by rw [yc r hr]; exact hpos) (fun i j => (hxc i j).choose) (fun i hi _ j hj => by rw [y0, yc i hi, yc r hr, yc i hi, yc r hr]; exact (hxc i j).choose_spec hi hj) (fun i => (hxr i).choose) (fun i hi _ => by rw [y0, y5, yc r hr, yc i hi]; exact (hxr i).choose_spec hi) ?_
        intro iv3 oS hswp k2 k4 k3
        show Ex 7 39 _ [] _ _ _
        rw [b7_39 hb, w32_of (by omega) (by omega)]
        have hS : swp n m (dcM ivc b) (dcM iv3 b) q r (-w * sdF ivc b r) := by
          obtain ⟨s1, s2, s3, s4, s5, s6, s7, s8, s9⟩ := hswp
          simp only [y2, y4, y5, y0] at s1 s2 s3 s4 s5 s6 s7 s8 s9
          refine ⟨s1, s2, by show iv3 b 0 = _; rw [s3, yc r hr], fun i hi hne j hj hjq => ?_, fun i hi hne => ?_, fun j hj hjq => ?_, s7, fun i hi hne => ?_, s9⟩
          · have := s4 i hi hne j hj hjq
            rw [yc i hi, yc r hr, yc i hi, yc r hr] at this
            exact this
          · have := s5 i hi hne
            rw [yc i hi] at this
            exact this
          · have := s6 j hj hjq
            rw [yc r hr] at this
            exact this
          · have := s8 i hi hne
            rw [yc r hr, yc i hi] at this
            exact this
        -- the sides with which the walk goes
        have step : DI A K n m P (dcM iv3 b) ∧ ((∃ q w r, dg (abF iv b) (beF iv b) (lvF iv b) n m levels (dcM ivc b) (dcM iv3 b) q w r) ∨ bet A K (abF iv b) (beF iv b) (lvF iv b) P n levels (dcM ivc b) (dcM iv3 b)) := by
          rcases hcase with ⟨hz, hf, hsd⟩ | ⟨hnz, sd, hsd1, hsd, hsr', hfit, hlt⟩
          · rw [x5] at hz
            have hfit0 : ∀ i, i < m → i ≠ r → 0 ≤ sdF ivc b i * (rsF ivc b i * (-w * sdF ivc b r * ceF ivc b r q) - -w * sdF ivc b r * ceF ivc b i q * rsF ivc b r) := fun i hi _ => by
              rw [hz, Int.mul_zero, Int.sub_zero, ← Int.mul_assoc]
              exact Int.mul_nonneg (hg i hi) (Int.le_of_lt hpos)
            have hk3 : ∀ i, i < m → sdF iv3 b i = if i = r then w else sdF ivc b i := fun i hi => by
              rw [k3 i hi, hsd i hi, x3]
            refine ⟨step_DI (D := dcM ivc b) (D' := dcM iv3 b) hn ⟨hT, hp, hs, hg⟩ hq hr hw hsg hpos hsp hS hs hk3 hfit0, Or.inl ⟨q, w, r, ⟨hq, hw, ?_, fun j hj v hv hlt => ?_⟩, hr, hz, hsp, fun i hi hz' hsp' => ?_, hS.1, hS.2.1, hk3⟩⟩
            · rw [← eab, ← ebe, ← elv]; exact hl
            · rw [← eab, ← ebe, ← elv]; exact lxn_of (hbl j hj v hv hlt)
            · rw [x3, x2] at hf
              have h9 := hf.2.2 i hi (by
                rw [xsp _ i hi]
                unfold spS
                have : -(sdF ivc b i) * w * ceF ivc b i q = -(sdF ivc b i * (w * ceF ivc b i q)) := by grind
                have h2 : sdF ivc b i * (w * ceF ivc b i q) < 0 := hsp'
                omega)
              apply h9.2
              rw [xsz, xsz]
              unfold szS
              rw [hz, show rsF ivc b i = 0 from hz', Int.mul_zero, Int.mul_zero, Int.zero_mul, Int.zero_mul]
          · rw [x3] at hsr'
            rw [x5] at hnz
            have hfit1 : ∀ i, i < m → i ≠ r → 0 ≤ sd i * (rsF ivc b i * (-w * sdF ivc b r * ceF ivc b r q) - -w * sdF ivc b r * ceF ivc b i q * rsF ivc b r) := fun i hi _ => by
              have h9 := hfit i hi
              rw [xsz, xsz, xsp _ i hi, xsp _ r hr] at h9
              unfold szS spS at h9
              rw [hsr'] at h9
              have : sd i * (rsF ivc b i * (-w * sdF ivc b r * ceF ivc b r q) - -w * sdF ivc b r * ceF ivc b i q * rsF ivc b r) = sd i * rsF ivc b i * (-(sdF ivc b r) * w * ceF ivc b r q) - -(sd i) * w * ceF ivc b i q * (sdF ivc b r * rsF ivc b r) := by grind
              omega
            have hk3 : ∀ i, i < m → sdF iv3 b i = if i = r then w else sd i := fun i hi => by
              rw [k3 i hi]
              by_cases c : i = r
              · rw [if_pos c, if_pos c]
              · rw [if_neg c, if_neg c]; exact hsd i hi c
            have hDI := step_DI (D := dcM ivc b) (D' := dcM iv3 b) hn ⟨hT, hp, hs, hg⟩ hq hr hw hsg hpos hsp hS hsd1 hk3 hfit1
            refine ⟨hDI, Or.inr (step_bet (D := dcM ivc b) (D' := dcM iv3 b) hn hab hbe hF ⟨hT, hp, hs, hg⟩ hDI hq hr hw hsg hpos hsp hnz hS.1 hsd1 hsr' hfit1 ?_)⟩
            rw [xch] at hlt
            rw [← eab, ← ebe, ← elv]; exact hlt
        have oc3 : onlyW b iv iv3 := fun p j n0 n2 n3 n4 n5 n7 n20 => by
          rw [oS p j (fun z => n0 ⟨z.1, Or.inl z.2⟩) n2 n3 n4 n5 (fun i hi => n7 i (by omega)), oH p j n20 n3, o1 p j n20 (fun z => n0 ⟨z.1, Or.inr z.2⟩)]
          exact oc p j n0 n2 n3 n4 n5 n7 n20
        have ok3 : okS A K P iv3 b n m := by
          refine ⟨?_, ?_, c3, c4, fun i hi => ?_, fun j hj => ?_, fun l hl => ?_, fun l => ?_, step.1⟩
          · rw [oS b 3 (by omega) (by omega) (by omega) (by omega) (by omega) (fun i _ => by omega), oH b 3 (by omega) (by omega), o1 b 3 (by omega) (by omega)]; exact c1
          · rw [oS b 2 (by omega) (by omega) (by omega) (by omega) (by omega) (fun i _ => by omega), oH b 2 (by omega) (by omega), o1 b 2 (by omega) (by omega)]; exact c2
          · rw [k2 i hi, oH (b + 4) _ (by omega) (by omega), oH (b + 2) _ (by omega) (by omega), o1 (b + 4) _ (by omega) (by omega), o1 (b + 2) _ (by omega) (by omega)]
            split
            · exact c6 q hq
            · exact c5 i hi
          · rw [k4 j hj, oH (b + 4) _ (by omega) (by omega), oH (b + 2) _ (by omega) (by omega), o1 (b + 4) _ (by omega) (by omega), o1 (b + 2) _ (by omega) (by omega)]
            split
            · exact c5 r hr
            · exact c6 j hj
          · rw [oS (b + 17) l (by omega) (by omega) (by omega) (by omega) (by omega) (fun i _ => by omega), oH (b + 17) l (by omega) (by omega), o1 (b + 17) l (by omega) (by omega)]; exact c7 l hl
          · unfold abF beF
            rw [oS (b + 18) l (by omega) (by omega) (by omega) (by omega) (by omega) (fun i _ => by omega), oH (b + 18) l (by omega) (by omega), o1 (b + 18) l (by omega) (by omega), oS (b + 19) l (by omega) (by omega) (by omega) (by omega) (by omega) (fun i _ => by omega), oH (b + 19) l (by omega) (by omega), o1 (b + 19) l (by omega) (by omega)]; exact c8 l
        refine ih (t + 1) (by omega) iv3 (fun s => if s ≤ t then f s else dcM iv3 b) _ oc3 ok3 (by simp only [if_neg (show ¬ t + 1 ≤ t by omega)]) (fun s hs' => ?_) (fun s hs' => ?_)
        · by_cases c : s ≤ t
          · simp only [if_pos c]; exact fD s c
          · simp only [if_neg c]; exact step.1
        · by_cases c : s < t
          · simp only [if_pos (show s ≤ t by omega), if_pos (show s + 1 ≤ t by omega)]; exact fS s c
          · have : s = t := by omega
            subst this
            simp only [if_pos (Nat.le_refl s), if_neg (show ¬ s + 1 ≤ s by omega)]
            rw [ft]
            exact step.2
      · intro iv1 o1 hno
        rw [b7_18 hb, if_pos rfl, b7_21 hb]
        refine hk iv1 (fun p j n0 n2 n3 n4 n5 n7 n20 => by rw [o1 p j n20 (fun z => n0 ⟨z.1, Or.inr z.2⟩)]; exact oc p j n0 n2 n3 n4 n5 n7 n20) (okS_GE o1 okc0) (fun j hj v hv => ?_)
        rw [chD_congr (iv := ivc) (sd := sdF ivc b)]
        · exact hno j hj v hv
        · funext l; exact o1 (b + 18) l (by omega) (by omega)
        · funext l; exact o1 (b + 19) l (by omega) (by omega)
        · funext l; unfold lvF; rw [o1 (b + 17) l (by omega) (by omega)]
        · funext l; unfold lnC; rw [o1 (b + 4) l (by omega) (by omega)]
        · funext l; unfold lnR; rw [o1 (b + 2) l (by omega) (by omega)]
        · exact o1 b 0 (by omega) (by omega)
        · exact fun i hi => o1 (b + 7 + i) j (by omega) (by omega)
        · exact fun i hi => o1 (b + 3) i (by omega) (by omega)
  rw [b7_0 hb]
  exact loop 600000 0 (by omega) iv (fun _ => dcM iv b) none (fun _ _ _ _ _ _ _ _ _ => rfl) h rfl (fun _ _ => h.2.2.2.2.2.2.2.2) (fun s hs => by omega)
