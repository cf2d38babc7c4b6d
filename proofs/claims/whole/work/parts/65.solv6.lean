/-! findLeaving -/
theorem m12l {sa sb : Nat} {iv : mIv} {Q : Option mV → mIv → mRv → Prop} {b n m levels q : Nat} {w : Int} (hb : b = 24 ∨ b = 45) (hlv : levels ≤ 9) (hv : svB iv b n m) (hrs : ∀ i, i < m → -100000000000 ≤ rsF iv b i ∧ rsF iv b i ≤ 100000000000) (hq : q < n) (hq14 : iv b 14 = q) (hw15 : iv b 15 = w) (hw : w = 1 ∨ w = -1)
    (hk : ∀ (iv' : mIv) (r : Nat), onlyH b iv iv' → lvP iv b m levels q w r iv' → Q (vI r) iv' (RV sa sb)) : ∀ (t k : Nat), k + t = m → ∀ (ivc : mIv) (sd : Nat → Int) (r : Nat) (u4 : Option mV), onlyH b iv ivc → (∀ i, i < m → sdF ivc b i = sd i) → (∀ i, i < m → sd i = 1 ∨ sd i = -1) → groS iv b n m levels sd ivc q → grW ivc b (9000000000 + 2000000000 * (k : Int)) → lng levels (chD iv b m sd q w) → fstP m (szS iv b sd) (spS iv b sd q w) (lnR iv b) r → fitS iv b m sd q w r → 0 < szS iv b sd r → (∀ i, i < m → sd i = sdF iv b i ∨ spS iv b sd q w i < 0) → Ex 12 25 [vR b, vI levels, vI r, vI k, u4] [] ivc (RV sa sb) Q := by
  have hv0 := hv
  obtain ⟨h1, h2, h3, h4, h5, h6, h7, h8, h9, h10, h11⟩ := hv
  have fin : ∀ (iv' : mIv) (sd : Nat → Int) (r : Nat), onlyH b iv iv' → (∀ i, i < m → i ≠ r → sdF iv' b i = sd i) → (∀ i, i < m → sd i = 1 ∨ sd i = -1) → lng levels (chD iv b m sd q w) → fstP m (szS iv b sd) (spS iv b sd q w) (lnR iv b) r → fitS iv b m sd q w r → 0 < szS iv b sd r → (∀ i, i < m → sd i = sdF iv b i ∨ spS iv b sd q w i < 0) → Q (vI r) iv' (RV sa sb) := by
    intro iv' sd r ho hs hs1 hl hf hfit hz hor
    have hr := hf.1
    have hsp := hf.2.1
    have e : sd r = sdF iv b r := by
      rcases hor r hr with h | h
      · exact h
      · omega
    refine hk iv' r ho ⟨hr, ?_, Or.inr ⟨?_, sd, hs1, hs, e, hfit, hl⟩⟩
    · unfold spS at hsp ⊢; rw [← e]; exact hsp
    · intro z
      unfold szS at hz
      rw [z, Int.mul_zero] at hz
      omega
  intro t
  induction t with
  | zero =>
    intro k hkm ivc sd r u4 ho hs hs1 hg hgw hl hf hfit hz hor
    rw [b12_25 hb, if_neg (by rw [ho b 2 (by omega) (by omega), h2]; omega), b12_77 hb]
    exact fin ivc sd r ho (fun i hi _ => hs i hi) hs1 hl hf hfit hz hor
  | succ t ih =>
    intro k hkm ivc sd r u4 ho hs hs1 hg hgw hl hf hfit hz hor
    have hr := hf.1
    have hsp := hf.2.1
    have hln : ∀ i, ivc (b + 2) i = iv (b + 2) i := fun i => ho _ _ (by omega) (by omega)
    have elR : ∀ i, lnR ivc b i = lnR iv b i := fun i => by unfold lnR; rw [hln]
    have hl5 := h5 r hr
    have hl14 : lnR iv b r < 14 := by unfold lnR; omega
    have elv : ∀ l, lvF ivc b l = lvF iv b l := fun l => by unfold lvF; rw [ho (b + 17) _ (by omega) (by omega)]
    have eab : ∀ l, abF ivc b l = abF iv b l := fun l => ho (b + 18) _ (by omega) (by omega)
    have ebe : ∀ l, beF ivc b l = beF iv b l := fun l => ho (b + 19) _ (by omega) (by omega)
    have ece : ∀ i, i < 9 → ∀ j, ceF ivc b i j = ceF iv b i j := fun i hi j => ho (b + 7 + i) _ (by omega) (by omega)
    have eb : ∀ j, ivc b j = iv b j := fun j => ho b j (by omega) (by omega)
    rw [b12_25 hb, if_pos (by rw [eb, h2]; omega), b12_33 hb]
    rw [m14 hb (by omega) (by rw [eb]; exact hq14) (by omega) (by rw [eb]; exact hw15) hw (by rw [hln]; exact hl5) (by rw [elR, ho (b + 17) _ (by omega) (by omega)]; exact h7 _ hl14) (by rw [elR, eab, ebe]; exact h8 _) (by rw [ece r (by omega)]; exact h11 r hr q hq) (by rw [hs r hr]; exact hs1 r hr) hgw (by omega)]
    show Ex 12 38 [vR b, vI levels, vI r, vI k, u4] [] _ _ _
    have hlev9 : lvF iv b (lnR iv b r) < 9 := by
      have := h7 _ hl14
      unfold lvF; omega
    generalize hd : st2 (st2 ivc (b + 20) (lvF ivc b (lnR ivc b r) * 5 + q) (ivc (b + 20) (lvF ivc b (lnR ivc b r) * 5 + q) + benF ivc b q r w)) (b + 3) r (-(sdF ivc b r)) = ivd
    have ben : benF ivc b q r w = benF iv b q r w := by unfold benF; rw [elR, eab, ebe, ece r (by omega)]
    rw [elR, elv, ben] at hd
    have oD : onlyH b iv ivd := fun p j hp hp3 => by
      rw [← hd, st2_ne hp3, st2_ne hp]; exact ho p j hp hp3
    have sD : ∀ i, i < m → sdF ivd b i = flp sd r i := fun i hi => by
      show ivd (b + 3) i = _
      rw [← hd]
      by_cases e : i = r
      · rw [e, st2_eq, flp_r, hs r hr]
      · rw [st2_nk e, st2_ne (by omega), flp_n sd e]; exact hs i hi
    have sD1 : ∀ i, i < m → flp sd r i = 1 ∨ flp sd r i = -1 := fun i hi => by
      by_cases e : i = r
      · rw [e, flp_r]; have := hs1 r hr; omega
      · rw [flp_n sd e]; exact hs1 i hi
    have bend := (w_ben (a := abF iv b (lnR iv b r) + beF iv b (lnR iv b r)) (c := ceF iv b r q) hw (by have := h8 (lnR iv b r); omega) (h11 r hr q hq)).2
    have gD : groS iv b n m levels (flp sd r) ivd q := fun L hL => by
      rw [grw_flip hr (hs1 r hr) hw hsp, ← hd, st2_ne (by omega)]
      by_cases e : lvF iv b (lnR iv b r) = L
      · rw [e, st2_eq, hg L hL]
        unfold ind; rw [if_pos rfl]
      · rw [st2_nk (by omega), hg L hL]
        unfold ind; rw [if_neg e, Int.add_zero]
    have gwD : grW ivd b (9000000000 + 2000000000 * ((k + 1 : Nat) : Int)) := fun t ht => by
      rw [← hd, st2_ne (by omega)]
      have hb1 := hgw t ht
      by_cases e : t = lvF iv b (lnR iv b r) * 5 + q
      · rw [e, st2_eq]
        rw [e] at hb1
        have : -2000000000 ≤ benF iv b q r w ∧ benF iv b q r w ≤ 2000000000 := bend
        omega
      · rw [st2_nk e]; omega
    have elRd : ∀ i, lnR ivd b i = lnR iv b i := fun i => by unfold lnR; rw [oD _ _ (by omega) (by omega)]
    have eced : ∀ i, i < 9 → ∀ j, ceF ivd b i j = ceF iv b i j := fun i hi j => oD (b + 7 + i) _ (by omega) (by omega)
    have ersd : ∀ i, rsF ivd b i = rsF iv b i := fun i => oD (b + 5) _ (by omega) (by omega)
    have ebd : ∀ j, ivd b j = iv b j := fun j => oD b j (by omega) (by omega)
    have eszd : ∀ i, i < m → szS ivd b (sdF ivd b) i = szS iv b (flp sd r) i := fun i hi => by unfold szS; rw [sD i hi, ersd]
    have espd : ∀ i, i < m → spS ivd b (sdF ivd b) q w i = spS iv b (flp sd r) q w i := fun i hi => by unfold spS; rw [sD i hi, eced i (by omega)]
    have ret : Q (vI r) ivd (RV sa sb) := fin ivd sd r oD (fun i hi e => by rw [sD i hi, flp_n sd e]) hs1 hl hf hfit hz hor
    rw [b12_38 hb]
    refine m13 hb (by rw [ebd]; exact h2) h4 (fun i hi => by rw [sD i hi]; exact sD1 i hi) (fun i hi => by rw [eced i (by omega)]; exact h11 i hi q hq) (fun i hi => by rw [ersd]; exact hrs i hi) (fun i hi => by rw [oD (b + 2) _ (by omega) (by omega)]; exact (h5 i hi).1) (by rw [ebd]; exact hq14) (by omega) (by rw [ebd]; exact hw15) hw (fun _ => ?_) (fun r' hf' => ?_)
    · show Ex 12 42 _ [.inl (-1)] _ _ _
      rw [b12_42 hb, if_pos rfl, b12_66 hb]
      exact ret
    · have hF' : fstP m (szS iv b (flp sd r)) (spS iv b (flp sd r) q w) (lnR iv b) r' := fstP_congr eszd espd (fun i _ => elRd i) hf'
      show Ex 12 42 _ [.inl (r' : Int)] _ _ _
      rw [b12_42 hb, if_neg (by omega), b12_50 hb, ebd 14, ebd 15, hq14, hw15]
      have hc6 := h6 q hq
      have elC : lnC ivd b q = lnC iv b q := by unfold lnC; rw [oD _ _ (by omega) (by omega)]
      have hc14 : lnC iv b q < 14 := by unfold lnC; omega
      have grBd : grB ivd b := by
        refine ⟨fun t ht => by have := gwD t ht; omega, by rw [ebd]; exact h9, by rw [ebd]; exact h10, fun l => ?_⟩
        unfold abF beF
        rw [oD (b + 18) _ (by omega) (by omega), oD (b + 19) _ (by omega) (by omega)]
        exact h8 l
      have hch : ∀ L, L < levels → chJ ivd b q w L = chD iv b m (flp sd r) q w L := fun L hL => by
        unfold chJ chD chg
        rw [gD L hL, elC, ebd]
        unfold lvF abF beF
        rw [oD (b + 17) _ (by omega) (by omega), oD (b + 18) _ (by omega) (by omega), oD (b + 19) _ (by omega) (by omega)]
      have less := fun (Q : Option mV → mIv → mRv → Prop) => m11 (sa := sa) (sb := sb) (Q := Q) (iv := ivd) hb (show q < 5 by omega) hlv hw (by rw [oD (b + 4) _ (by omega) (by omega)]; exact hc6) (by rw [elC, oD (b + 17) _ (by omega) (by omega)]; exact (h7 _ hc14).1) grBd
      by_cases hlD : lng levels (chJ ivd b q w)
      · rw [(less _).1 hlD]
        show Ex 12 63 _ [.inl 1] _ _ _
        rw [b12_63 hb, if_neg (by omega), b12_68 hb, w32_of (by omega) (by omega)]
        obtain ⟨f1, f2⟩ := fit_n hr hsp hfit hF'
        have hr'm := hF'.1
        have hsp' := hF'.2.1
        have hz' : 0 < szS iv b (flp sd r) r' := by
          have := hfit r' hr'm
          have e1 : spS iv b sd q w r' = spS iv b (flp sd r) q w r' := by unfold spS; rw [flp_n sd f2]
          have e2 : szS iv b sd r' = szS iv b (flp sd r) r' := by unfold szS; rw [flp_n sd f2]
          rw [e1, e2] at this
          have h9 := Int.mul_pos hsp' hz
          apply Classical.byContradiction
          intro hn
          have := Int.mul_nonneg (show 0 ≤ -(szS iv b (flp sd r) r') by omega) (Int.le_of_lt hsp)
          have e3 : -(szS iv b (flp sd r) r') * spS iv b sd q w r = -(szS iv b (flp sd r) r' * spS iv b sd q w r) := by grind
          omega
        refine ih (k + 1) (by omega) ivd (flp sd r) r' _ oD sD sD1 gD gwD (lng_congr hch hlD) hF' f1 hz' (fun i hi => ?_)
        by_cases e : i = r
        · right
          rw [e]
          unfold spS at hsp ⊢
          rw [flp_r]
          have : -(-(sd r)) * w * ceF iv b r q = -(-(sd r) * w * ceF iv b r q) := by grind
          omega
        · rw [flp_n sd e]
          have e1 : spS iv b (flp sd r) q w i = spS iv b sd q w i := by unfold spS; rw [flp_n sd e]
          rw [e1]
          exact hor i hi
      · rw [(less _).2 hlD]
        show Ex 12 63 _ [.inl 0] _ _ _
        rw [b12_63 hb, if_pos rfl, b12_66 hb]
        exact ret
theorem m12 {sa sb : Nat} {iv : mIv} {Q : Option mV → mIv → mRv → Prop} {b n m levels q : Nat} {w : Int} (hb : b = 24 ∨ b = 45) (hlv : levels ≤ 9) (hv : svB iv b n m) (hrs : ∀ i, i < m → -100000000000 ≤ rsF iv b i ∧ rsF iv b i ≤ 100000000000) (hs1 : ∀ i, i < m → sdF iv b i = 1 ∨ sdF iv b i = -1) (hz : ∀ i, i < m → 0 ≤ szS iv b (sdF iv b) i) (hq : q < n) (hq14 : iv b 14 = q) (hw15 : iv b 15 = w) (hw : w = 1 ∨ w = -1) (hg : groS iv b n m levels (sdF iv b) iv q) (hgw : grW iv b 9000000000) (hl : lng levels (chD iv b m (sdF iv b) q w))
    (hk : ∀ (iv' : mIv) (r : Nat), onlyH b iv iv' → lvP iv b m levels q w r iv' → Q (vI r) iv' (RV sa sb)) : Ex 12 0 [vR b, vI levels, none, none, none] [] iv (RV sa sb) Q := by
  have hv0 := hv
  obtain ⟨h1, h2, h3, h4, h5, h6, h7, h8, h9, h10, h11⟩ := hv
  rw [b12_0 hb]
  refine m13 hb h2 h4 hs1 (fun i hi => h11 i hi q hq) hrs (fun i hi => (h5 i hi).1) hq14 (by omega) hw15 hw (fun hno => ?_) (fun r hf => ?_)
  · exact absurd hl (no_row hs1 (Int.le_of_lt h9) (fun l => ⟨(h8 l).1, (h8 l).2.2.1⟩) hw hno)
  · have hr := hf.1
    show Ex 12 4 _ [.inl (r : Int)] _ _ _
    rw [b12_4 hb, if_neg (by omega), b12_10 hb (by omega) (by omega), Int.toNat_natCast]
    by_cases hz0 : iv (b + 5) r = 0
    · rw [if_pos hz0, b12_21 hb]
      exact hk iv r (fun _ _ _ _ => rfl) ⟨hr, hf.2.1, Or.inl ⟨hz0, hf, fun _ _ => rfl⟩⟩
    · rw [if_neg hz0, b12_23 hb]
      refine m12l hb hlv hv0 hrs hq hq14 hw15 hw hk m 0 (by omega) iv (sdF iv b) r none (fun _ _ _ _ => rfl) (fun _ _ => rfl) hs1 hg (by rw [show (9000000000 + 2000000000 * ((0 : Nat) : Int)) = 9000000000 from rfl]; exact hgw) hl hf (fit_0 hz hf) ?_ (fun i _ => Or.inl rfl)
      have h1 := hz r hr
      have h2 : szS iv b (sdF iv b) r ≠ 0 := by
        unfold szS
        intro z
        rcases Int.mul_eq_zero.mp z with e | e
        · have := hs1 r hr; omega
        · exact hz0 e
      omega
