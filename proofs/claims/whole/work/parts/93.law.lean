/-! the law: call by call the class and the model answer the same -/
theorem wk1 {i : Nat} (h : i < 4000) : w32 ((i : Int) + 1) = ((i + 1 : Nat) : Int) := by rw [w32_of (by omega) (by omega)]; omega
theorem wk2 {i : Nat} (h : i < 4000) : w32 ((i : Int) + 2) = ((i + 2 : Nat) : Int) := by rw [w32_of (by omega) (by omega)]; omega
theorem wk3 {i : Nat} (h : i < 4000) : w32 ((i : Int) + 3) = ((i + 3 : Nat) : Int) := by rw [w32_of (by omega) (by omega)]; omega
theorem wk4 {i : Nat} (h : i < 4000) : w32 ((i : Int) + 4) = ((i + 4 : Nat) : Int) := by rw [w32_of (by omega) (by omega)]; omega
theorem wk5 {i : Nat} (h : i < 4000) : w32 ((i : Int) + 5) = ((i + 5 : Nat) : Int) := by rw [w32_of (by omega) (by omega)]; omega
theorem wk6 {i : Nat} (h : i < 4000) : w32 ((i : Int) + 6) = ((i + 6 : Nat) : Int) := by rw [w32_of (by omega) (by omega)]; omega
theorem wk7 {i : Nat} (h : i < 4000) : w32 ((i : Int) + 7) = ((i + 7 : Nat) : Int) := by rw [w32_of (by omega) (by omega)]; omega
theorem frM.R {iv iv' : mIv} {g : Sg} (f : frM iv iv') (h : Rm iv g) : Rm iv' g := h.fr (fun p j q _ _ => f p j q)
theorem frC.R {iv iv' : mIv} {g : Sg} {sa sb : Nat} (f : frC iv iv') (h : Rc iv sa sb g) : Rc iv' sa sb g := h.frS (fun p j q _ _ => f p j (Or.inl q))
section LAW
variable {Q : Option mV → mIv → mRv → Prop}
theorem law_go {Ls : Nat} (hLs : Ls ≤ 3584) (hQ : ∀ iv rv, Q (vI 1) iv rv) : ∀ (N i : Nat), Ls < i + N → i < 3600 → ∀ (iv : mIv) (sa sb : Nat) (g : Sg), Rc iv sa sb g → Rm iv g → good g → iv 1000001 0 = (Ls : Int) → Ex 104 18 [vR 1000000, vR 0, vR 66, vI i] [] iv (RV sa sb) Q := by
  intro N
  induction N with
  | zero =>
    intro i hi hi2 iv sa sb g h hm hg hl
    rw [b104_18, hl, w32_of (by omega) (by omega), if_pos (by omega), b104_747]
    exact hQ _ _
  | succ N ih =>
    intro i hi hi2 iv sa sb g h hm hg hl
    rw [b104_18, hl, w32_of (by omega) (by omega)]
    by_cases hend : (Ls : Int) - 7 < (i : Int)
    · rw [if_pos hend, b104_747]
      exact hQ _ _
    · have hlen : i + 7 ≤ Ls := by omega
      have hi4 : i < 4000 := by omega
      rw [if_neg hend, b104_27 (by omega) (by rw [hl]; omega)]
      obtain ⟨hB, hSat⟩ := hg
      have hg : good g := ⟨hB, hSat⟩
      have next : ∀ (iv' : mIv) (sa' sb' : Nat) (g' : Sg), Rc iv' sa' sb' g' → Rm iv' g' → good g' → iv' 1000001 0 = (Ls : Int) → Ex 104 741 [vR 1000000, vR 0, vR 66, vI i] [] iv' (RV sa' sb') Q := fun iv' sa' sb' g' q1 q2 q3 q4 => by
        rw [b104_741, wk7 hi4]
        exact ih (i + 7) (by omega) (by omega) iv' sa' sb' g' q1 q2 q3 q4
      generalize (Int32.ofInt (iv 1000000 ((i : Int)).toNat) &&& Int32.ofInt 31).toInt = op
      refine ⟨fun _ => next iv sa sb g h hm hg hl, fun _ => ?_, fun _ => ?_, fun _ => ?_, fun _ => ?_, fun _ => ?_, fun _ => ?_, fun _ => ?_, fun _ => ?_, fun _ => ?_, fun _ => ?_, fun _ => ?_, fun _ => ?_, fun _ => ?_, fun _ => ?_, fun _ => ?_, fun _ => ?_, fun _ => ?_, fun _ => ?_, fun _ => ?_, trivial⟩
      · rw [b104_124 (by rw [wk1 hi4]; omega) (by rw [wk1 hi4, hl]; omega)]
        refine c21 hB h (fun iv1 f1 h1 => ?_)
        have hs : ∀ j, iv1 1000000 j = iv 1000000 j := fun j => f1 1000000 j (by omega)
        have hl1 : iv1 1000001 0 = (Ls : Int) := by rw [f1 1000001 0 (by omega)]; exact hl
        show Ex 104 133 _ [.inl _] _ _ _
        rw [b104_133 (by rw [wk1 hi4]; omega) (by rw [wk1 hi4, hl1]; omega)]
        simp only [hs]
        refine e74 hB (f1.R hm) (fun iv2 f2 h2 => ?_)
        show Ex 104 142 _ [.inl _, .inl _] _ _ _
        rw [b104_142, if_pos rfl]
        exact next iv2 sa sb _ (f2.R h1) h2 (g_edge hg) (by rw [f2 1000001 0 (by omega)]; exact hl1)
      · rw [b104_147 (by rw [wk1 hi4]; omega) (by rw [wk1 hi4, hl]; omega) (by rw [wk2 hi4]; omega) (by rw [wk2 hi4, hl]; omega)]
        refine c22 h (fun iv1 f1 h1 => ?_)
        have hs : ∀ j, iv1 1000000 j = iv 1000000 j := fun j => f1 1000000 j (by omega)
        have hl1 : iv1 1000001 0 = (Ls : Int) := by rw [f1 1000001 0 (by omega)]; exact hl
        show Ex 104 161 _ [.inl _] _ _ _
        rw [b104_161 (by rw [wk1 hi4]; omega) (by rw [wk1 hi4, hl1]; omega) (by rw [wk2 hi4]; omega) (by rw [wk2 hi4, hl1]; omega)]
        simp only [hs]
        refine e75 (f1.R hm) (fun iv2 f2 h2 => ?_)
        show Ex 104 175 _ [.inl _, .inl _] _ _ _
        rw [b104_175, if_pos rfl]
        exact next iv2 sa sb _ (f2.R h1) h2 (g_fac hg) (by rw [f2 1000001 0 (by omega)]; exact hl1)
      · rw [b104_180 (by rw [wk1 hi4]; omega) (by rw [wk1 hi4, hl]; omega) (by rw [wk2 hi4]; omega) (by rw [wk2 hi4, hl]; omega) (by rw [wk3 hi4]; omega) (by rw [wk3 hi4, hl]; omega) (by rw [wk4 hi4]; omega) (by rw [wk4 hi4, hl]; omega)]
        refine c23 hB h (fun iv1 sa1 sb1 f1 h1 => ?_)
        have hs : ∀ j, iv1 1000000 j = iv 1000000 j := fun j => f1 1000000 j (by omega)
        have hl1 : iv1 1000001 0 = (Ls : Int) := by rw [f1 1000001 0 (by omega)]; exact hl
        show Ex 104 204 _ [.inl _] _ _ _
        rw [b104_204 (by rw [wk1 hi4]; omega) (by rw [wk1 hi4, hl1]; omega) (by rw [wk2 hi4]; omega) (by rw [wk2 hi4, hl1]; omega) (by rw [wk3 hi4]; omega) (by rw [wk3 hi4, hl1]; omega) (by rw [wk4 hi4]; omega) (by rw [wk4 hi4, hl1]; omega)]
        simp only [hs]
        refine e78 hB (f1.R hm) (fun iv2 f2 h2 => ?_)
        show Ex 104 228 _ [.inl _, .inl _] _ _ _
        rw [b104_228, if_pos rfl]
        exact next iv2 sa1 sb1 _ (f2.R h1) h2 (g_wish hg) (by rw [f2 1000001 0 (by omega)]; exact hl1)
      · rw [b104_233 (by rw [wk1 hi4]; omega) (by rw [wk1 hi4, hl]; omega) (by rw [wk2 hi4]; omega) (by rw [wk2 hi4, hl]; omega) (by rw [wk3 hi4]; omega) (by rw [wk3 hi4, hl]; omega) (by rw [wk4 hi4]; omega) (by rw [wk4 hi4, hl]; omega) (by rw [wk5 hi4]; omega) (by rw [wk5 hi4, hl]; omega) (by rw [wk6 hi4]; omega) (by rw [wk6 hi4, hl]; omega)]
        refine c24 hB h (fun iv1 sa1 sb1 f1 h1 => ?_)
        have hs : ∀ j, iv1 1000000 j = iv 1000000 j := fun j => f1 1000000 j (by omega)
        have hl1 : iv1 1000001 0 = (Ls : Int) := by rw [f1 1000001 0 (by omega)]; exact hl
        show Ex 104 268 _ [.inl _] _ _ _
        rw [b104_268 (by rw [wk1 hi4]; omega) (by rw [wk1 hi4, hl1]; omega) (by rw [wk2 hi4]; omega) (by rw [wk2 hi4, hl1]; omega) (by rw [wk3 hi4]; omega) (by rw [wk3 hi4, hl1]; omega) (by rw [wk4 hi4]; omega) (by rw [wk4 hi4, hl1]; omega) (by rw [wk5 hi4]; omega) (by rw [wk5 hi4, hl1]; omega) (by rw [wk6 hi4]; omega) (by rw [wk6 hi4, hl1]; omega)]
        simp only [hs]
        refine e79 hB (f1.R hm) (fun iv2 f2 h2 => ?_)
        show Ex 104 303 _ [.inl _, .inl _] _ _ _
        rw [b104_303, if_pos rfl]
        exact next iv2 sa1 sb1 _ (f2.R h1) h2 (g_side hg) (by rw [f2 1000001 0 (by omega)]; exact hl1)
      · rw [b104_308 (by rw [wk1 hi4]; omega) (by rw [wk1 hi4, hl]; omega)]
        refine c25 hB h (fun iv1 f1 h1 => ?_)
        have hs : ∀ j, iv1 1000000 j = iv 1000000 j := fun j => f1 1000000 j (by omega)
        have hl1 : iv1 1000001 0 = (Ls : Int) := by rw [f1 1000001 0 (by omega)]; exact hl
        show Ex 104 317 _ [.inl _] _ _ _
        rw [b104_317 (by rw [wk1 hi4]; omega) (by rw [wk1 hi4, hl1]; omega)]
        simp only [hs]
        refine e80 (f1.R hm) (fun iv2 f2 h2 => ?_)
        show Ex 104 326 _ [.inl _, .inl _] _ _ _
        rw [b104_326, if_pos rfl]
        exact next iv2 sa sb _ (f2.R h1) h2 (g_take hg) (by rw [f2 1000001 0 (by omega)]; exact hl1)
      · -- hide
        obtain ⟨on, hon, hone⟩ : ∃ on : Int, (on = 0 ∨ on = 1) ∧ on = (if iv 1000000 (w32 ((i : Int) + 2)).toNat = 0 then 0 else 1) := by
          by_cases z : iv 1000000 (w32 ((i : Int) + 2)).toNat = 0
          · exact ⟨0, Or.inl rfl, by rw [if_pos z]⟩
          · exact ⟨1, Or.inr rfl, by rw [if_neg z]⟩
        have go : Ex 104 350 [vR 1000000, vR 0, vR 66, vI i] [.inl on, .inl (iv 1000000 (w32 ((i : Int) + 1)).toNat), .inr (.inr (some 0))] iv (RV sa sb) Q := by
          rw [b104_350]
          refine c26 hon hB h (fun iv1 sa1 sb1 f1 h1 => ?_)
          have hs : ∀ j, iv1 1000000 j = iv 1000000 j := fun j => f1 1000000 j (by omega)
          have hl1 : iv1 1000001 0 = (Ls : Int) := by rw [f1 1000001 0 (by omega)]; exact hl
          show Ex 104 353 _ [.inl _] _ _ _
          rw [b104_353 (by rw [wk1 hi4]; omega) (by rw [wk1 hi4, hl1]; omega) (by rw [wk2 hi4]; omega) (by rw [wk2 hi4, hl1]; omega)]
          simp only [hs]
          have go2 : ∀ x : Int, Ex 104 372 [vR 1000000, vR 0, vR 66, vI i] [.inl on, .inl (iv 1000000 (w32 ((i : Int) + 1)).toNat), .inr (.inr (some 66)), .inl (aHide g (iv 1000000 (w32 ((i : Int) + 1)).toNat) on).1] iv1 (RV sa1 sb1) Q := fun _ => by
            rw [b104_372]
            refine e81 hon hB (f1.R hm) (fun iv2 f2 h2 => ?_)
            show Ex 104 375 _ [.inl _, .inl _] _ _ _
            rw [b104_375, if_pos rfl]
            exact next iv2 sa1 sb1 _ (f2.R h1) h2 (g_hide hon hg) (by rw [f2 1000001 0 (by omega)]; exact hl1)
          by_cases z : iv 1000000 (w32 ((i : Int) + 2)).toNat = 0
          · rw [if_pos z] at hone ⊢
            subst hone
            rw [b104_371]; exact go2 0
          · rw [if_neg z] at hone ⊢
            subst hone
            rw [b104_367]; exact go2 0
        rw [b104_331 (by rw [wk1 hi4]; omega) (by rw [wk1 hi4, hl]; omega) (by rw [wk2 hi4]; omega) (by rw [wk2 hi4, hl]; omega)]
        by_cases z : iv 1000000 (w32 ((i : Int) + 2)).toNat = 0
        · rw [if_pos z] at hone ⊢
          subst hone
          rw [b104_349]; exact go
        · rw [if_neg z] at hone ⊢
          subst hone
          rw [b104_345]; exact go
      · rw [b104_380 (by rw [wk1 hi4]; omega) (by rw [wk1 hi4, hl]; omega) (by rw [wk2 hi4]; omega) (by rw [wk2 hi4, hl]; omega)]
        refine c27 hB hSat h (fun iv1 sa1 sb1 f1 h1 => ?_)
        have hs : ∀ j, iv1 1000000 j = iv 1000000 j := fun j => f1 1000000 j (by omega)
        have hl1 : iv1 1000001 0 = (Ls : Int) := by rw [f1 1000001 0 (by omega)]; exact hl
        show Ex 104 394 _ [.inl _] _ _ _
        rw [b104_394 (by rw [wk1 hi4]; omega) (by rw [wk1 hi4, hl1]; omega) (by rw [wk2 hi4]; omega) (by rw [wk2 hi4, hl1]; omega)]
        simp only [hs]
        refine e82 hB (f1.R hm) (fun iv2 f2 h2 => ?_)
        show Ex 104 408 _ [.inl _, .inl _] _ _ _
        rw [b104_408, if_pos rfl]
        exact next iv2 sa1 sb1 _ (f2.R h1) h2 (g_drag hg) (by rw [f2 1000001 0 (by omega)]; exact hl1)
      · rw [b104_413 (by rw [wk1 hi4]; omega) (by rw [wk1 hi4, hl]; omega) (by rw [wk2 hi4]; omega) (by rw [wk2 hi4, hl]; omega) (by rw [wk3 hi4]; omega) (by rw [wk3 hi4, hl]; omega)]
        refine c28 hB h (fun iv1 sa1 sb1 f1 h1 => ?_)
        have hs : ∀ j, iv1 1000000 j = iv 1000000 j := fun j => f1 1000000 j (by omega)
        have hl1 : iv1 1000001 0 = (Ls : Int) := by rw [f1 1000001 0 (by omega)]; exact hl
        show Ex 104 432 _ [.inl _] _ _ _
        rw [b104_432 (by rw [wk1 hi4]; omega) (by rw [wk1 hi4, hl1]; omega) (by rw [wk2 hi4]; omega) (by rw [wk2 hi4, hl1]; omega) (by rw [wk3 hi4]; omega) (by rw [wk3 hi4, hl1]; omega)]
        simp only [hs]
        refine e83 hB (f1.R hm) (fun iv2 f2 h2 => ?_)
        show Ex 104 451 _ [.inl _, .inl _] _ _ _
        rw [b104_451, if_pos rfl]
        exact next iv2 sa1 sb1 _ (f2.R h1) h2 (g_str hg) (by rw [f2 1000001 0 (by omega)]; exact hl1)
      · rw [b104_456 (by rw [wk1 hi4]; omega) (by rw [wk1 hi4, hl]; omega) (by rw [wk2 hi4]; omega) (by rw [wk2 hi4, hl]; omega)]
        refine c29 hB h ?_
        show Ex 104 470 _ [.inl _] _ _ _
        rw [b104_470 (by rw [wk1 hi4]; omega) (by rw [wk1 hi4, hl]; omega) (by rw [wk2 hi4]; omega) (by rw [wk2 hi4, hl]; omega)]
        refine e84 hB hm ?_
        show Ex 104 484 _ [.inl _, .inl _] _ _ _
        rw [b104_484, if_pos rfl]
        exact next iv sa sb g h hm hg hl
      · rw [b104_489 (by rw [wk1 hi4]; omega) (by rw [wk1 hi4, hl]; omega)]
        refine c30 hB h (fun iv1 f1 h1 => ?_)
        have hs : ∀ j, iv1 1000000 j = iv 1000000 j := fun j => f1 1000000 j (by omega)
        have hl1 : iv1 1000001 0 = (Ls : Int) := by rw [f1 1000001 0 (by omega)]; exact hl
        show Ex 104 498 _ [.inl _] _ _ _
        rw [b104_498 (by rw [wk1 hi4]; omega) (by rw [wk1 hi4, hl1]; omega)]
        simp only [hs]
        refine e85 hB hSat (f1.R hm) (fun iv2 f2 h2 => ?_)
        show Ex 104 507 _ [.inl _, .inl _] _ _ _
        rw [b104_507, if_pos rfl]
        exact next iv2 sa sb _ (f2.R h1) h2 (hg) (by rw [f2 1000001 0 (by omega)]; exact hl1)
      · rw [b104_512, c31 h]
        show Ex 104 516 _ [.inl _] _ _ _
        rw [b104_516, e86 hm]
        show Ex 104 520 _ [.inl _, .inl _] _ _ _
        rw [b104_520, if_pos rfl]
        exact next iv sa sb g h hm hg hl
      · rw [b104_525 (by rw [wk1 hi4]; omega) (by rw [wk1 hi4, hl]; omega) (by rw [wk2 hi4]; omega) (by rw [wk2 hi4, hl]; omega)]
        refine c32 hB h (fun iv1 f1 h1 => ?_)
        have hs : ∀ j, iv1 1000000 j = iv 1000000 j := fun j => f1 1000000 j (by omega)
        have hl1 : iv1 1000001 0 = (Ls : Int) := by rw [f1 1000001 0 (by omega)]; exact hl
        show Ex 104 539 _ [.inl _] _ _ _
        rw [b104_539 (by rw [wk1 hi4]; omega) (by rw [wk1 hi4, hl1]; omega) (by rw [wk2 hi4]; omega) (by rw [wk2 hi4, hl1]; omega)]
        simp only [hs]
        refine e87 hB hSat (f1.R hm) (fun iv2 f2 h2 => ?_)
        show Ex 104 553 _ [.inl _, .inl _] _ _ _
        rw [b104_553, if_pos rfl]
        exact next iv2 sa sb _ (f2.R h1) h2 (hg) (by rw [f2 1000001 0 (by omega)]; exact hl1)
      · rw [b104_558 (by rw [wk1 hi4]; omega) (by rw [wk1 hi4, hl]; omega)]
        refine c33 hB h (fun iv1 f1 h1 => ?_)
        have hs : ∀ j, iv1 1000000 j = iv 1000000 j := fun j => f1 1000000 j (by omega)
        have hl1 : iv1 1000001 0 = (Ls : Int) := by rw [f1 1000001 0 (by omega)]; exact hl
        show Ex 104 567 _ [.inl _] _ _ _
        rw [b104_567 (by rw [wk1 hi4]; omega) (by rw [wk1 hi4, hl1]; omega)]
        simp only [hs]
        refine e90 hB hSat (f1.R hm) (fun iv2 f2 h2 => ?_)
        show Ex 104 576 _ [.inl _, .inl _] _ _ _
        rw [b104_576, if_pos rfl]
        exact next iv2 sa sb _ (f2.R h1) h2 (hg) (by rw [f2 1000001 0 (by omega)]; exact hl1)
      · rw [b104_581 (by rw [wk1 hi4]; omega) (by rw [wk1 hi4, hl]; omega) (by rw [wk2 hi4]; omega) (by rw [wk2 hi4, hl]; omega)]
        refine c34 hB h (fun iv1 f1 h1 => ?_)
        have hs : ∀ j, iv1 1000000 j = iv 1000000 j := fun j => f1 1000000 j (by omega)
        have hl1 : iv1 1000001 0 = (Ls : Int) := by rw [f1 1000001 0 (by omega)]; exact hl
        show Ex 104 595 _ [.inr (.inl _)] _ _ _
        rw [b104_595 (by rw [wk1 hi4]; omega) (by rw [wk1 hi4, hl1]; omega) (by rw [wk2 hi4]; omega) (by rw [wk2 hi4, hl1]; omega)]
        simp only [hs]
        refine e91 hB hSat (f1.R hm) (fun iv2 f2 h2 => ?_)
        show Ex 104 609 _ [.inr (.inl _), .inr (.inl _)] _ _ _
        rw [b104_609, if_pos rfl]
        exact next iv2 sa sb _ (f2.R h1) h2 (hg) (by rw [f2 1000001 0 (by omega)]; exact hl1)
      · rw [b104_615 (by rw [wk1 hi4]; omega) (by rw [wk1 hi4, hl]; omega) (by rw [wk2 hi4]; omega) (by rw [wk2 hi4, hl]; omega)]
        refine c35 hB h (fun iv1 f1 h1 => ?_)
        have hs : ∀ j, iv1 1000000 j = iv 1000000 j := fun j => f1 1000000 j (by omega)
        have hl1 : iv1 1000001 0 = (Ls : Int) := by rw [f1 1000001 0 (by omega)]; exact hl
        show Ex 104 629 _ [.inr (.inl _)] _ _ _
        rw [b104_629 (by rw [wk1 hi4]; omega) (by rw [wk1 hi4, hl1]; omega) (by rw [wk2 hi4]; omega) (by rw [wk2 hi4, hl1]; omega)]
        simp only [hs]
        refine e92 hB hSat (f1.R hm) (fun iv2 f2 h2 => ?_)
        show Ex 104 643 _ [.inr (.inl _), .inr (.inl _)] _ _ _
        rw [b104_643, if_pos rfl]
        exact next iv2 sa sb _ (f2.R h1) h2 (hg) (by rw [f2 1000001 0 (by omega)]; exact hl1)
      · rw [b104_649 (by rw [wk1 hi4]; omega) (by rw [wk1 hi4, hl]; omega)]
        refine c36 hB h (fun iv1 f1 h1 => ?_)
        have hs : ∀ j, iv1 1000000 j = iv 1000000 j := fun j => f1 1000000 j (by omega)
        have hl1 : iv1 1000001 0 = (Ls : Int) := by rw [f1 1000001 0 (by omega)]; exact hl
        show Ex 104 658 _ [.inl _] _ _ _
        rw [b104_658 (by rw [wk1 hi4]; omega) (by rw [wk1 hi4, hl1]; omega)]
        simp only [hs]
        refine e93 hB hSat (f1.R hm) (fun iv2 f2 h2 => ?_)
        show Ex 104 667 _ [.inl _, .inl _] _ _ _
        rw [b104_667, if_pos rfl]
        exact next iv2 sa sb _ (f2.R h1) h2 (hg) (by rw [f2 1000001 0 (by omega)]; exact hl1)
      · rw [b104_672 (by rw [wk1 hi4]; omega) (by rw [wk1 hi4, hl]; omega), c37 hB h]
        show Ex 104 681 _ [.inl _] _ _ _
        rw [b104_681 (by rw [wk1 hi4]; omega) (by rw [wk1 hi4, hl]; omega), e94 hB hm]
        show Ex 104 690 _ [.inl _, .inl _] _ _ _
        rw [b104_690, if_pos rfl]
        exact next iv sa sb g h hm hg hl
      · rw [b104_695 (by rw [wk1 hi4]; omega) (by rw [wk1 hi4, hl]; omega) (by rw [wk2 hi4]; omega) (by rw [wk2 hi4, hl]; omega)]
        refine c38 hB h (fun iv1 f1 h1 => ?_)
        have hs : ∀ j, iv1 1000000 j = iv 1000000 j := fun j => f1 1000000 j (by omega)
        have hl1 : iv1 1000001 0 = (Ls : Int) := by rw [f1 1000001 0 (by omega)]; exact hl
        show Ex 104 709 _ [.inl _] _ _ _
        rw [b104_709 (by rw [wk1 hi4]; omega) (by rw [wk1 hi4, hl1]; omega) (by rw [wk2 hi4]; omega) (by rw [wk2 hi4, hl1]; omega)]
        simp only [hs]
        refine e95 hB (f1.R hm) (fun iv2 f2 h2 => ?_)
        show Ex 104 723 _ [.inl _, .inl _] _ _ _
        rw [b104_723, if_pos rfl]
        exact next iv2 sa sb _ (f2.R h1) h2 (g_move hg) (by rw [f2 1000001 0 (by omega)]; exact hl1)
      · rw [b104_728 ]
        refine c39 hB h (fun iv1 f1 h1 => ?_)
        have hl1 : iv1 1000001 0 = (Ls : Int) := by rw [f1 1000001 0 (by omega)]; exact hl
        show Ex 104 732 _ [.inl _] _ _ _
        rw [b104_732 ]
        refine e96 hB hSat (f1.R hm) (fun iv2 f2 h2 => ?_)
        show Ex 104 736 _ [.inl _, .inl _] _ _ _
        rw [b104_736, if_pos rfl]
        exact next iv2 sa sb _ (f2.R h1) h2 (g_settle hg) (by rw [f2 1000001 0 (by omega)]; exact hl1)
end LAW
def g00 : Sg := (0, fun _ => 0, fun _ => 0, fun _ => 0, 0, (fun _ _ => 0, fun _ => 0, fun _ => 0, fun _ => 0, fun _ => 0, fun _ => 0))
theorem iv0_z {Ls : Nat} {xs : Nat → Int32} {p j : Nat} (h1 : p ≠ 24) (h2 : p ≠ 45) (h3 : p < 100) : iv0 Ls xs p j = 0 := by
  unfold iv0
  rw [bqf h1, bqf h2, bqf (show p ≠ 1000000 by omega), bqf (show p ≠ 1000001 by omega)]
theorem g00_good : good g00 := by
  have hB : sB g00 := ⟨⟨by show 0 ≤ 5; omega, fun w _ e _ => ⟨by show (-3 : Int) ≤ 0; omega, by show (0 : Int) ≤ 3; omega⟩, fun w _ => by show (0 ≤ (0 : Int) ∧ (0 : Int) ≤ 2) ∧ (0 ≤ (0 : Int) ∧ (0 : Int) ≤ 3) ∧ (0 ≤ (0 : Int) ∧ (0 : Int) ≤ 9) ∧ (-1000 ≤ (0 : Int) ∧ (0 : Int) ≤ 1000); omega, fun e _ => by show -100000 ≤ (0 : Int) ∧ (0 : Int) ≤ 100000; omega⟩, fun e _ => by show -3 ≤ (0 : Int) ∧ (0 : Int) ≤ 3; omega, fun w _ => ⟨Or.inl rfl, Or.inl rfl, fun z => absurd rfl z⟩⟩
  refine ⟨hB, ?_⟩
  unfold sSat
  rw [sat_iff hB.1 (hw_S hB)]
  exact ⟨fun _ => 0, 1, by omega, fun w hw hS => absurd rfl (of_decide_eq_true hS).2.1⟩
theorem hpure (Ls : Nat) (xs : Nat → Int32) (hLs : Ls ≤ 3584) : Ex 104 18 [some (.inr (.inr (some 1000000))), some (.inr (.inr (some 0))), some (.inr (.inr (some 66))), some (.inl 0)] [] (iv0 Ls xs) (RV 24 45) (fun v _ _ => v = some (.inl 1)) := by
  have hz : ∀ p j, p ≠ 24 → p ≠ 45 → p < 100 → iv0 Ls xs p j = 0 := fun p j h1 h2 h3 => iv0_z h1 h2 h3
  have sol : ∀ b, b = 24 ∨ b = 45 → solB (iv0 Ls xs) b := fun b hb => ⟨fun l => by unfold abF beF; rw [hz _ _ (by omega) (by omega) (by omega), hz _ _ (by omega) (by omega) (by omega)]; omega, fun l _ => by rw [hz _ _ (by omega) (by omega) (by omega)]; omega⟩
  refine law_go hLs (fun _ _ => rfl) 4000 0 (by omega) (by omega) (iv0 Ls xs) 24 45 g00 (Rc_un (Or.inl ⟨rfl, rfl⟩) ⟨hz _ _ (by omega) (by omega) (by omega), hz _ _ (by omega) (by omega) (by omega), fun e _ => ⟨hz _ _ (by omega) (by omega) (by omega), hz _ _ (by omega) (by omega) (by omega)⟩, fun w hw => ⟨hz _ _ (by omega) (by omega) (by omega), hz _ _ (by omega) (by omega) (by omega), hz _ _ (by omega) (by omega) (by omega), hz _ _ (by omega) (by omega) (by omega), hz _ _ (by omega) (by omega) (by omega), hz _ _ (by omega) (by omega) (by omega), fun e _ => hz _ _ (by omega) (by omega) (by omega)⟩⟩ (sol 24 (Or.inl rfl)) (sol 45 (Or.inr rfl)) (hz _ _ (by omega) (by omega) (by omega))) ⟨hz _ _ (by omega) (by omega) (by omega), hz _ _ (by omega) (by omega) (by omega), hz _ _ (by omega) (by omega) (by omega), fun e _ => ⟨hz _ _ (by omega) (by omega) (by omega), hz _ _ (by omega) (by omega) (by omega)⟩, fun w hw => ⟨hz _ _ (by omega) (by omega) (by omega), hz _ _ (by omega) (by omega) (by omega), hz _ _ (by omega) (by omega) (by omega), hz _ _ (by omega) (by omega) (by omega), hz _ _ (by omega) (by omega) (by omega), hz _ _ (by omega) (by omega) (by omega), fun e _ => hz _ _ (by omega) (by omega) (by omega)⟩⟩ g00_good iv0_l
