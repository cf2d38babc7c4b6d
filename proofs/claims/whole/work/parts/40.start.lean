def iv0 (Ls : Nat) (xs : Nat → Int32) : mIv := fun p j => match Nat.beq p 24, Nat.beq p 45, Nat.beq p 1000000, Nat.beq p 1000001 with
  | true, _, _, _ => if j = 0 then 1 else 0
  | _, true, _, _ => if j = 0 then 1 else 0
  | _, _, true, _ => (xs j).toInt
  | _, _, _, true => (Ls : Int)
  | _, _, _, _ => 0
theorem iv0_ok {Ls : Nat} {xs : Nat → Int32} (h : Ls ≤ 3584) : okh (iv0 Ls xs) := by
  intro p j
  have h1 : okI (iv0 Ls xs p j) := by
    unfold iv0
    split
    · split <;> (unfold okI; omega)
    · split <;> (unfold okI; omega)
    · exact okI_toInt _
    · unfold okI; omega
    · unfold okI; omega
  exact ⟨fun _ => okI_J h1, fun _ => h1⟩
theorem iv0_s {Ls : Nat} {xs : Nat → Int32} (j : Nat) : iv0 Ls xs 1000000 j = (xs j).toInt := rfl
theorem iv0_l {Ls : Nat} {xs : Nat → Int32} : iv0 Ls xs 1000001 0 = (Ls : Int) := rfl
theorem cls_of {s : State} {args : Array Value} {ty : FieldType} (hp : ty.isReference = false) (h : (Cond.arrayClass ty).before args s = true) : ∃ cA : ClassId, ArrOfT s cA ty ∧ va_RA s cA ty := by
  obtain ⟨cA, kA, comp, h1, h2, h3⟩ := Cond.arrayClass_spec h
  refine ⟨cA, fun n z => ⟨fun k h => (by cases h), kA, h2, comp, h3⟩, ?_⟩
  cases ty <;> first | exact h1 | cases hp
theorem va_setq {D : va_G} {cl : List vw_C} {A : Nat → Prop} {ws : va_W} {H : Heap} {k a : Nat} {cA : ClassId} {f : Nat → Option Nat} (g : Nat → Option Nat) (hP : va_P D cl ws H) (hD : va_D A ws) (hk : ws[k]? = some (a, .inl (cA, 9, .inr (.inr (.inr (.inr f)))))) (hfg : ∀ i, i < 9 → f i = g i) : va_P D cl (ws.set k (a, .inl (cA, 9, .inr (.inr (.inr (.inr g)))))) H ∧ va_D A (ws.set k (a, .inl (cA, 9, .inr (.inr (.inr (.inr g)))))) := by
  refine ⟨hP.set hD hk ?_ (fun q _ => rfl), hD.set hk⟩
  have h := hP k _ hk
  show H[a]? = some (vp_cell cA (9, .inr (.inr (.inr (.inr g)))))
  rw [show H[a]? = some (vp_cell cA (9, .inr (.inr (.inr (.inr f))))) from h, vp_cell_q, vp_cell_q]
  congr 1
  unfold arrV
  congr 1
  apply Array.ext
  · simp
  · intro i h1 h2
    simp at h1 ⊢
    rw [hfg i h1]
