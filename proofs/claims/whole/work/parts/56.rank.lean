/-! few tableaux: their number out of the columns and the sides above the least column's line -/
def vv : Nat → Nat → Nat
  | _, 0 => 1
  | 0, _ + 1 => 0
  | k + 1, n + 1 => vv k n + 2 * vv k (n + 1)
def rk : Nat → Nat → (Nat → Nat) → Nat
  | _, 0, _ => 0
  | 0, _ + 1, _ => 0
  | k + 1, n + 1, st => if st k = 0 then rk k n st else if st k = 1 then vv k n + rk k (n + 1) st else vv k n + vv k (n + 1) + rk k (n + 1) st
/-- how many columns there are below k -/
def nc : Nat → (Nat → Nat) → Nat
  | 0, _ => 0
  | k + 1, st => nc k st + if st k = 0 then 1 else 0
theorem rk_lt (st : Nat → Nat) : ∀ k n, nc k st = n → rk k n st < vv k n := by
  intro k
  induction k with
  | zero =>
    intro n h
    cases n with
    | zero => unfold rk vv; omega
    | succ n => exact absurd h (by unfold nc; omega)
  | succ k ih =>
    intro n h
    cases n with
    | zero => unfold rk vv; omega
    | succ n =>
      unfold nc at h
      rw [show vv (k + 1) (n + 1) = vv k n + 2 * vv k (n + 1) from rfl, show rk (k + 1) (n + 1) st = (if st k = 0 then rk k n st else if st k = 1 then vv k n + rk k (n + 1) st else vv k n + vv k (n + 1) + rk k (n + 1) st) from rfl]
      by_cases h0 : st k = 0
      · rw [if_pos h0] at h ⊢
        have := ih n (by omega)
        omega
      · rw [if_neg h0] at h ⊢
        have := ih (n + 1) (by omega)
        by_cases h1 : st k = 1
        · rw [if_pos h1]; omega
        · rw [if_neg h1]; omega
theorem nc_0 {st : Nat → Nat} : ∀ {k : Nat}, nc k st = 0 → ∀ l, l < k → st l ≠ 0 := by
  intro k
  induction k with
  | zero => intro _ l hl; omega
  | succ k ih =>
    intro h l hl
    unfold nc at h
    by_cases e : l = k
    · subst e
      intro z
      rw [if_pos z] at h
      omega
    · exact ih (by omega) l (by omega)
theorem rk_inj (st st' : Nat → Nat) (h3 : ∀ l, st l < 3) (h3' : ∀ l, st' l < 3) : ∀ k n, nc k st = n → nc k st' = n → rk k n st = rk k n st' → ∃ u, u ≤ k ∧ (∀ l, u ≤ l → l < k → st l = st' l) ∧ (∀ l, l < u → st l ≠ 0 ∧ st' l ≠ 0) := by
  intro k
  induction k with
  | zero => intro n _ _ _; exact ⟨0, Nat.le_refl _, fun l _ h => by omega, fun l h => by omega⟩
  | succ k ih =>
    intro n h h' e
    cases n with
    | zero => exact ⟨k + 1, Nat.le_refl _, fun l h1 h2 => by omega, fun l hl => ⟨nc_0 h l hl, nc_0 h' l hl⟩⟩
    | succ n =>
      unfold nc at h h'
      unfold rk at e
      have a := h3 k
      have a' := h3' k
      have fin : ∀ n, nc k st = n → nc k st' = n → rk k n st = rk k n st' → st k = st' k → ∃ u, u ≤ k + 1 ∧ (∀ l, u ≤ l → l < k + 1 → st l = st' l) ∧ (∀ l, l < u → st l ≠ 0 ∧ st' l ≠ 0) := fun n g1 g2 g3 g4 => by
        obtain ⟨u, u1, u2, u3⟩ := ih n g1 g2 g3
        refine ⟨u, by omega, fun l h1 h2 => ?_, u3⟩
        by_cases el : l = k
        · rw [el]; exact g4
        · exact u2 l h1 (by omega)
      by_cases z : st k = 0 <;> by_cases z' : st' k = 0
      · rw [if_pos z] at h e
        rw [if_pos z'] at h' e
        exact fin n (by omega) (by omega) e (by omega)
      · rw [if_pos z] at h e
        rw [if_neg z'] at h' e
        have := rk_lt st k n (by omega)
        split at e <;> omega
      · rw [if_neg z] at h e
        rw [if_pos z'] at h' e
        have := rk_lt st' k n (by omega)
        split at e <;> omega
      · rw [if_neg z] at h e
        rw [if_neg z'] at h' e
        have b1 := rk_lt st k (n + 1) (by omega)
        have b2 := rk_lt st' k (n + 1) (by omega)
        by_cases y : st k = 1 <;> by_cases y' : st' k = 1
        · rw [if_pos y, if_pos y'] at e
          exact fin (n + 1) (by omega) (by omega) (by omega) (by omega)
        · rw [if_pos y, if_neg y'] at e
          omega
        · rw [if_neg y, if_pos y'] at e
          omega
        · rw [if_neg y, if_neg y'] at e
          exact fin (n + 1) (by omega) (by omega) (by omega) (by omega)
theorem vv_14 : vv 14 0 < 600000 ∧ vv 14 1 < 600000 ∧ vv 14 2 < 600000 ∧ vv 14 3 < 600000 ∧ vv 14 4 < 600000 ∧ vv 14 5 < 600000 := by decide +kernel
/-- more letters than boxes -/
theorem pigeon : ∀ (N : Nat) (f : Nat → Nat), (∀ i, i ≤ N → f i < N) → ∃ i j, i < j ∧ j ≤ N ∧ f i = f j := by
  intro N
  induction N with
  | zero => intro f h; have := h 0 (Nat.le_refl 0); omega
  | succ N ih =>
    intro f h
    by_cases hx : ∃ i, i < N + 1 ∧ f i = f (N + 1)
    · obtain ⟨i, hi, e⟩ := hx
      exact ⟨i, N + 1, hi, Nat.le_refl _, e⟩
    · -- the last one's box is used by none before: fill it with the last box's letters
      have hne : ∀ i, i < N + 1 → f i ≠ f (N + 1) := fun i hi e => hx ⟨i, hi, e⟩
      have hl := h (N + 1) (Nat.le_refl _)
      obtain ⟨i, j, hij, hj, e⟩ := ih (fun i => if f i = N then f (N + 1) else f i) (fun i hi => by
        have h1 := h i (by omega)
        have h2 := hne i (by omega)
        by_cases z : f i = N
        · simp only [if_pos z]; omega
        · simp only [if_neg z]; omega)
      refine ⟨i, j, hij, by omega, ?_⟩
      have h1 := hne i (by omega)
      have h2 := hne j (by omega)
      by_cases z : f i = N <;> by_cases z' : f j = N
      · omega
      · simp only [if_pos z, if_neg z'] at e; omega
      · simp only [if_neg z, if_pos z'] at e; omega
      · simp only [if_neg z, if_neg z'] at e; exact e
