/-! sums and lexicographic signs -/
def sm : Nat → (Nat → Int) → Int
  | 0, _ => 0
  | n + 1, f => sm n f + f n
theorem sm_congr {n : Nat} {f g : Nat → Int} (h : ∀ i, i < n → f i = g i) : sm n f = sm n g := by
  induction n with
  | zero => rfl
  | succ n ih =>
    show sm n f + f n = sm n g + g n
    rw [ih (fun i hi => h i (by omega)), h n (by omega)]
theorem sm_add (n : Nat) (f g : Nat → Int) : sm n (fun i => f i + g i) = sm n f + sm n g := by
  induction n with
  | zero => rfl
  | succ n ih => show sm n _ + (f n + g n) = (sm n f + f n) + (sm n g + g n); rw [ih]; omega
theorem sm_sub (n : Nat) (f g : Nat → Int) : sm n (fun i => f i - g i) = sm n f - sm n g := by
  induction n with
  | zero => rfl
  | succ n ih => show sm n _ + (f n - g n) = (sm n f + f n) - (sm n g + g n); rw [ih]; omega
theorem sm_mul (n : Nat) (c : Int) (f : Nat → Int) : sm n (fun i => c * f i) = c * sm n f := by
  induction n with
  | zero => show (0 : Int) = c * 0; omega
  | succ n ih => show sm n _ + _ = c * (sm n f + f n); rw [ih, Int.mul_add]
theorem sm_mulr (n : Nat) (c : Int) (f : Nat → Int) : sm n (fun i => f i * c) = sm n f * c := by
  induction n with
  | zero => show (0 : Int) = 0 * c; omega
  | succ n ih => show sm n _ + _ = (sm n f + f n) * c; rw [ih, Int.add_mul]
theorem sm_zero (n : Nat) : sm n (fun _ => 0) = 0 := by
  induction n with
  | zero => rfl
  | succ n ih => show sm n _ + 0 = 0; rw [ih]; rfl
theorem sm_0 {n : Nat} {f : Nat → Int} (h : ∀ i, i < n → f i = 0) : sm n f = 0 := by rw [sm_congr h, sm_zero]
theorem sm_swap (n m : Nat) (f : Nat → Nat → Int) : sm n (fun i => sm m (fun j => f i j)) = sm m (fun j => sm n (fun i => f i j)) := by
  induction n with
  | zero => show (0 : Int) = sm m (fun _ => 0); rw [sm_zero]
  | succ n ih => show sm n _ + sm m _ = sm m (fun j => sm n _ + f n j); rw [ih, sm_add]
theorem sm_nn {n : Nat} {f : Nat → Int} (h : ∀ i, i < n → 0 ≤ f i) : 0 ≤ sm n f := by
  induction n with
  | zero => exact Int.le_refl 0
  | succ n ih =>
    have h1 := ih (fun i hi => h i (by omega))
    have h2 := h n (by omega)
    show 0 ≤ sm n f + f n
    omega
theorem sm_le {n : Nat} {f g : Nat → Int} (h : ∀ i, i < n → f i ≤ g i) : sm n f ≤ sm n g := by
  induction n with
  | zero => exact Int.le_refl 0
  | succ n ih =>
    have h1 := ih (fun i hi => h i (by omega))
    have h2 := h n (by omega)
    show sm n f + f n ≤ sm n g + g n
    omega
theorem sm_one {n k : Nat} {f : Nat → Int} (hk : k < n) (h : ∀ i, i < n → i ≠ k → f i = 0) : sm n f = f k := by
  induction n with
  | zero => omega
  | succ n ih =>
    show sm n f + f n = f k
    by_cases e : k = n
    · subst e
      rw [sm_0 (fun i hi => h i (by omega) (by omega))]; omega
    · rw [ih (by omega) (fun i hi hne => h i (by omega) hne), h n (by omega) (fun e2 => e e2.symm)]; omega
theorem sm_out {n : Nat} {f : Nat → Int} (k : Nat) (hk : k < n) : sm n f = f k + sm n (fun i => if i = k then 0 else f i) := by
  have h : sm n f = sm n (fun i => (if i = k then f i else 0) + (if i = k then 0 else f i)) := sm_congr (fun i _ => by by_cases e : i = k <;> simp [e])
  rw [h, sm_add, sm_one hk (fun i _ hne => by simp [hne])]
  simp
theorem sm_le1 {n k : Nat} {f : Nat → Int} (hk : k < n) (h : ∀ i, i < n → 0 ≤ f i) : f k ≤ sm n f := by
  rw [sm_out k hk]
  have := sm_nn (n := n) (f := fun i => if i = k then 0 else f i) (fun i hi => by by_cases e : i = k <;> simp [e]; exact h i hi)
  omega
theorem sm_abs {n : Nat} {f g : Nat → Int} (h : ∀ i, i < n → -(g i) ≤ f i ∧ f i ≤ g i) : -(sm n g) ≤ sm n f ∧ sm n f ≤ sm n g := by
  induction n with
  | zero => exact ⟨Int.le_refl 0, Int.le_refl 0⟩
  | succ n ih =>
    have h1 := ih (fun i hi => h i (by omega))
    have h2 := h n (by omega)
    show -(sm n g + g n) ≤ sm n f + f n ∧ sm n f + f n ≤ sm n g + g n
    omega
/-- lexicographically at least 0, below 0: of the first K numbers -/
def lxn : Nat → (Nat → Int) → Prop
  | 0, _ => True
  | K + 1, v => 0 < v 0 ∨ (v 0 = 0 ∧ lxn K (fun l => v (l + 1)))
def lng : Nat → (Nat → Int) → Prop
  | 0, _ => False
  | K + 1, v => v 0 < 0 ∨ (v 0 = 0 ∧ lng K (fun l => v (l + 1)))
theorem lxn_or (K : Nat) : ∀ v : Nat → Int, lxn K v ∨ lng K v := by
  induction K with
  | zero => intro v; exact Or.inl trivial
  | succ K ih =>
    intro v
    rcases Int.lt_trichotomy (v 0) 0 with h | h | h
    · exact Or.inr (Or.inl h)
    · rcases ih (fun l => v (l + 1)) with g | g
      · exact Or.inl (Or.inr ⟨h, g⟩)
      · exact Or.inr (Or.inr ⟨h, g⟩)
    · exact Or.inl (Or.inl h)
theorem lxn_not (K : Nat) : ∀ v : Nat → Int, lxn K v → lng K v → False := by
  induction K with
  | zero => intro v _ h; exact h
  | succ K ih =>
    intro v h g
    rcases h with h | ⟨h, h2⟩ <;> rcases g with g | ⟨g, g2⟩
    · omega
    · omega
    · omega
    · exact ih _ h2 g2
theorem lxn_of {K : Nat} {v : Nat → Int} (h : ¬ lng K v) : lxn K v := (lxn_or K v).elim id (fun g => absurd g h)
theorem lxn_congr {K : Nat} : ∀ {v w : Nat → Int}, (∀ l, l < K → v l = w l) → lxn K v → lxn K w := by
  induction K with
  | zero => intro v w _ _; trivial
  | succ K ih =>
    intro v w h hv
    rcases hv with hv | ⟨hv, hv2⟩
    · exact Or.inl (by rw [← h 0 (by omega)]; exact hv)
    · exact Or.inr ⟨by rw [← h 0 (by omega)]; exact hv, ih (fun l hl => h (l + 1) (by omega)) hv2⟩
theorem lng_congr {K : Nat} : ∀ {v w : Nat → Int}, (∀ l, l < K → v l = w l) → lng K v → lng K w := by
  induction K with
  | zero => intro v w _ h; exact h
  | succ K ih =>
    intro v w h hv
    rcases hv with hv | ⟨hv, hv2⟩
    · exact Or.inl (by rw [← h 0 (by omega)]; exact hv)
    · exact Or.inr ⟨by rw [← h 0 (by omega)]; exact hv, ih (fun l hl => h (l + 1) (by omega)) hv2⟩
theorem lxn_nn {K : Nat} : ∀ {v : Nat → Int}, (∀ l, l < K → 0 ≤ v l) → lxn K v := by
  induction K with
  | zero => intro v _; trivial
  | succ K ih =>
    intro v h
    have h0 := h 0 (by omega)
    by_cases e : v 0 = 0
    · exact Or.inr ⟨e, ih (fun l hl => h (l + 1) (by omega))⟩
    · exact Or.inl (by omega)
theorem lxn_add {K : Nat} : ∀ {v w : Nat → Int}, lxn K v → lxn K w → lxn K (fun l => v l + w l) := by
  induction K with
  | zero => intro v w _ _; trivial
  | succ K ih =>
    intro v w hv hw
    rcases hv with hv | ⟨hv, hv2⟩ <;> rcases hw with hw | ⟨hw, hw2⟩
    · exact Or.inl (by show 0 < v 0 + w 0; omega)
    · exact Or.inl (by show 0 < v 0 + w 0; omega)
    · exact Or.inl (by show 0 < v 0 + w 0; omega)
    · exact Or.inr ⟨by show v 0 + w 0 = 0; omega, ih hv2 hw2⟩
theorem lxn_mul {K : Nat} {c : Int} (hc : 0 ≤ c) : ∀ {v : Nat → Int}, lxn K v → lxn K (fun l => c * v l) := by
  induction K with
  | zero => intro v _; trivial
  | succ K ih =>
    intro v hv
    by_cases e : c = 0
    · subst e; exact lxn_nn (fun l _ => by omega)
    · rcases hv with hv | ⟨hv, hv2⟩
      · exact Or.inl (Int.mul_pos (by omega) hv)
      · exact Or.inr ⟨by show c * v 0 = 0; rw [hv, Int.mul_zero], ih hv2⟩
theorem lxn_sm {K n : Nat} {v : Nat → Nat → Int} (h : ∀ i, i < n → lxn K (v i)) : lxn K (fun l => sm n (fun i => v i l)) := by
  induction n with
  | zero => exact lxn_nn (fun l _ => Int.le_refl 0)
  | succ n ih => exact lxn_add (ih (fun i hi => h i (by omega))) (h n (by omega))
theorem lng_neg {K : Nat} : ∀ {v : Nat → Int}, lng K v → lxn K (fun l => -(v l)) := by
  induction K with
  | zero => intro v h; exact absurd h id
  | succ K ih =>
    intro v h
    rcases h with h | ⟨h, h2⟩
    · exact Or.inl (by show 0 < -(v 0); omega)
    · exact Or.inr ⟨by show -(v 0) = 0; omega, ih h2⟩
/-- below 0 stays so under a positive factor, and with what is at most 0 -/
theorem lng_mul {K : Nat} {c : Int} (hc : 0 < c) : ∀ {v : Nat → Int}, lng K v → lng K (fun l => c * v l) := by
  induction K with
  | zero => intro v h; exact h
  | succ K ih =>
    intro v hv
    rcases hv with hv | ⟨hv, hv2⟩
    · exact Or.inl (by show c * v 0 < 0; exact Int.mul_neg_of_pos_of_neg hc hv)
    · exact Or.inr ⟨by show c * v 0 = 0; rw [hv, Int.mul_zero], ih hv2⟩
theorem lng_div {K : Nat} {c : Int} (hc : 0 < c) : ∀ {v : Nat → Int}, lng K (fun l => c * v l) → lng K v := by
  intro v h
  rcases lxn_or K v with g | g
  · exact absurd h (fun h => lxn_not K _ (lxn_mul (Int.le_of_lt hc) g) h)
  · exact g
theorem lxn_z {K : Nat} : ∀ {v : Nat → Int}, lxn K v → (∀ l, l < K → v l ≤ 0) → ∀ l, l < K → v l = 0 := by
  induction K with
  | zero => intro v _ _ l hl; omega
  | succ K ih =>
    intro v h hle l hl
    rcases h with h | ⟨h, h2⟩
    · have := hle 0 (by omega); omega
    · cases l with
      | zero => exact h
      | succ l => exact ih h2 (fun l hl => hle (l + 1) (by omega)) l (by omega)
