/-! walks end -/
abbrev Dc : Type := (Nat → Nat) × (Nat → Nat) × Int × (Nat → Nat → Int) × (Nat → Int) × (Nat → Int)
def DI (A : Nat → Nat → Int) (K : Nat → Int) (n m : Nat) (P : Nat → Bool) (D : Dc) : Prop := TI A K n m D.1 D.2.1 D.2.2.1 D.2.2.2.1 D.2.2.2.2.1 ∧ prt n m D.1 D.2.1 P ∧ (∀ i, i < m → D.2.2.2.2.2 i = 1 ∨ D.2.2.2.2.2 i = -1) ∧ (∀ i, i < m → 0 ≤ D.2.2.2.2.2 i * D.2.2.2.2.1 i)
/-- the way that comes in -/
def ent (ab be : Nat → Int) (lev : Nat → Nat) (n m Kl : Nat) (D : Dc) (q : Nat) (w : Int) : Prop := q < n ∧ (w = 1 ∨ w = -1) ∧ lng Kl (chg ab be lev D.1 D.2.1 m D.2.2.1 D.2.2.2.1 D.2.2.2.2.2 q w) ∧ ∀ j, j < n → ∀ v : Int, (v = 1 ∨ v = -1) → vcode (D.1 j) v < vcode (D.1 q) w → lxn Kl (chg ab be lev D.1 D.2.1 m D.2.2.1 D.2.2.2.1 D.2.2.2.2.2 j v)
/-- a step that does not move -/
def dg (ab be : Nat → Int) (lev : Nat → Nat) (n m Kl : Nat) (D D' : Dc) (q : Nat) (w : Int) (r : Nat) : Prop := ent ab be lev n m Kl D q w ∧ r < m ∧ D.2.2.2.2.1 r = 0 ∧ D.2.2.2.2.2 r * (w * D.2.2.2.1 r q) < 0 ∧ (∀ i, i < m → D.2.2.2.2.1 i = 0 → D.2.2.2.2.2 i * (w * D.2.2.2.1 i q) < 0 → D.2.1 r ≤ D.2.1 i) ∧ (∀ j, j < n → D'.1 j = upn D.1 q (D.2.1 r) j) ∧ (∀ i, i < m → D'.2.1 i = upn D.2.1 r (D.1 q) i) ∧ (∀ i, i < m → D'.2.2.2.2.2 i = if i = r then w else D.2.2.2.2.2 i)
def vtx (A : Nat → Nat → Int) (K : Nat → Int) (n : Nat) (D : Dc) (X : Nat → Int) (q : Int) : Prop := ∀ j, j < n → gp A K (D.1 j) X q = 0
/-- a step that betters the cost -/
def bet (A : Nat → Nat → Int) (K ab be : Nat → Int) (lev : Nat → Nat) (P : Nat → Bool) (n Kl : Nat) (D D' : Dc) : Prop := ∀ X X', vtx A K n D X D.2.2.1 → vtx A K n D' X' D'.2.2.1 → lng Kl (fun L => D.2.2.1 * tot A K ab be lev P L X' D'.2.2.1 - D'.2.2.1 * tot A K ab be lev P L X D.2.2.1)
theorem vcode_inj {l k : Nat} {v w : Int} (hv : v = 1 ∨ v = -1) (hw : w = 1 ∨ w = -1) (h : vcode l v = vcode k w) : l = k ∧ v = w := by
  unfold vcode at h
  rcases hv with rfl | rfl <;> rcases hw with rfl | rfl <;> simp at h ⊢ <;> omega
section WLK
variable {A : Nat → Nat → Int} {K ab be : Nat → Int} {lev : Nat → Nat} {P : Nat → Bool} {n m Kl : Nat}
theorem same_pt {D : Dc} (hn : n ≤ 5) (hF : ∀ l, l < 14 → P l = true → flat A n l) (hD : DI A K n m P D) {X X' : Nat → Int} {q q' : Int} (h1 : vtx A K n D X q) (h2 : vtx A K n D X' q') {l : Nat} (hl : l < 14) (hP : P l = true) : q' * gp A K l X q = q * gp A K l X' q' := by
  obtain ⟨hT, hp, hs, hg⟩ := hD
  have fc : ∀ j, j < n → flat A n (D.1 j) := fun j hj => hF _ (hp.1 j hj).1 (hp.1 j hj).2
  rcases hp.2.2.2.2.2 l hl hP with ⟨j, hj, e⟩ | ⟨i, hi, e⟩
  · rw [← e, h1 j hj, h2 j hj]; omega
  · have fr := hF _ (hp.2.1 i hi).1 (hp.2.1 i hi).2
    have a1 := hT.gap hn fc hi fr X q
    have a2 := hT.gap hn fc hi fr X' q'
    rw [sm_0 (fun j hj => by rw [h1 j hj, Int.mul_zero]), Int.add_zero] at a1
    rw [sm_0 (fun j hj => by rw [h2 j hj, Int.mul_zero]), Int.add_zero] at a2
    have hd := hT.pos
    apply Int.eq_of_mul_eq_mul_left (show D.2.2.1 ≠ 0 by omega)
    rw [← e]
    grind
theorem same_tot {X X' : Nat → Int} {q q' : Int} (hq : 0 ≤ q) (hq' : 0 ≤ q') (h : ∀ l, l < 14 → P l = true → q' * gp A K l X q = q * gp A K l X' q') (L : Nat) : q' * tot A K ab be lev P L X q = q * tot A K ab be lev P L X' q' := by
  unfold tot
  rw [← sm_mul, ← sm_mul]
  apply sm_congr
  intro l hl
  rw [← ind_mul, ← ind_mul]
  unfold ind
  by_cases e : P l = true ∧ lev l = L
  · rw [if_pos e, if_pos e, ← lcst_mul hq', ← lcst_mul hq, h l hl e.1]
  · rw [if_neg e, if_neg e]
theorem dg_vtx {D D' : Dc} {q r : Nat} {w : Int} (hn : n ≤ 5) (hF : ∀ l, l < 14 → P l = true → flat A n l) (hD : DI A K n m P D) (h : dg ab be lev n m Kl D D' q w r) {X : Nat → Int} {xq : Int} (hX : vtx A K n D X xq) : vtx A K n D' X xq := by
  obtain ⟨hT, hp, hs, hg⟩ := hD
  have fc : ∀ j, j < n → flat A n (D.1 j) := fun j hj => hF _ (hp.1 j hj).1 (hp.1 j hj).2
  intro j hj
  rw [h.2.2.2.2.2.1 j hj]
  unfold upn
  by_cases e : j = q
  · rw [if_pos e]
    have hr := h.2.1
    have a1 := hT.gap hn fc hr (hF _ (hp.2.1 r hr).1 (hp.2.1 r hr).2) X xq
    rw [sm_0 (fun j hj => by rw [hX j hj, Int.mul_zero]), Int.add_zero, h.2.2.1, Int.zero_mul] at a1
    have hd := hT.pos
    rcases Int.mul_eq_zero.mp a1 with z | z
    · omega
    · exact z
  · rw [if_neg e]; exact hX j hj
def bas (m : Nat) (D : Dc) (l : Nat) (s : Int) : Prop := ∃ i, i < m ∧ D.2.1 i = l ∧ D.2.2.2.2.2 i = s
theorem dg_bas {D D' : Dc} {q r : Nat} {w : Int} (hD : DI A K n m P D) (h : dg ab be lev n m Kl D D' q w r) (l : Nat) (s : Int) : bas m D' l s ↔ (l = D.1 q ∧ s = w) ∨ (bas m D l s ∧ l ≠ D.2.1 r) := by
  obtain ⟨hE, hr, h0, hsp, hb, hc, hl, hs⟩ := h
  constructor
  · rintro ⟨i, hi, e1, e2⟩
    rw [hl i hi] at e1
    rw [hs i hi] at e2
    unfold upn at e1
    by_cases e : i = r
    · rw [if_pos e] at e1 e2; exact Or.inl ⟨e1.symm, e2.symm⟩
    · rw [if_neg e] at e1 e2
      exact Or.inr ⟨⟨i, hi, e1, e2⟩, fun z => e (hD.2.1.2.2.2.1 i r hi hr (e1.trans z))⟩
  · rintro (⟨e1, e2⟩ | ⟨⟨i, hi, e1, e2⟩, hne⟩)
    · refine ⟨r, hr, ?_, ?_⟩
      · rw [hl r hr]; unfold upn; rw [if_pos rfl, e1]
      · rw [hs r hr, if_pos rfl, e2]
    · have e : i ≠ r := fun z => hne (by rw [← e1, z])
      refine ⟨i, hi, ?_, ?_⟩
      · rw [hl i hi]; unfold upn; rw [if_neg e, e1]
      · rw [hs i hi, if_neg e, e2]
/-- a column, a row above or not there, a row below -/
def stf (n m : Nat) (D : Dc) (l : Nat) : Nat := if (List.range n).any (fun j => Nat.beq (D.1 j) l) = true then 0 else if (List.range m).any (fun i => Nat.beq (D.2.1 i) l && decide (D.2.2.2.2.2 i < 0)) = true then 2 else 1
theorem stf_3 (D : Dc) (l : Nat) : stf n m D l < 3 := by unfold stf; split <;> (try split) <;> omega
theorem stf_c (D : Dc) (l : Nat) : stf n m D l = 0 ↔ ∃ j, j < n ∧ D.1 j = l := by
  unfold stf
  constructor
  · intro h
    split at h
    · rename_i ha
      obtain ⟨j, hj, e⟩ := List.any_eq_true.mp ha
      exact ⟨j, List.mem_range.mp hj, bq e⟩
    · split at h <;> omega
  · rintro ⟨j, hj, e⟩
    rw [if_pos]
    exact List.any_eq_true.mpr ⟨j, List.mem_range.mpr hj, by rw [e]; exact Nat.beq_refl l⟩
theorem stf_m {D : Dc} (hD : DI A K n m P D) (l : Nat) : stf n m D l = 2 ↔ bas m D l (-1) := by
  constructor
  · intro h
    unfold stf at h
    split at h
    · omega
    · split at h
      · rename_i ha
        obtain ⟨i, hi, e⟩ := List.any_eq_true.mp ha
        have e2 := Bool.and_eq_true_iff.mp e
        have hi' := List.mem_range.mp hi
        refine ⟨i, hi', bq e2.1, ?_⟩
        have := of_decide_eq_true e2.2
        rcases hD.2.2.1 i hi' with z | z
        · omega
        · exact z
      · omega
  · rintro ⟨i, hi, e1, e2⟩
    have hnc : ¬ stf n m D l = 0 := fun z => by
      obtain ⟨j, hj, e⟩ := (stf_c D l).mp z
      exact hD.2.1.2.2.2.2.1 i j hi hj (e1.trans e.symm)
    unfold stf at hnc ⊢
    split
    · rename_i ha
      rw [if_pos ha] at hnc
      exact absurd rfl hnc
    · rw [if_pos]
      exact List.any_eq_true.mpr ⟨i, List.mem_range.mpr hi, by rw [e1, e2]; simp⟩
theorem nc_sm (k : Nat) (st : Nat → Nat) : (nc k st : Int) = sm k (fun l => if st l = 0 then 1 else 0) := by
  induction k with
  | zero => rfl
  | succ k ih =>
    show ((nc k st + if st k = 0 then 1 else 0 : Nat) : Int) = sm k _ + _
    rw [← ih]
    by_cases e : st k = 0
    · simp [e]
    · simp [e]
theorem sm_const (n : Nat) : sm n (fun _ => 1) = n := by
  induction n with
  | zero => rfl
  | succ n ih => show sm n _ + 1 = _; rw [ih]; omega
theorem stf_n {D : Dc} (hD : DI A K n m P D) : nc 14 (stf n m D) = n := by
  have hp := hD.2.1
  have : (nc 14 (stf n m D) : Int) = n := by
    rw [nc_sm]
    have e1 : sm 14 (fun l => if stf n m D l = 0 then 1 else 0) = sm 14 (fun l => sm n (fun j => if D.1 j = l then 1 else 0)) := sm_congr (fun l _ => by
      by_cases e : stf n m D l = 0
      · obtain ⟨j, hj, e2⟩ := (stf_c D l).mp e
        rw [if_pos e, sm_one hj (fun k hk hne => by rw [if_neg (fun z => hne (hp.2.2.1 k j hk hj (z.trans e2.symm)))]), if_pos e2]
      · rw [if_neg e, sm_0 (fun j hj => by rw [if_neg (fun z => e ((stf_c D l).mpr ⟨j, hj, z⟩))])])
    rw [e1, sm_swap, sm_congr (g := fun _ => 1) (fun j hj => by
      rw [sm_one (k := D.1 j) (hp.1 j hj).1 (fun l _ hne => by rw [if_neg (fun z => hne z.symm)]), if_pos rfl]), sm_const]
  omega
theorem top_of {Q : Nat → Prop} (N : Nat) (hb : ∀ c, Q c → c < N) (h : ∃ c, Q c) : ∃ c, Q c ∧ ∀ e, Q e → e ≤ c := by
  induction N with
  | zero => obtain ⟨c, hc⟩ := h; have := hb c hc; omega
  | succ N ih =>
    by_cases hN : Q N
    · exact ⟨N, hN, fun e he => by have := hb e he; omega⟩
    · exact ih (fun c hc => by have := hb c hc; have : c ≠ N := fun z => hN (z ▸ hc); omega)
end WLK
