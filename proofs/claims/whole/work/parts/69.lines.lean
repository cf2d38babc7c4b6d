/-! a run cannot end nowhere; the lines of a set of wishes -/
theorem mbr_const {i : Instr} {n pc : Nat} {st st' : List mV} {bs : List (Prop × Nat)} (h : mbr i n pc st = some (bs, st')) {X : Prop} (hb : mball bs (fun _ => X)) : X := by
  unfold mbr at h
  split at h
  · split at h
    · split at h
      · cases h
        exact Classical.byCases (fun c => hb.1 c) (fun c => hb.2.1 c)
      · cases h
    · cases h
  · split at h
    · split at h
      · cases h
        exact Classical.byCases (fun c => hb.1 c) (fun c => hb.2.1 c)
      · cases h
    · cases h
  · rename_i d lo hi offs
    split at h
    · rename_i x r
      split at h
      · rename_i t bs2 ht hbs
        split at h
        · rename_i hhi _
          cases h
          by_cases hout : x < lo ∨ hi < x
          · exact hb.1 hout
          · have h1 : ¬ x < lo := fun z => hout (Or.inl z)
            have h2 : ¬ hi < x := fun z => hout (Or.inr z)
            have hj : (x - lo).toNat < offs.toList.length := by omega
            obtain ⟨tg, e1, e2⟩ := mtb_get hbs hb.2 (x - lo).toNat (by omega) (List.getElem?_eq_getElem hj)
            exact e2
        · cases h
      · cases h
    · cases h
  · cases h
theorem mex_false : ∀ (n M pc : Nat) (L : mL) (st : List mV) (iv : mIv) (rv : mRv), ¬ mex n M pc L st iv rv (fun _ _ _ => False) := by
  intro n
  induction n with
  | zero => intro M pc L st iv rv h; exact absurd h (by unfold mex; exact id)
  | succ n IH =>
    intro M pc L st iv rv h
    unfold mex at h
    split at h
    · exact h
    · split at h
      · exact IH _ _ _ _ _ _ (mconj_of h).2
      · split at h
        · rename_i hbr
          exact mbr_const hbr (mball_mono (fun t ht => IH _ _ _ _ _ _ ht) h)
        · split at h
          · exact IH _ _ _ _ _ _ (mex_mono _ _ _ _ _ _ _ _ _ (fun v i r ht => IH _ _ _ _ _ _ ht) 0 (mconj_of h).2)
          · split at h
            · exact (mconj_of h).2
            · exact h
/-- what follows from every end of a run is so -/
theorem Ex.out {M pc : Nat} {L : mL} {st : List mV} {iv : mIv} {rv : mRv} {X : Prop} (h : Ex M pc L st iv rv (fun _ _ _ => X)) : X := by
  apply Classical.byContradiction
  intro hX
  obtain ⟨n, h⟩ := Ex.mono (Q' := fun _ _ _ => False) (fun _ _ _ z => hX z) h
  exact mex_false n _ _ _ _ _ _ h
def lA (n : Nat) (S : Nat → Bool) (fa : Nat → Nat → Int) (l t : Nat) : Int := if l < 9 then (if S l = true ∧ t < n then fa l t else 0) else if l - 9 < n ∧ t = l - 9 then 1 else 0
def lK (n : Nat) (S : Nat → Bool) (nu st : Nat → Int) (l : Nat) : Int := if l < 9 then (if S l = true then nu l else 0) else if l - 9 < n then st (l - 9) else 0
def lab (n : Nat) (S : Nat → Bool) (re we : Nat → Int) (l : Nat) : Int := if l < 9 then (if S l = true ∧ re l ≠ 2 then we l else 0) else if l - 9 < n then 1 else 0
def lbe (n : Nat) (S : Nat → Bool) (re we : Nat → Int) (l : Nat) : Int := if l < 9 then (if S l = true ∧ re l ≠ 1 then we l else 0) else if l - 9 < n then 1 else 0
def llv (S : Nat → Bool) (le : Nat → Int) (l : Nat) : Nat := if l < 9 then (if S l = true then (le l).toNat else 0) else l - 5
def lP (n : Nat) (S : Nat → Bool) (l : Nat) : Bool := if l < 9 then S l else decide (l - 9 < n)
/-- factors, relations, levels, weights, numbers; stays -/
abbrev Cg : Type := (Nat → Nat → Int) × (Nat → Int) × (Nat → Int) × (Nat → Int) × (Nat → Int) × (Nat → Int)
def cA (c : Cg) (n : Nat) (S : Nat → Bool) : Nat → Nat → Int := lA n S c.1
def cK (c : Cg) (n : Nat) (S : Nat → Bool) : Nat → Int := lK n S c.2.2.2.2.1 c.2.2.2.2.2
def cab (c : Cg) (n : Nat) (S : Nat → Bool) : Nat → Int := lab n S c.2.1 c.2.2.2.1
def cbe (c : Cg) (n : Nat) (S : Nat → Bool) : Nat → Int := lbe n S c.2.1 c.2.2.2.1
def clv (c : Cg) (S : Nat → Bool) : Nat → Nat := llv S c.2.2.1
def cT (c : Cg) (n : Nat) (S : Nat → Bool) (L : Nat) (X : Nat → Int) (q : Int) : Int := tot (cA c n S) (cK c n S) (cab c n S) (cbe c n S) (clv c S) (lP n S) L X q
def cOpt (c : Cg) (n : Nat) (S : Nat → Bool) (Kl : Nat) (X : Nat → Int) (d : Int) : Prop := 0 < d ∧ ∀ (Y : Nat → Int) (r : Int), 0 < r → lxn Kl (fun L => d * cT c n S L Y r - r * cT c n S L X d)
def cSat (c : Cg) (n : Nat) (S : Nat → Bool) : Prop := ∃ (Y : Nat → Int) (r : Int), 0 < r ∧ cT c n S 0 Y r = 0
def cB (c : Cg) (n : Nat) : Prop := n ≤ 5 ∧ (∀ w, w < 9 → ∀ e, e < 5 → -3 ≤ c.1 w e ∧ c.1 w e ≤ 3) ∧ (∀ w, w < 9 → (0 ≤ c.2.1 w ∧ c.2.1 w ≤ 2) ∧ (0 ≤ c.2.2.1 w ∧ c.2.2.1 w ≤ 3) ∧ (0 ≤ c.2.2.2.1 w ∧ c.2.2.2.1 w ≤ 9) ∧ (-1000 ≤ c.2.2.2.2.1 w ∧ c.2.2.2.2.1 w ≤ 1000)) ∧ ∀ e, e < 5 → -100000 ≤ c.2.2.2.2.2 e ∧ c.2.2.2.2.2 e ≤ 100000
theorem cB.ln {c : Cg} {n : Nat} (h : cB c n) (S : Nat → Bool) : lnB (cA c n S) (cK c n S) := by
  obtain ⟨h1, h2, h3, h4⟩ := h
  refine ⟨fun l t => ?_, fun l => ?_⟩
  · unfold cA lA
    split
    · rename_i hl
      split
      · rename_i ht; exact h2 l hl t (by omega)
      · omega
    · split <;> omega
  · unfold cK lK
    split
    · rename_i hl
      split
      · have := (h3 l hl).2.2.2; omega
      · omega
    · split
      · exact h4 (l - 9) (by omega)
      · omega
theorem cB.ab {c : Cg} {n : Nat} (h : cB c n) (S : Nat → Bool) (l : Nat) : 0 ≤ cab c n S l ∧ cab c n S l ≤ 1000 := by
  obtain ⟨h1, h2, h3, h4⟩ := h
  unfold cab lab
  split
  · rename_i hl
    split
    · have := (h3 l hl).2.2.1; omega
    · omega
  · split <;> omega
theorem cB.be {c : Cg} {n : Nat} (h : cB c n) (S : Nat → Bool) (l : Nat) : 0 ≤ cbe c n S l ∧ cbe c n S l ≤ 1000 := by
  obtain ⟨h1, h2, h3, h4⟩ := h
  unfold cbe lbe
  split
  · rename_i hl
    split
    · have := (h3 l hl).2.2.1; omega
    · omega
  · split <;> omega
theorem cA_flat (c : Cg) (n : Nat) (S : Nat → Bool) (l : Nat) : flat (cA c n S) n l := fun t h1 h2 => by
  unfold cA lA
  split
  · rw [if_neg (by omega)]
  · rw [if_neg (by omega)]
theorem cT_nn {c : Cg} {n : Nat} (h : cB c n) (S : Nat → Bool) (L : Nat) (X : Nat → Int) (q : Int) : 0 ≤ cT c n S L X q := by
  unfold cT tot
  exact sm_nn (fun l _ => by
    unfold ind
    split
    · exact lcst_nn (h.ab S l).1 (h.be S l).1
    · omega)
/-- a line that is an edge's stay: off by the edge less its stay -/
theorem gp_stay (c : Cg) {n : Nat} (S : Nat → Bool) (hn : n ≤ 5) {e : Nat} (he : e < n) (X : Nat → Int) (q : Int) : gp (cA c n S) (cK c n S) (9 + e) X q = X e - c.2.2.2.2.2 e * q := by
  unfold gp
  rw [sm_one (k := e) (by omega) (fun t ht hne => by
    unfold cA lA
    rw [if_neg (by omega), if_neg (by omega), Int.zero_mul])]
  unfold cA lA cK lK
  rw [if_neg (by omega), if_pos (by omega), if_neg (by omega), if_pos (by omega), Int.one_mul, show 9 + e - 9 = e by omega]
theorem gp_wish (c : Cg) {n : Nat} (S : Nat → Bool) (hn : n ≤ 5) {w : Nat} (hw : w < 9) (hS : S w = true) (X : Nat → Int) (q : Int) : gp (cA c n S) (cK c n S) w X q = sm n (fun t => c.1 w t * X t) - c.2.2.2.2.1 w * q := by
  unfold gp
  rw [sm_take hn (fun t h1 h2 => by rw [cA_flat c n S w t h1 h2, Int.zero_mul])]
  congr 1
  · exact sm_congr (fun t ht => by
      unfold cA lA
      rw [if_pos hw, if_pos ⟨hS, ht⟩])
  · unfold cK lK
    rw [if_pos hw, if_pos hS]
