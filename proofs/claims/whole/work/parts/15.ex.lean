/-! runs: fuel, equations -/
theorem mconj_mono {Cs : List Prop} {P P' : Prop} (h : P → P') (hc : mconj Cs P) : mconj Cs P' := mconj_to (mconj_of hc).1 (h (mconj_of hc).2)
theorem mball_mono {bs : List (Prop × Nat)} {P P' : Nat → Prop} (h : ∀ t, P t → P' t) (hb : mball bs P) : mball bs P' := by
  induction bs with
  | nil => trivial
  | cons b r ih => exact ⟨fun hc => h _ (hb.1 hc), ih hb.2⟩
theorem mex_mono : ∀ (n M pc : Nat) (L : mL) (st : List mV) (iv : mIv) (rv : mRv) (Q Q' : Option mV → mIv → mRv → Prop), (∀ v i r, Q v i r → Q' v i r) → ∀ k, mex n M pc L st iv rv Q → mex (n + k) M pc L st iv rv Q' := by
  intro n
  induction n with
  | zero => intro M pc L st iv rv Q Q' hQ k h; exact absurd h (by unfold mex; exact id)
  | succ n IH =>
    intro M pc L st iv rv Q Q' hQ k h
    rw [show n + 1 + k = (n + k) + 1 by omega]
    unfold mex at h ⊢
    split at h
    · exact absurd h id
    · split at h
      · exact mconj_mono (IH _ _ _ _ _ _ Q Q' hQ k) h
      · split at h
        · exact mball_mono (fun t => IH _ _ _ _ _ _ Q Q' hQ k) h
        · split at h
          · exact mconj_mono (IH _ _ _ _ _ _ _ _ (fun v i r => IH _ _ _ _ _ _ Q Q' hQ k) k) h
          · split at h
            · exact mconj_mono (hQ _ _ _) h
            · exact absurd h id
theorem Ex.mono {M pc : Nat} {L : mL} {st : List mV} {iv : mIv} {rv : mRv} {Q Q' : Option mV → mIv → mRv → Prop} (hQ : ∀ v i r, Q v i r → Q' v i r) (h : Ex M pc L st iv rv Q) : Ex M pc L st iv rv Q' := by
  obtain ⟨n, h⟩ := h
  exact ⟨n, mex_mono n M pc L st iv rv Q Q' hQ 0 h⟩
theorem mex_le {n k M pc : Nat} {L : mL} {st : List mV} {iv : mIv} {rv : mRv} {Q : Option mV → mIv → mRv → Prop} (hk : n ≤ k) (h : mex n M pc L st iv rv Q) : mex k M pc L st iv rv Q := by
  have := mex_mono n M pc L st iv rv Q Q (fun _ _ _ h => h) (k - n) h
  rw [show n + (k - n) = k by omega] at this
  exact this
theorem mball_Ex {bs : List (Prop × Nat)} {M : Nat} {L : mL} {st : List mV} {iv : mIv} {rv : mRv} {Q : Option mV → mIv → mRv → Prop} (h : mball bs (fun t => Ex M t L st iv rv Q)) : ∃ n, mball bs (fun t => mex n M t L st iv rv Q) := by
  induction bs with
  | nil => exact ⟨0, trivial⟩
  | cons b r ih =>
    obtain ⟨n1, h1⟩ := ih h.2
    by_cases hb : b.1
    · obtain ⟨n2, h2⟩ := h.1 hb
      exact ⟨n1 + n2, fun _ => mex_le (by omega) h2, mball_mono (fun t => mex_le (by omega)) h1⟩
    · exact ⟨n1, fun hc => absurd hc hb, h1⟩
theorem mball_ex {bs : List (Prop × Nat)} {P : Nat → Nat → Prop} (hP : ∀ k k' t, k ≤ k' → P k t → P k' t) (h : mball bs (fun t => ∃ k, P k t)) : ∃ k, mball bs (P k) := by
  induction bs with
  | nil => exact ⟨0, trivial⟩
  | cons b r ih =>
    obtain ⟨n1, h1⟩ := ih h.2
    by_cases hb : b.1
    · obtain ⟨n2, h2⟩ := h.1 hb
      exact ⟨n1 + n2, fun _ => hP _ _ _ (by omega) h2, mball_mono (fun t => hP _ _ _ (by omega)) h1⟩
    · exact ⟨n1, fun hc => absurd hc hb, h1⟩
theorem mex_ex : ∀ (n M pc : Nat) (L : mL) (st : List mV) (iv : mIv) (rv : mRv) (P : Nat → Option mV → mIv → mRv → Prop), (∀ k k' v i r, k ≤ k' → P k v i r → P k' v i r) → mex n M pc L st iv rv (fun v i r => ∃ k, P k v i r) → ∃ k, mex n M pc L st iv rv (P k) := by
  intro n
  induction n with
  | zero => intro M pc L st iv rv P hP h; exact absurd h (by unfold mex; exact id)
  | succ n IH =>
    intro M pc L st iv rv P hP h
    unfold mex at h
    split at h
    · exact absurd h id
    · rename_i i len hlk
      split at h
      · rename_i hnx
        obtain ⟨hC, h⟩ := mconj_of h
        obtain ⟨k, hk⟩ := IH _ _ _ _ _ _ P hP h
        exact ⟨k, by unfold mex; rw [hlk]; simp only [hnx]; exact mconj_to hC hk⟩
      · rename_i hnx
        split at h
        · rename_i hbr
          obtain ⟨k, hk⟩ := mball_ex (P := fun k t => mex n M t L _ iv rv (P k)) (fun k k' t hk h => mex_mono _ _ _ _ _ _ _ _ _ (fun v i r => hP k k' v i r hk) 0 h) (mball_mono (fun t h => IH _ _ _ _ _ _ P hP h) h)
          exact ⟨k, by unfold mex; rw [hlk]; simp only [hnx, hbr]; exact hk⟩
        · rename_i hbr
          split at h
          · rename_i Cs M' as r hcl
            obtain ⟨hC, h⟩ := mconj_of h
            obtain ⟨k, hk⟩ := IH M' 0 _ _ _ _ (fun k v i r2 => mex n M (pc + 3) L (mpush v r) i r2 (P k)) (fun k k' v i r2 hk h => mex_mono _ _ _ _ _ _ _ _ _ (fun v i r => hP k k' v i r hk) 0 h) (mex_mono _ _ _ _ _ _ _ _ _ (fun v i r2 h => IH _ _ _ _ _ _ P hP h) 0 h)
            exact ⟨k, by unfold mex; rw [hlk]; simp only [hnx, hbr, hcl]; exact mconj_to hC hk⟩
          · rename_i hcl
            split at h
            · rename_i hrt
              obtain ⟨hC, k, hk⟩ := mconj_of h
              exact ⟨k, by unfold mex; rw [hlk]; simp only [hnx, hbr, hcl, hrt]; exact mconj_to hC hk⟩
            · exact absurd h id
/-- the same instruction decides both ways -/
theorem ex_eq {M pc : Nat} {L : mL} {st : List mV} {iv : mIv} {rv : mRv} {Q : Option mV → mIv → mRv → Prop} {i : Instr} {len : Nat} (hl : lk (mth M).1 pc = some (i, len)) :
    Ex M pc L st iv rv Q = (match mnx (mth M).2.2.2.2.2.1 i len pc L st iv rv with
      | some (Cs, pc', L', st', iv', rv') => mconj Cs (Ex M pc' L' st' iv' rv' Q)
      | none => match mbr i len pc st with
        | some (bs, st') => mball bs (fun t => Ex M t L st' iv rv Q)
        | none => match mcl (mth M).2.2.2.2.2.2.2.2.1 (mth M).2.2.2.2.2.2.2.2.2 (mth M).2.2.2.2.2.1 i st with
          | some (Cs, M', as, r) => mconj Cs (Ex M' 0 (mentry (mth M').2.2.2.1 as) [] iv rv (fun v iv' rv' => Ex M (pc + 3) L (mpush v r) iv' rv' Q))
          | none => match mrt (mth M).2.2.2.2.1 i st with
            | some (Cs, v) => mconj Cs (Q v iv rv)
            | none => False) := by
  apply propext
  constructor
  · intro h
    obtain ⟨n, h⟩ := h
    cases n with
    | zero => exact absurd h (by unfold mex; exact id)
    | succ n =>
      unfold mex at h
      rw [hl] at h
      simp only at h
      split at h
      · rename_i hnx
        rw [hnx]
        exact mconj_mono (fun h => ⟨n, h⟩) h
      · rename_i hnx
        rw [hnx]
        split at h
        · rename_i hbr
          rw [hbr]
          exact mball_mono (fun t h => ⟨n, h⟩) h
        · rename_i hbr
          rw [hbr]
          split at h
          · rename_i hcl
            rw [hcl]
            exact mconj_mono (fun h => Ex.mono (fun v i r h => ⟨n, h⟩) ⟨n, h⟩) h
          · rename_i hcl
            rw [hcl]
            split at h
            · rename_i hrt
              rw [hrt]
              exact h
            · exact absurd h id
  · intro h
    have key : ∀ n, (match mnx (mth M).2.2.2.2.2.1 i len pc L st iv rv with
      | some (Cs, pc', L', st', iv', rv') => mconj Cs (mex n M pc' L' st' iv' rv' Q)
      | none => match mbr i len pc st with
        | some (bs, st') => mball bs (fun t => mex n M t L st' iv rv Q)
        | none => match mcl (mth M).2.2.2.2.2.2.2.2.1 (mth M).2.2.2.2.2.2.2.2.2 (mth M).2.2.2.2.2.1 i st with
          | some (Cs, M', as, r) => mconj Cs (mex n M' 0 (mentry (mth M').2.2.2.1 as) [] iv rv (fun v iv' rv' => mex n M (pc + 3) L (mpush v r) iv' rv' Q))
          | none => match mrt (mth M).2.2.2.2.1 i st with
            | some (Cs, v) => mconj Cs (Q v iv rv)
            | none => False) → Ex M pc L st iv rv Q := fun n hn => ⟨n + 1, by unfold mex; rw [hl]; exact hn⟩
    split at h
    · rename_i Cs pc' L' st' iv' rv' hnx
      obtain ⟨hC, n, hn⟩ := mconj_of h
      refine key n ?_
      rw [hnx]
      exact mconj_to hC hn
    · rename_i hnx
      split at h
      · rename_i bs st' hbr
        obtain ⟨n, hn⟩ := mball_Ex h
        refine key n ?_
        rw [hnx, hbr]
        exact hn
      · rename_i hbr
        split at h
        · rename_i Cs M' as r hcl
          obtain ⟨hC, n, hn⟩ := mconj_of h
          obtain ⟨k, hk⟩ := mex_ex n M' 0 _ _ _ _ (fun k v i r2 => mex k M (pc + 3) L (mpush v r) i r2 Q) (fun k k' v i r2 hk h => mex_le hk h) hn
          refine key (n + k) ?_
          rw [hnx, hbr, hcl]
          refine mconj_to hC (mex_mono n M' 0 _ _ _ _ _ _ (fun v i r2 h => mex_le (by omega) h) k hk)
        · rename_i hcl
          split at h
          · rename_i Cs v hrt
            refine key 0 ?_
            rw [hnx, hbr, hcl, hrt]
            exact h
          · exact absurd h id
/-- a stretch of instructions, told by its own list -/
def mblk (o : Nat) : List (Nat × Instr × Nat) → mSt → Option (List Prop × mSt)
  | [], s => some ([], s)
  | (a, i, n) :: r, (pc, L, st, iv, rv) => match Nat.beq a pc with
    | true => match mnx o i n pc L st iv rv with
      | some (Cs, s') => match mblk o r s' with
        | some (Ds, s2) => some (Cs ++ Ds, s2)
        | none => none
      | none => none
    | false => none
def lkb (M : Nat) (code : List (Nat × Instr × Nat)) : Bool := code.all (fun e => decide (lk (mth M).1 e.1 = some e.2))
theorem mconj_app {Cs Ds : List Prop} {P : Prop} : mconj (Cs ++ Ds) P = mconj Cs (mconj Ds P) := by
  induction Cs with
  | nil => rfl
  | cons c cs ih => show (c ∧ mconj (cs ++ Ds) P) = (c ∧ mconj cs (mconj Ds P)); rw [ih]
theorem ex_blk {M pc pc' : Nat} {L L' : mL} {st st' : List mV} {iv iv' : mIv} {rv rv' : mRv} {Q : Option mV → mIv → mRv → Prop} (o : Nat) (code : List (Nat × Instr × Nat)) (Cs : List Prop) (ho : (mth M).2.2.2.2.2.1 = o) (hc : lkb M code = true) (h : mblk o code (pc, L, st, iv, rv) = some (Cs, pc', L', st', iv', rv')) : Ex M pc L st iv rv Q = mconj Cs (Ex M pc' L' st' iv' rv' Q) := by
  induction code generalizing pc L st iv rv Cs with
  | nil => cases h; rfl
  | cons x r ih =>
    obtain ⟨a, i, n⟩ := x
    have hc' := Bool.and_eq_true_iff.mp (show (decide (lk (mth M).1 a = some (i, n)) && r.all (fun e => decide (lk (mth M).1 e.1 = some e.2))) = true from hc)
    unfold mblk at h
    split at h
    · rename_i hb
      have := bq hb
      subst this
      split at h
      · rename_i Ds s' hnx
        obtain ⟨pc1, L1, st1, iv1, rv1⟩ := s'
        split at h
        · rename_i Es s2 hm
          cases h
          rw [ex_eq (of_decide_eq_true hc'.1), ho, hnx]
          show mconj Ds _ = _
          rw [mconj_app, ih Es hc'.2 hm]
        · cases h
      · cases h
    · cases h
theorem ex_bra {M pc : Nat} {L : mL} {st st' : List mV} {iv : mIv} {rv : mRv} {Q : Option mV → mIv → mRv → Prop} {i : Instr} {n : Nat} {bs : List (Prop × Nat)} (hc : lkb M [(pc, i, n)] = true) (h1 : ∀ o, mnx o i n pc L st iv rv = none) (h2 : mbr i n pc st = some (bs, st')) : Ex M pc L st iv rv Q = mball bs (fun t => Ex M t L st' iv rv Q) := by
  have hc' := Bool.and_eq_true_iff.mp (show (decide (lk (mth M).1 pc = some (i, n)) && true) = true from hc)
  rw [ex_eq (of_decide_eq_true hc'.1), h1, h2]
theorem ex_cal {M pc M' : Nat} {L : mL} {st as r : List mV} {iv : mIv} {rv : mRv} {Q : Option mV → mIv → mRv → Prop} {i : Instr} {n F Lc o nl : Nat} {Cs : List Prop} (hc : lkb M [(pc, i, n)] = true) (hF : (mth M).2.2.2.2.2.2.2.2.1 = F) (hL : (mth M).2.2.2.2.2.2.2.2.2 = Lc) (ho : (mth M).2.2.2.2.2.1 = o) (h1 : mnx o i n pc L st iv rv = none) (h2 : mbr i n pc st = none) (h3 : mcl F Lc o i st = some (Cs, M', as, r)) (h4 : (mth M').2.2.2.1 = nl) : Ex M pc L st iv rv Q = mconj Cs (Ex M' 0 (mentry nl as) [] iv rv (fun v iv' rv' => Ex M (pc + 3) L (mpush v r) iv' rv' Q)) := by
  have hc' := Bool.and_eq_true_iff.mp (show (decide (lk (mth M).1 pc = some (i, n)) && true) = true from hc)
  rw [ex_eq (of_decide_eq_true hc'.1), ho, h1, h2, hF, hL, h3, ← h4]
theorem ex_ret {M pc : Nat} {L : mL} {st : List mV} {iv : mIv} {rv : mRv} {Q : Option mV → mIv → mRv → Prop} {i : Instr} {n : Nat} {rt : Option FieldType} {Cs : List Prop} {v : Option mV} (hc : lkb M [(pc, i, n)] = true) (h1 : ∀ o, mnx o i n pc L st iv rv = none) (h2 : mbr i n pc st = none) (h3 : ∀ a b c, mcl a b c i st = none) (hr : (mth M).2.2.2.2.1 = rt) (h4 : mrt rt i st = some (Cs, v)) : Ex M pc L st iv rv Q = mconj Cs (Q v iv rv) := by
  have hc' := Bool.and_eq_true_iff.mp (show (decide (lk (mth M).1 pc = some (i, n)) && true) = true from hc)
  rw [ex_eq (of_decide_eq_true hc'.1), h1, h2, h3, hr, h4]
