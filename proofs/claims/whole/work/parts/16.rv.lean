/-! the references, and what is where -/
def RVt : List (Nat × Nat × Nat) := [(0, 0, 1), (0, 1, 2), (0, 2, 3), (0, 3, 4), (0, 4, 5),
  (6, 6, 7), (8, 6, 9), (10, 6, 11), (12, 6, 13), (14, 6, 15), (16, 6, 17), (18, 6, 19), (20, 6, 21), (22, 6, 23),
  (24, 1, 25), (24, 4, 26), (24, 5, 27), (24, 6, 28), (24, 7, 29), (24, 8, 30), (24, 9, 40), (24, 10, 41), (24, 11, 42), (24, 12, 43), (24, 13, 44),
  (45, 1, 46), (45, 4, 47), (45, 5, 48), (45, 6, 49), (45, 7, 50), (45, 8, 51), (45, 9, 61), (45, 10, 62), (45, 11, 63), (45, 12, 64), (45, 13, 65),
  (66, 1, 67), (66, 2, 68), (66, 3, 69), (66, 4, 70), (66, 5, 71), (66, 6, 72), (66, 7, 73), (66, 8, 74), (66, 9, 75), (66, 12, 76), (66, 13, 77), (66, 15, 78), (66, 17, 79), (66, 18, 80), (66, 20, 81)]
def RV (sa sb : Nat) : mRv := fun p k => match Nat.beq p 5, Nat.beq p 30, Nat.beq p 51, (Nat.beq p 0 && Nat.beq k 7), (Nat.beq p 0 && Nat.beq k 8) with
  | true, _, _, _, _ => some (6 + 2 * k)
  | _, true, _, _, _ => some (31 + k)
  | _, _, true, _, _ => some (52 + k)
  | _, _, _, true, _ => some sa
  | _, _, _, _, true => some sb
  | _, _, _, _, _ => lk2 RVt p k
theorem bqf {a b : Nat} (h : a ≠ b) : Nat.beq a b = false := by
  cases h2 : Nat.beq a b with
  | false => rfl
  | true => exact absurd (bq h2) h
theorem RV_swap (sa sb : Nat) : st2 (st2 (RV sa sb) 0 7 (some sb)) 0 8 (some sa) = RV sb sa := by
  funext p k
  unfold st2
  by_cases hp : p = 0
  · subst hp
    by_cases h7 : k = 7
    · subst h7; rfl
    · by_cases h8 : k = 8
      · subst h8; rfl
      · rw [if_neg (fun e => h8 e.2), if_neg (fun e => h7 e.2)]
        have e7 : Nat.beq k 7 = false := bqf h7
        have e8 : Nat.beq k 8 = false := bqf h8
        unfold RV
        rw [e7, e8]
        rfl
  · rw [if_neg (fun e => hp e.1), if_neg (fun e => hp e.1)]
    have e0 : Nat.beq p 0 = false := bqf hp
    unfold RV
    rw [e0]
    cases p.beq 5 <;> cases p.beq 30 <;> cases p.beq 51 <;> rfl
theorem isO_wb : ∀ k, k < 9 → isO (6 + 2 * k) 1 := by unfold isO; decide +kernel
theorem isO_w {k : Nat} (h : k < 9) : isO (6 + 2 * k) 1 := isO_wb k h
theorem isA_r24b : ∀ i, i < 9 → isA (31 + i) 1 ∧ sln (31 + i) = 5 := by unfold isA sln; decide +kernel
theorem isA_r45b : ∀ i, i < 9 → isA (52 + i) 1 ∧ sln (52 + i) = 5 := by unfold isA sln; decide +kernel
theorem isA_r24 {i : Nat} (h : i < 9) : isA (31 + i) 1 := (isA_r24b i h).1
theorem isA_r45 {i : Nat} (h : i < 9) : isA (52 + i) 1 := (isA_r45b i h).1
theorem lt_r24 {i : Nat} {j : Int} (h : i < 9) (hj : j < 5) : j < sln (31 + i) := by rw [(isA_r24b i h).2]; exact hj
theorem lt_r45 {i : Nat} {j : Int} (h : i < 9) (hj : j < 5) : j < sln (52 + i) := by rw [(isA_r45b i h).2]; exact hj
theorem isC_rb : ∀ i, i < 9 → isC (31 + i) (52 + i) ∧ isC (52 + i) (31 + i) ∧ isC (31 + i) (31 + i) ∧ isC (52 + i) (52 + i) := by unfold isC; decide +kernel
theorem isC_a {i : Nat} (h : i < 9) : isC (31 + i) (52 + i) := (isC_rb i h).1
theorem isC_b {i : Nat} (h : i < 9) : isC (52 + i) (31 + i) := (isC_rb i h).2.1
theorem isC_c {i : Nat} (h : i < 9) : isC (31 + i) (31 + i) := (isC_rb i h).2.2.1
theorem isC_d {i : Nat} (h : i < 9) : isC (52 + i) (52 + i) := (isC_rb i h).2.2.2
def mall : List Prop → Prop
  | [] => True
  | c :: cs => c ∧ mall cs
theorem mall_in {Cs : List Prop} (h : mall Cs) : ∀ c ∈ Cs, c := by
  induction Cs with
  | nil => exact fun _ h => absurd h List.not_mem_nil
  | cons c cs ih => exact List.forall_mem_cons.mpr ⟨h.1, ih h.2⟩
theorem mconj_t {Cs : List Prop} {P : Prop} (h : mall Cs) : mconj Cs P = P := propext ⟨fun q => (mconj_of q).2, fun q => mconj_to (mall_in h) q⟩
theorem ex_blkT {M pc pc' : Nat} {L L' : mL} {st st' : List mV} {iv iv' : mIv} {rv rv' : mRv} {Q : Option mV → mIv → mRv → Prop} (o : Nat) (code : List (Nat × Instr × Nat)) {Cs : List Prop} (ho : (mth M).2.2.2.2.2.1 = o) (hc : lkb M code = true) (h : mblk o code (pc, L, st, iv, rv) = some (Cs, pc', L', st', iv', rv')) (hC : mall Cs) : Ex M pc L st iv rv Q = Ex M pc' L' st' iv' rv' Q := by
  rw [ex_blk o code Cs ho hc h, mconj_t hC]
theorem lc_eq (x y : Int) : lcv x y = 0 ↔ x = y := by unfold lcv; split <;> (try split) <;> omega
theorem lc_lt (x y : Int) : lcv x y < 0 ↔ x < y := by unfold lcv; split <;> (try split) <;> omega
theorem lc_ge (x y : Int) : 0 ≤ lcv x y ↔ y ≤ x := by unfold lcv; split <;> (try split) <;> omega
theorem lc_gt (x y : Int) : 0 < lcv x y ↔ y < x := by unfold lcv; split <;> (try split) <;> omega
theorem lc_le (x y : Int) : lcv x y ≤ 0 ↔ x ≤ y := by unfold lcv; split <;> (try split) <;> omega
/-- a branch: at c to t, else to f -/
theorem ex_brI {M pc t f : Nat} {L : mL} {st st' : List mV} {iv : mIv} {rv : mRv} {Q : Option mV → mIv → mRv → Prop} {i : Instr} {n : Nat} {P : Prop} (c : Prop) [Decidable c] (hc : lkb M [(pc, i, n)] = true) (h1 : ∀ o, mnx o i n pc L st iv rv = none) (h2 : mbr i n pc st = some ([(P, t), (¬ P, f)], st')) (hp : P ↔ c) : Ex M pc L st iv rv Q = if c then Ex M t L st' iv rv Q else Ex M f L st' iv rv Q := by
  rw [ex_bra hc h1 h2]
  apply propext
  by_cases h : c
  · rw [if_pos h]
    exact ⟨fun q => q.1 (hp.mpr h), fun q => ⟨fun _ => q, fun z => absurd (hp.mpr h) z, trivial⟩⟩
  · rw [if_neg h]
    exact ⟨fun q => q.2.1 (fun z => h (hp.mp z)), fun q => ⟨fun z => absurd (hp.mp z) h, fun _ => q, trivial⟩⟩
theorem ex_brN {M pc t f : Nat} {L : mL} {st st' : List mV} {iv : mIv} {rv : mRv} {Q : Option mV → mIv → mRv → Prop} {i : Instr} {n : Nat} {P : Prop} (c : Prop) [Decidable c] (hc : lkb M [(pc, i, n)] = true) (h1 : ∀ o, mnx o i n pc L st iv rv = none) (h2 : mbr i n pc st = some ([(P, t), (¬ P, f)], st')) (hp : P ↔ ¬ c) : Ex M pc L st iv rv Q = if c then Ex M f L st' iv rv Q else Ex M t L st' iv rv Q := by
  rw [ex_bra hc h1 h2]
  apply propext
  by_cases h : c
  · rw [if_pos h]
    exact ⟨fun q => q.2.1 (fun z => (hp.mp z) h), fun q => ⟨fun z => absurd h (hp.mp z), fun _ => q, trivial⟩⟩
  · rw [if_neg h]
    exact ⟨fun q => q.1 (hp.mpr h), fun q => ⟨fun _ => q, fun z => absurd (hp.mpr h) z, trivial⟩⟩
theorem ex_calT {M pc M' : Nat} {L : mL} {st as r : List mV} {iv : mIv} {rv : mRv} {Q : Option mV → mIv → mRv → Prop} {i : Instr} {n F Lc o nl : Nat} {Cs : List Prop} (hc : lkb M [(pc, i, n)] = true) (hF : (mth M).2.2.2.2.2.2.2.2.1 = F) (hL : (mth M).2.2.2.2.2.2.2.2.2 = Lc) (ho : (mth M).2.2.2.2.2.1 = o) (h1 : mnx o i n pc L st iv rv = none) (h2 : mbr i n pc st = none) (h3 : mcl F Lc o i st = some (Cs, M', as, r)) (h4 : (mth M').2.2.2.1 = nl) (hC : mall Cs) : Ex M pc L st iv rv Q = Ex M' 0 (mentry nl as) [] iv rv (fun v iv' rv' => Ex M (pc + 3) L (mpush v r) iv' rv' Q) := by
  rw [ex_cal hc hF hL ho h1 h2 h3 h4, mconj_t hC]
theorem ex_retT {M pc : Nat} {L : mL} {st : List mV} {iv : mIv} {rv : mRv} {Q : Option mV → mIv → mRv → Prop} {i : Instr} {n : Nat} {rt : Option FieldType} {Cs : List Prop} {v : Option mV} (hc : lkb M [(pc, i, n)] = true) (h1 : ∀ o, mnx o i n pc L st iv rv = none) (h2 : mbr i n pc st = none) (h3 : ∀ a b c, mcl a b c i st = none) (hr : (mth M).2.2.2.2.1 = rt) (h4 : mrt rt i st = some (Cs, v)) (hC : mall Cs) : Ex M pc L st iv rv Q = Q v iv rv := by
  rw [ex_ret hc h1 h2 h3 hr h4, mconj_t hC]
theorem split9 {P : Nat → Prop} {k : Nat} (hk : k < 9) (h0 : P 0) (h1 : P 1) (h2 : P 2) (h3 : P 3) (h4 : P 4) (h5 : P 5) (h6 : P 6) (h7 : P 7) (h8 : P 8) : P k := by
  rcases (show k = 0 ∨ k = 1 ∨ k = 2 ∨ k = 3 ∨ k = 4 ∨ k = 5 ∨ k = 6 ∨ k = 7 ∨ k = 8 by omega) with rfl | rfl | rfl | rfl | rfl | rfl | rfl | rfl | rfl <;> assumption
