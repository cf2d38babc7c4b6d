/-! the model's elimination, as pivots of a tableau -/
def gA (n : Nat) (a : Nat → Nat → Int) (l t : Nat) : Int := if l < 5 then (if l < n ∧ t < n then a l t else 0) else if l - 5 < n ∧ t = l - 5 then 1 else 0
def gK (n : Nat) (b : Nat → Int) (l : Nat) : Int := if l < n then b l else 0
theorem gA_flat (n : Nat) (a : Nat → Nat → Int) (l : Nat) : flat (gA n a) n l := fun t h1 h2 => by
  unfold gA
  split
  · rw [if_neg (by omega)]
  · rw [if_neg (by omega)]
theorem gA_bd {n : Nat} {a : Nat → Nat → Int} (h : ∀ r, r < n → ∀ t, t < n → -3 ≤ a r t ∧ a r t ≤ 3) (l t : Nat) : -3 ≤ gA n a l t ∧ gA n a l t ≤ 3 := by
  unfold gA
  split
  · split
    · rename_i z; exact h l z.1 t z.2
    · omega
  · split <;> omega
theorem gK_bd {n : Nat} {b : Nat → Int} (h : ∀ r, r < n → -100000 ≤ b r ∧ b r ≤ 100000) (l : Nat) : -100000 ≤ gK n b l ∧ gK n b l ≤ 100000 := by
  unfold gK
  split
  · rename_i z; exact h l z
  · omega
/-- elimination stands at column c -/
def gjS (n : Nat) (a : Nat → Nat → Int) (b : Nat → Int) (c : Nat) (M : Nat → Nat → Int) (ah : Int) : Prop := ∃ (Cl Rl : Nat → Nat) (cell : Nat → Nat → Int) (rest : Nat → Int) (d s : Int), TI (gA n a) (gK n b) n n Cl Rl d cell rest ∧ (s = 1 ∨ s = -1) ∧ ah = s * d ∧ (∀ r, r < c → Rl r = 5 + r) ∧ (∀ j, j < n → c ≤ j → Cl j = 5 + j) ∧ (∀ l, l < n → (∃ j, j < c ∧ Cl j = l) ∨ (∃ r, c ≤ r ∧ r < n ∧ Rl r = l)) ∧ (∀ r, r < n → c ≤ r → (∀ k, k < n → c ≤ k → M r k = s * cell r k) ∧ M r 5 = -s * rest r) ∧ (∀ r, r < c → (∀ k, k < n → c ≤ k → M r k = -s * cell r k) ∧ M r 5 = s * rest r)
theorem gj_0 {n : Nat} {a : Nat → Nat → Int} {b : Nat → Int} {M : Nat → Nat → Int} (hn : n ≤ 5) (h1 : ∀ r, r < n → ∀ k, k < n → M r k = a r k) (h2 : ∀ r, r < n → M r 5 = b r) : gjS n a b 0 M 1 := by
  have cu : ∀ j, j < 5 → ∀ t, t < 5 → ccv (gA n a) n (fun j => 5 + j) j t = unit j t := fun j hj t ht => by
    unfold ccv
    split
    · show gA n a (5 + j) t = unit j t
      unfold gA unit
      rw [if_neg (by omega)]
      by_cases e : j = t
      · rw [if_pos (by omega), if_pos e]
      · rw [if_neg (by omega), if_neg e]
    · rfl
  refine ⟨fun j => 5 + j, fun r => r, a, fun r => -(b r), 1, 1, ⟨1, Or.inl rfl, by omega, ?_, fun i hi j hj => ?_, fun i hi => ?_⟩, Or.inl rfl, by omega, fun r hr => by omega, fun j _ _ => rfl, fun l hl => Or.inr ⟨l, by omega, hl, rfl⟩, fun r hr _ => ⟨fun k hk _ => by rw [h1 r hr k hk]; omega, by rw [h2 r hr]; show b r = -1 * -(b r); omega⟩, fun r hr => by omega⟩
  · rw [dv_ext cu, dv_unit]; rfl
  · show a i j = 1 * dv (uv _ j (gA n a i))
    rw [dv_uu cu (by omega), Int.one_mul]
    unfold gA
    rw [if_pos (by omega), if_pos ⟨hi, hj⟩]
  · show -(b i) = sm n (fun j => a i j * gK n b (5 + j)) - 1 * gK n b i
    rw [sm_0 (fun j hj => by unfold gK; rw [if_neg (by omega), Int.mul_zero])]
    unfold gK
    rw [if_pos hi]; omega
def swr (c q r : Nat) : Nat := if r = c then q else if r = q then c else r
theorem swr_lt {c q r n : Nat} (hc : c < n) (hq : q < n) (hr : r < n) : swr c q r < n := by unfold swr; split <;> (try split) <;> omega
theorem swr_ge {c q r : Nat} (hq : c ≤ q) (hr : c ≤ r) : c ≤ swr c q r := by unfold swr; split <;> (try split) <;> omega
theorem swr_lo {c q r : Nat} (hq : c ≤ q) (hr : r < c) : swr c q r = r := by unfold swr; rw [if_neg (by omega), if_neg (by omega)]
theorem swr_sw (c q r : Nat) : swr c q (swr c q r) = r := by unfold swr; split <;> (try split) <;> (try split) <;> (try split) <;> omega
theorem gj_swap {n : Nat} {a : Nat → Nat → Int} {b : Nat → Int} {c q : Nat} {M M' : Nat → Nat → Int} {ah : Int} (hc : c < n) (hq : c ≤ q) (hqn : q < n) (h : gjS n a b c M ah) (hM : ∀ r, r < n → ∀ k, k < 6 → M' r k = M (swr c q r) k) (hn : n ≤ 5) : gjS n a b c M' ah := by
  obtain ⟨Cl, Rl, cell, rest, d, s, ⟨t, t1, t2, t3, t4, t5⟩, h2, h3, h4, h5, h6, h7, h8⟩ := h
  refine ⟨Cl, fun r => Rl (swr c q r), fun r => cell (swr c q r), fun r => rest (swr c q r), d, s, ⟨t, t1, t2, t3, fun i hi j hj => t4 _ (swr_lt hc hqn hi) j hj, fun i hi => t5 _ (swr_lt hc hqn hi)⟩, h2, h3, fun r hr => ?_, h5, fun l hl => ?_, fun r hr hcr => ⟨fun k hk hck => ?_, ?_⟩, fun r hr => ⟨fun k hk hck => ?_, ?_⟩⟩
  · show Rl (swr c q r) = _
    rw [swr_lo hq hr]; exact h4 r hr
  · rcases h6 l hl with z | ⟨r, r1, r2, r3⟩
    · exact Or.inl z
    · exact Or.inr ⟨swr c q r, swr_ge hq r1, swr_lt hc hqn r2, by show Rl (swr c q (swr c q r)) = l; rw [swr_sw]; exact r3⟩
  · rw [hM r hr k (by omega)]; exact (h7 _ (swr_lt hc hqn hr) (swr_ge hq hcr)).1 k hk hck
  · rw [hM r hr 5 (by omega)]; exact (h7 _ (swr_lt hc hqn hr) (swr_ge hq hcr)).2
  · rw [hM r (by omega) k (by omega), swr_lo hq hr]
    show M r k = -s * cell (swr c q r) k
    rw [swr_lo hq hr]; exact (h8 r hr).1 k hk hck
  · rw [hM r (by omega) 5 (by omega), swr_lo hq hr]
    show M r 5 = s * rest (swr c q r)
    rw [swr_lo hq hr]; exact (h8 r hr).2
theorem sq1 {s : Int} (h : s = 1 ∨ s = -1) : s * s = 1 := by rcases h with rfl | rfl <;> rfl
/-- bounds and even divisions -/
theorem gj_ex {n : Nat} {a : Nat → Nat → Int} {b : Nat → Int} {c : Nat} {M : Nat → Nat → Int} {ah : Int} (hn : n ≤ 5) (hc : c < n) (ha : ∀ r, r < n → ∀ t, t < n → -3 ≤ a r t ∧ a r t ≤ 3) (hb : ∀ r, r < n → -100000 ≤ b r ∧ b r ≤ 100000) (h : gjS n a b c M ah) : (ah ≠ 0 ∧ -29160 ≤ ah ∧ ah ≤ 29160) ∧ (∀ r, r < n → ∀ k, k < n → c ≤ k → -29160 ≤ M r k ∧ M r k ≤ 29160) ∧ (∀ r, r < n → -17496000000 ≤ M r 5 ∧ M r 5 ≤ 17496000000) ∧ (∀ r, r < n → ∀ k, (k < n ∧ c ≤ k) ∨ k = 5 → ∃ e, ah * e = M r k * M c c - M r c * M c k) := by
  obtain ⟨Cl, Rl, cell, rest, d, s, hT, h2, h3, h4, h5, h6, h7, h8⟩ := h
  have hA := gA_bd ha
  have hK := gK_bd hb
  have d1 := hT.pos
  have d2 := hT.bdd hA
  have ss := sq1 h2
  have hrow : ∀ r, r < n → ∃ u : Int, (u = s ∨ u = -s) ∧ (∀ k, k < n → c ≤ k → M r k = u * cell r k) ∧ M r 5 = -u * rest r := fun r hr => by
    by_cases z : c ≤ r
    · exact ⟨s, Or.inl rfl, (h7 r hr z).1, (h7 r hr z).2⟩
    · exact ⟨-s, Or.inr rfl, (h8 r (by omega)).1, by rw [(h8 r (by omega)).2]; grind⟩
  refine ⟨?_, fun r hr k hk hck => ?_, fun r hr => ?_, fun r hr k hk => ?_⟩
  · rw [h3]
    rcases h2 with e | e <;> rw [e] <;> omega
  · obtain ⟨u, u1, u2, u3⟩ := hrow r hr
    have := hT.bdc hA hr hk
    rw [u2 k hk hck]
    rcases h2 with e | e <;> rcases u1 with f | f <;> rw [f, e] <;> omega
  · obtain ⟨u, u1, u2, u3⟩ := hrow r hr
    have := hT.bdr hn hA hK hr
    rw [u3]
    rcases h2 with e | e <;> rcases u1 with f | f <;> rw [f, e] <;> omega
  · obtain ⟨u, u1, u2, u3⟩ := hrow r hr
    have eC := h7 c hc (Nat.le_refl c)
    rcases hk with ⟨hk, hck⟩ | hk
    · obtain ⟨e, he⟩ := hT.exc hn hc hc 1 hr hk
      refine ⟨u * e, ?_⟩
      rw [h3, u2 k hk hck, u2 c hc (Nat.le_refl c), eC.1 c hc (Nat.le_refl c), eC.1 k hk hck]
      have : s * d * (u * e) = s * u * (d * e) := by grind
      rw [this, he]; grind
    · subst hk
      obtain ⟨e, he⟩ := hT.exr hn hc hc 1 hr
      refine ⟨-(u * e), ?_⟩
      rw [h3, u3, u2 c hc (Nat.le_refl c), eC.1 c hc (Nat.le_refl c), eC.2]
      have : s * d * -(u * e) = -(s * u * (d * e)) := by grind
      rw [this, he]; grind
theorem gj_step {n : Nat} {a : Nat → Nat → Int} {b : Nat → Int} {c : Nat} {M M' : Nat → Nat → Int} {ah : Int} (hn : n ≤ 5) (hc : c < n) (h : gjS n a b c M ah) (hp : M c c ≠ 0) (hM : ∀ r, r < n → r ≠ c → ∀ k, (k < n ∧ c ≤ k) ∨ k = 5 → ah * M' r k = M r k * M c c - M r c * M c k) (hMc : ∀ k, k < 6 → M' c k = M c k) : gjS n a b (c + 1) M' (M c c) := by
  obtain ⟨Cl, Rl, cell, rest, d, s, hT, h2, h3, h4, h5, h6, h7, h8⟩ := h
  have d1 := hT.pos
  have ss := sq1 h2
  have eC := h7 c hc (Nat.le_refl c)
  have ecc : M c c = s * cell c c := eC.1 c hc (Nat.le_refl c)
  have hcc : cell c c ≠ 0 := fun z => hp (by rw [ecc, z, Int.mul_zero])
  obtain ⟨sg, hsg, hpos⟩ : ∃ sg : Int, (sg = 1 ∨ sg = -1) ∧ 0 < sg * cell c c := by
    rcases Int.lt_trichotomy (cell c c) 0 with z | z | z
    · exact ⟨-1, Or.inr rfl, by omega⟩
    · exact absurd z hcc
    · exact ⟨1, Or.inl rfl, by omega⟩
  have gg := sq1 hsg
  have hx : ∀ i j, ∃ e : Int, i < n → j < n → d * e = cell i j * (sg * cell c c) - sg * cell i c * cell c j := fun i j => by
    by_cases z : i < n ∧ j < n
    · obtain ⟨e, he⟩ := hT.exc hn hc hc sg z.1 z.2
      exact ⟨e, fun _ _ => he⟩
    · exact ⟨0, fun z1 z2 => absurd ⟨z1, z2⟩ z⟩
  have hxr : ∀ i, ∃ e : Int, i < n → d * e = rest i * (sg * cell c c) - sg * cell i c * rest c := fun i => by
    by_cases z : i < n
    · obtain ⟨e, he⟩ := hT.exr hn hc hc sg z
      exact ⟨e, fun _ => he⟩
    · exact ⟨0, fun z1 => absurd z1 z⟩
  generalize hE : (fun i j => (hx i j).choose) = E
  generalize hEr : (fun i => (hxr i).choose) = Er
  have e1 : ∀ i, i < n → ∀ j, j < n → d * E i j = cell i j * (sg * cell c c) - sg * cell i c * cell c j := fun i hi j hj => by rw [← hE]; exact (hx i j).choose_spec hi hj
  have e2 : ∀ i, i < n → d * Er i = rest i * (sg * cell c c) - sg * cell i c * rest c := fun i hi => by rw [← hEr]; exact (hxr i).choose_spec hi
  have hT' := hT.piv hn hc hc (cell' := fun i j => if i = c then (if j = c then sg * d else -sg * cell c j) else if j = c then sg * cell i c else E i j) (rest' := fun i => if i = c then -sg * rest c else Er i) hsg hpos rfl (fun i hi hne j hj hjc => by
      simp only [if_neg hne, if_neg hjc]; exact e1 i hi j hj) (fun i hi hne => by simp only [if_neg hne, if_true]) (fun j hj hjc => by simp only [if_true, if_neg hjc]) (by simp only [if_true]) (fun i hi hne => by simp only [if_neg hne]; exact e2 i hi) (by simp only [if_true])
  have hah : ah ≠ 0 := by rw [h3]; rcases h2 with e | e <;> rw [e] <;> omega
  refine ⟨upn Cl c (Rl c), upn Rl c (Cl c), _, _, sg * cell c c, s * sg, hT', ?_, ?_, fun r hr => ?_, fun j hj hcj => ?_, fun l hl => ?_, fun r hr hcr => ?_, fun r hr => ?_⟩
  · rcases h2 with rfl | rfl <;> rcases hsg with rfl | rfl <;> decide
  · rw [ecc]
    have : s * sg * (sg * cell c c) = s * (sg * sg) * cell c c := by grind
    rw [this, gg, Int.mul_one]
  · unfold upn
    by_cases z : r = c
    · rw [if_pos z, h5 c hc (Nat.le_refl c), z]
    · rw [if_neg z]; exact h4 r (by omega)
  · unfold upn
    rw [if_neg (by omega)]
    exact h5 j hj (by omega)
  · rcases h6 l hl with ⟨j, j1, j2⟩ | ⟨r, r1, r2, r3⟩
    · exact Or.inl ⟨j, by omega, by unfold upn; rw [if_neg (by omega)]; exact j2⟩
    · by_cases z : r = c
      · exact Or.inl ⟨c, by omega, by unfold upn; rw [if_pos rfl, ← z]; exact r3⟩
      · exact Or.inr ⟨r, by omega, r2, by unfold upn; rw [if_neg z]; exact r3⟩
  · have hrc : r ≠ c := by omega
    have hR := h7 r hr (by omega)
    have eR : M r c = s * cell r c := hR.1 c hc (Nat.le_refl c)
    refine ⟨fun k hk hck => ?_, ?_⟩
    · simp only [if_neg hrc, if_neg (show k ≠ c by omega)]
      apply Int.eq_of_mul_eq_mul_left hah
      rw [hM r hr hrc k (Or.inl ⟨hk, by omega⟩), hR.1 k hk (by omega), eR, ecc, eC.1 k hk (by omega), h3]
      have q : s * d * (s * sg * E r k) = (s * s) * sg * (d * E r k) := by grind
      rw [q, e1 r hr k hk, ss]
      have q2 : 1 * sg * (cell r k * (sg * cell c c) - sg * cell r c * cell c k) = (sg * sg) * (cell r k * cell c c - cell r c * cell c k) := by grind
      rw [q2, gg]
      have q3 : s * cell r k * (s * cell c c) - s * cell r c * (s * cell c k) = (s * s) * (cell r k * cell c c - cell r c * cell c k) := by grind
      rw [q3, ss]
    · simp only [if_neg hrc]
      apply Int.eq_of_mul_eq_mul_left hah
      rw [hM r hr hrc 5 (Or.inr rfl), hR.2, eR, ecc, eC.2, h3]
      have q : s * d * (-(s * sg) * Er r) = -((s * s) * sg * (d * Er r)) := by grind
      rw [q, e2 r hr, ss]
      have q2 : 1 * sg * (rest r * (sg * cell c c) - sg * cell r c * rest c) = (sg * sg) * (rest r * cell c c - cell r c * rest c) := by grind
      rw [q2, gg]
      have q3 : -s * rest r * (s * cell c c) - s * cell r c * (-s * rest c) = -((s * s) * (rest r * cell c c - cell r c * rest c)) := by grind
      rw [q3, ss]
  · by_cases z : r = c
    · subst z
      refine ⟨fun k hk hck => ?_, ?_⟩
      · simp only [if_true, if_neg (show k ≠ r by omega)]
        rw [hMc k (by omega), eC.1 k hk (by omega)]
        have q : -(s * sg) * (-sg * cell r k) = s * (sg * sg) * cell r k := by grind
        rw [q, gg, Int.mul_one]
      · simp only [if_true]
        rw [hMc 5 (by omega), eC.2]
        have q : s * sg * (-sg * rest r) = -s * (sg * sg) * rest r := by grind
        rw [q, gg, Int.mul_one]
    · have hR := h8 r (by omega)
      have eR : M r c = -s * cell r c := hR.1 c hc (Nat.le_refl c)
      have hrn : r < n := by omega
      refine ⟨fun k hk hck => ?_, ?_⟩
      · simp only [if_neg z, if_neg (show k ≠ c by omega)]
        apply Int.eq_of_mul_eq_mul_left hah
        rw [hM r hrn z k (Or.inl ⟨hk, by omega⟩), hR.1 k hk (by omega), eR, ecc, eC.1 k hk (by omega), h3]
        have q : s * d * (-(s * sg) * E r k) = -((s * s) * sg * (d * E r k)) := by grind
        rw [q, e1 r hrn k hk, ss]
        have q2 : 1 * sg * (cell r k * (sg * cell c c) - sg * cell r c * cell c k) = (sg * sg) * (cell r k * cell c c - cell r c * cell c k) := by grind
        rw [q2, gg]
        have q3 : -s * cell r k * (s * cell c c) - -s * cell r c * (s * cell c k) = -((s * s) * (cell r k * cell c c - cell r c * cell c k)) := by grind
        rw [q3, ss]
      · simp only [if_neg z]
        apply Int.eq_of_mul_eq_mul_left hah
        rw [hM r hrn z 5 (Or.inr rfl), hR.2, eR, ecc, eC.2, h3]
        have q : s * d * (s * sg * Er r) = (s * s) * sg * (d * Er r) := by grind
        rw [q, e2 r hrn, ss]
        have q2 : 1 * sg * (rest r * (sg * cell c c) - sg * cell r c * rest c) = (sg * sg) * (rest r * cell c c - cell r c * rest c) := by grind
        rw [q2, gg]
        have q3 : s * rest r * (s * cell c c) - -s * cell r c * (-s * rest c) = (s * s) * (rest r * cell c c - cell r c * rest c) := by grind
        rw [q3, ss]
/-- no pivot: the lines depend on one another -/
theorem gj_dep {n : Nat} {a : Nat → Nat → Int} {b : Nat → Int} {c : Nat} {M : Nat → Nat → Int} {ah : Int} (hn : n ≤ 5) (hc : c < n) (h : gjS n a b c M ah) (hz : ∀ r, r < n → c ≤ r → M r c = 0) : ∃ (x : Nat → Int) (c : Nat), c < n ∧ x c ≠ 0 ∧ ∀ l, l < n → sm n (fun t => a l t * x t) = 0 := by
  obtain ⟨Cl, Rl, cell, rest, d, s, hT, h2, h3, h4, h5, h6, h7, h8⟩ := h
  have d1 := hT.pos
  obtain ⟨x, x1, x2⟩ := hT.dir hn (fun j _ => gA_flat n a _) (fun i _ => gA_flat n a _) hc 1
  have hcell : ∀ r, r < n → c ≤ r → cell r c = 0 := fun r hr hcr => by
    have := (h7 r hr hcr).1 c hc (Nat.le_refl c)
    rw [hz r hr hcr] at this
    rcases h2 with e | e <;> rw [e] at this <;> omega
  have orth : ∀ l, l < n → sm 5 (fun t => gA n a l t * x t) = 0 := fun l hl => by
    rcases h6 l hl with ⟨j, j1, j2⟩ | ⟨r, r1, r2, r3⟩
    · rw [← j2, x1 j (by omega), if_neg (by omega)]
    · rw [← r3, x2 r r2, hcell r r2 r1]; omega
  have hxc : x c = d := by
    have := x1 c hc
    rw [if_pos rfl, h5 c hc (Nat.le_refl c), Int.mul_one, sm_one (k := c) (by omega) (fun t _ hne => by
      unfold gA; rw [if_neg (by omega), if_neg (by omega), Int.zero_mul])] at this
    unfold gA at this
    rw [if_neg (by omega), if_pos (by omega), Int.one_mul] at this
    exact this
  refine ⟨x, c, hc, by omega, fun l hl => ?_⟩
  have := orth l hl
  rw [sm_take hn (fun t h1 h2 => by rw [gA_flat n a l t h1 h2, Int.zero_mul])] at this
  rw [← this]
  exact sm_congr (fun t ht => by unfold gA; rw [if_pos (by omega), if_pos ⟨hl, ht⟩])
/-- lines that are free of one another: what is 0 on all is 0 -/
theorem free_0 {A : Nat → Nat → Int} {n : Nat} {Cl : Nat → Nat} (hn : n ≤ 5) (hf : ∀ j, j < n → flat A n (Cl j)) (hne : dv (ccv A n Cl) ≠ 0) {x : Nat → Int} (orth : ∀ j, j < n → sm n (fun t => A (Cl j) t * x t) = 0) : ∀ c, c < n → x c = 0 := fun c hc => by
  have hv := fun t (ht : t < 5) => TI_vec hn hf hne (a := fun t => unit c t) (fun t h1 h2 => by unfold unit; rw [if_neg (by omega)]) ht
  have e1 : dv (ccv A n Cl) * x c = 0 := by
    have s1 : dv (ccv A n Cl) * x c = sm n (fun t => dv (ccv A n Cl) * unit c t * x t) := by
      rw [sm_one (k := c) hc (fun t _ hne => by unfold unit; rw [if_neg (fun z => hne z.symm), Int.mul_zero, Int.zero_mul])]
      unfold unit; rw [if_pos rfl, Int.mul_one]
    rw [s1]
    have s2 : sm n (fun t => dv (ccv A n Cl) * unit c t * x t) = sm n (fun t => sm n (fun j => dv (uv (ccv A n Cl) j (fun t => unit c t)) * (A (Cl j) t * x t))) := sm_congr (fun t ht => by
      rw [hv t (by omega), ← sm_mulr]
      exact sm_congr (fun j _ => Int.mul_assoc ..))
    rw [s2, sm_swap]
    exact sm_0 (fun j hj => by rw [sm_mul, orth j hj, Int.mul_zero])
  rcases Int.mul_eq_zero.mp e1 with z | z
  · exact absurd z hne
  · exact z
/-- at the end the lines meet in the point -/
theorem gj_end {n : Nat} {a : Nat → Nat → Int} {b : Nat → Int} {M : Nat → Nat → Int} {ah : Int} (hn : n ≤ 5) (ha : ∀ r, r < n → ∀ t, t < n → -3 ≤ a r t ∧ a r t ≤ 3) (hb : ∀ r, r < n → -100000 ≤ b r ∧ b r ≤ 100000) (h : gjS n a b n M ah) : ∃ (d s : Int), (s = 1 ∨ s = -1) ∧ 0 < d ∧ d ≤ 29160 ∧ ah = s * d ∧ (∀ r, r < n → -17496000000 ≤ s * M r 5 ∧ s * M r 5 ≤ 17496000000) ∧ ∀ r, r < n → sm n (fun t => a r t * (s * M t 5)) = b r * d := by
  obtain ⟨Cl, Rl, cell, rest, d, s, hT, h2, h3, h4, h5, h6, h7, h8⟩ := h
  have ss := sq1 h2
  have hM : ∀ r, r < n → s * M r 5 = rest r := fun r hr => by
    rw [(h8 r hr).2, ← Int.mul_assoc, ss, Int.one_mul]
  refine ⟨d, s, h2, hT.pos, hT.bdd (gA_bd ha), h3, fun r hr => by rw [hM r hr]; exact hT.bdr hn (gA_bd ha) (gK_bd hb) hr, fun r hr => ?_⟩
  obtain ⟨X, hX⟩ := hT.vert hn
  have hXr : ∀ t, t < n → X t = rest t := fun t ht => by
    have := hT.gap hn (fun j _ => gA_flat n a _) ht (gA_flat n a _) X d
    rw [sm_0 (fun j hj => by rw [hX j hj, Int.mul_zero]), Int.add_zero, h4 t ht, Int.mul_comm] at this
    have := Int.eq_of_mul_eq_mul_right (show d ≠ 0 by have := hT.pos; omega) this
    rw [← this]
    unfold gp
    rw [sm_one (k := t) (by omega) (fun u _ hne => by unfold gA; rw [if_neg (by omega), if_neg (by omega), Int.zero_mul])]
    unfold gA gK
    rw [if_neg (by omega), if_pos (by omega), if_neg (by omega)]
    omega
  have hg : gp (gA n a) (gK n b) r X d = 0 := by
    rcases h6 r hr with ⟨j, j1, j2⟩ | ⟨r', r1, r2, r3⟩
    · rw [← j2]; exact hX j j1
    · omega
  unfold gp at hg
  rw [sm_take hn (fun t h1 h2 => by rw [gA_flat n a r t h1 h2, Int.zero_mul])] at hg
  have e1 : gK n b r = b r := by unfold gK; rw [if_pos hr]
  rw [e1] at hg
  have e2 : sm n (fun t => a r t * (s * M t 5)) = sm n (fun t => gA n a r t * X t) := sm_congr (fun t ht => by
    rw [hM t ht, hXr t ht]
    unfold gA
    rw [if_pos (by omega), if_pos ⟨hr, ht⟩])
  rw [e2]
  omega
