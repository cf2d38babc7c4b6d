section END
variable {A : Nat → Nat → Int} {K ab be : Nat → Int} {lev : Nat → Nat} {P : Nat → Bool} {n m Kl : Nat}
/-- steps a to b that do not move, and the same rank at both ends: no -/
theorem no_stall (hn : n ≤ 5) (h1 : ∀ l, 0 ≤ ab l) (h2 : ∀ l, 0 ≤ be l) (hF : ∀ l, l < 14 → P l = true → flat A n l) {f : Nat → Dc} {a b : Nat} (hab : a < b) (hD : ∀ t, a ≤ t → t ≤ b → DI A K n m P (f t)) (hS : ∀ t, a ≤ t → t < b → ∃ q w r, dg ab be lev n m Kl (f t) (f (t + 1)) q w r)
    {u : Nat} (hu : ∀ l, u ≤ l → l < 14 → stf n m (f a) l = stf n m (f b) l) (hlow : ∀ l, l < u → stf n m (f a) l ≠ 0 ∧ stf n m (f b) l ≠ 0) : False := by
  -- one point for all
  obtain ⟨X, hXa⟩ := (hD a (Nat.le_refl _) (Nat.le_of_lt hab)).1.vert hn
  have hq0 := (hD a (Nat.le_refl _) (Nat.le_of_lt hab)).1.pos
  generalize (f a).2.2.1 = Xq at hXa hq0
  have hX : ∀ k, a + k ≤ b → vtx A K n (f (a + k)) X Xq := by
    intro k
    induction k with
    | zero => intro _; exact hXa
    | succ k ih =>
      intro hk
      obtain ⟨q, w, r, hdg⟩ := hS (a + k) (by omega) (by omega)
      exact dg_vtx hn hF (hD (a + k) (by omega) (by omega)) hdg (ih (by omega))
  have hXt : ∀ t, a ≤ t → t ≤ b → vtx A K n (f t) X Xq := fun t h3 h4 => by
    have := hX (t - a) (by omega)
    rw [show a + (t - a) = t by omega] at this
    exact this
  -- the greatest way that changes
  obtain ⟨M, ⟨t0, q0, w0, r0, ht0a, ht0b, hd0, hM⟩, hmax⟩ := top_of (Q := fun c => ∃ t q w r, a ≤ t ∧ t < b ∧ dg ab be lev n m Kl (f t) (f (t + 1)) q w r ∧ (c = vcode ((f t).1 q) w ∨ c = vcode ((f t).2.1 r) ((f t).2.2.2.2.2 r))) 28 (by
    rintro c ⟨t, q, w, r, g1, g2, g3, g4⟩
    have hp := (hD t g1 (by omega)).2.1
    have l1 := (hp.1 q g3.1.1).1
    have l2 := (hp.2.1 r g3.2.1).1
    rcases g4 with e | e <;> rw [e] <;> unfold vcode <;> split <;> omega) (by
    obtain ⟨q, w, r, h⟩ := hS a (Nat.le_refl _) hab
    exact ⟨_, a, q, w, r, Nat.le_refl _, hab, h, Or.inl rfl⟩)
  -- what is not said to change stays
  have keep1 : ∀ t, a ≤ t → t < b → ∀ q w r, dg ab be lev n m Kl (f t) (f (t + 1)) q w r → ∀ l s, vcode l s ≠ vcode ((f t).1 q) w → vcode l s ≠ vcode ((f t).2.1 r) ((f t).2.2.2.2.2 r) → (bas m (f (t + 1)) l s ↔ bas m (f t) l s) := by
    intro t g1 g2 q w r hdg l s c1 c2
    rw [dg_bas (hD t g1 (by omega)) hdg]
    constructor
    · rintro (⟨e1, e2⟩ | h)
      · exact absurd (by rw [e1, e2]) c1
      · exact h.1
    · intro h
      refine Or.inr ⟨h, fun e => c2 ?_⟩
      obtain ⟨i, hi, e1, e2⟩ := h
      have := (hD t g1 (by omega)).2.1.2.2.2.1 i r hi hdg.2.1 (e1.trans e)
      rw [← e1, ← e2, this]
  have keep : ∀ l s, M < vcode l s → ∀ k, a + k ≤ b → (bas m (f (a + k)) l s ↔ bas m (f a) l s) := by
    intro l s hc k
    induction k with
    | zero => intro _; exact Iff.rfl
    | succ k ih =>
      intro hk
      obtain ⟨q, w, r, hdg⟩ := hS (a + k) (by omega) (by omega)
      have m1 := hmax _ ⟨a + k, q, w, r, by omega, by omega, hdg, Or.inl rfl⟩
      have m2 := hmax _ ⟨a + k, q, w, r, by omega, by omega, hdg, Or.inr rfl⟩
      exact (keep1 (a + k) (by omega) (by omega) q w r hdg l s (by omega) (by omega)).trans (ih (by omega))
  have keepT : ∀ l s, M < vcode l s → ∀ t, a ≤ t → t ≤ b → (bas m (f t) l s ↔ bas m (f a) l s) := fun l s hc t g1 g2 => by
    have := keep l s hc (t - a) (by omega)
    rw [show a + (t - a) = t by omega] at this
    exact this
  -- the first step comes in at a column's line, all of which lie at u or above
  have lowM : ∀ l s, (s = 1 ∨ s = -1) → vcode l s = M → u ≤ l := by
    intro l s hs e
    obtain ⟨q, w, r, hdg⟩ := hS a (Nat.le_refl _) hab
    have m1 := hmax _ ⟨a, q, w, r, Nat.le_refl _, hab, hdg, Or.inl rfl⟩
    have hc : stf n m (f a) ((f a).1 q) = 0 := (stf_c _ _).mpr ⟨q, hdg.1.1, rfl⟩
    have : u ≤ (f a).1 q := by
      apply Classical.byContradiction
      intro z
      exact (hlow _ (by omega)).1 hc
    rw [← e] at m1
    unfold vcode at m1
    split at m1 <;> split at m1 <;> omega
  -- the two ends agree on the greatest way
  have agree : ∀ l s, (s = 1 ∨ s = -1) → vcode l s = M → l < 14 → P l = true → (bas m (f a) l s ↔ bas m (f b) l s) := by
    intro l s hs e hl hP
    have hul := lowM l s hs e
    have hst := hu l hul hl
    have Da := hD a (Nat.le_refl _) (Nat.le_of_lt hab)
    have Db := hD b (Nat.le_of_lt hab) (Nat.le_refl _)
    have side : ∀ D, DI A K n m P D → (bas m D l s ↔ stf n m D l = if s = 1 then 1 else 2) := fun D hDD => by
      rcases hs with rfl | rfl
      · rw [if_pos rfl]
        constructor
        · rintro ⟨i, hi, e1, e2⟩
          have c0 : ¬ stf n m D l = 0 := fun z => by
            obtain ⟨j, hj, e3⟩ := (stf_c D l).mp z
            exact hDD.2.1.2.2.2.2.1 i j hi hj (e1.trans e3.symm)
          have c2 : ¬ stf n m D l = 2 := fun z => by
            obtain ⟨k, hk, e3, e4⟩ := (stf_m hDD l).mp z
            have := hDD.2.1.2.2.2.1 i k hi hk (e1.trans e3.symm)
            subst this
            rw [e2] at e4; omega
          have := stf_3 (n := n) (m := m) D l
          omega
        · intro z
          rcases hDD.2.1.2.2.2.2.2 l hl hP with ⟨j, hj, e3⟩ | ⟨i, hi, e3⟩
          · have := (stf_c (m := m) D l).mpr ⟨j, hj, e3⟩
            omega
          · rcases hDD.2.2.1 i hi with e4 | e4
            · exact ⟨i, hi, e3, e4⟩
            · have := (stf_m hDD l).mpr ⟨i, hi, e3, e4⟩
              omega
      · rw [if_neg (by decide)]
        exact (stf_m hDD l).symm
    rw [side _ Da, side _ Db, hst]
  -- it goes out somewhere and comes in somewhere
  have both : (∃ t q w r, a ≤ t ∧ t < b ∧ dg ab be lev n m Kl (f t) (f (t + 1)) q w r ∧ M = vcode ((f t).1 q) w) ∧ (∃ t q w r, a ≤ t ∧ t < b ∧ dg ab be lev n m Kl (f t) (f (t + 1)) q w r ∧ M = vcode ((f t).2.1 r) ((f t).2.2.2.2.2 r)) := by
    have hp0 := (hD t0 ht0a (by omega)).2.1
    have hs0 := (hD t0 ht0a (by omega)).2.2.1
    rcases hM with hM | hM
    · refine ⟨⟨t0, q0, w0, r0, ht0a, ht0b, hd0, hM⟩, ?_⟩
      apply Classical.byContradiction
      intro hno
      have hl := hp0.1 q0 hd0.1.1
      -- basic once is basic ever after
      have up : ∀ k t, a ≤ t → t + k ≤ b → bas m (f t) ((f t0).1 q0) w0 → bas m (f (t + k)) ((f t0).1 q0) w0 := by
        intro k
        induction k with
        | zero => intro t _ _ h; exact h
        | succ k ih =>
          intro t g1 g2 h
          have hk := ih t g1 (by omega) h
          obtain ⟨q, w, r, hdg⟩ := hS (t + k) (by omega) (by omega)
          have := (dg_bas (hD (t + k) (by omega) (by omega)) hdg ((f t0).1 q0) w0).mpr
          refine this (Or.inr ⟨hk, fun e => hno ⟨t + k, q, w, r, by omega, by omega, hdg, ?_⟩⟩)
          obtain ⟨i, hi, e1, e2⟩ := hk
          have := (hD (t + k) (by omega) (by omega)).2.1.2.2.2.1 i r hi hdg.2.1 (e1.trans e)
          rw [hM, ← e1, ← e2, this]
      have nb0 : ¬ bas m (f t0) ((f t0).1 q0) w0 := fun ⟨i, hi, e1, _⟩ => hp0.2.2.2.2.1 i q0 hi hd0.1.1 e1
      have nba : ¬ bas m (f a) ((f t0).1 q0) w0 := fun h => nb0 (by
        have := up (t0 - a) a (Nat.le_refl _) (by omega) h
        rw [show a + (t0 - a) = t0 by omega] at this
        exact this)
      have b1 : bas m (f (t0 + 1)) ((f t0).1 q0) w0 := (dg_bas (hD t0 ht0a (by omega)) hd0 _ _).mpr (Or.inl ⟨rfl, rfl⟩)
      have bb : bas m (f b) ((f t0).1 q0) w0 := by
        have := up (b - (t0 + 1)) (t0 + 1) (by omega) (by omega) b1
        rw [show t0 + 1 + (b - (t0 + 1)) = b by omega] at this
        exact this
      exact nba ((agree _ _ hd0.1.2.1 hM.symm hl.1 hl.2).mpr bb)
    · refine ⟨?_, ⟨t0, q0, w0, r0, ht0a, ht0b, hd0, hM⟩⟩
      apply Classical.byContradiction
      intro hno
      have hl := hp0.2.1 r0 hd0.2.1
      generalize hl0 : (f t0).2.1 r0 = l0 at hM hl
      generalize hs00 : (f t0).2.2.2.2.2 r0 = s0 at hM
      have hss : s0 = 1 ∨ s0 = -1 := by rw [← hs00]; exact hs0 r0 hd0.2.1
      have down : ∀ k t, a ≤ t → t + k ≤ b → bas m (f (t + k)) l0 s0 → bas m (f t) l0 s0 := by
        intro k
        induction k with
        | zero => intro t _ _ h; exact h
        | succ k ih =>
          intro t g1 g2 h
          obtain ⟨q, w, r, hdg⟩ := hS (t + k) (by omega) (by omega)
          rcases (dg_bas (hD (t + k) (by omega) (by omega)) hdg l0 s0).mp h with ⟨e1, e2⟩ | h
          · exact absurd ⟨t + k, q, w, r, by omega, by omega, hdg, by rw [hM, e1, e2]⟩ hno
          · exact ih t g1 (by omega) h.1
      have b0 : bas m (f t0) l0 s0 := ⟨r0, hd0.2.1, hl0, hs00⟩
      have ba : bas m (f a) l0 s0 := down (t0 - a) a (Nat.le_refl _) (by omega) (by rw [show a + (t0 - a) = t0 by omega]; exact b0)
      have nb1 : ¬ bas m (f (t0 + 1)) l0 s0 := fun h => by
        rcases (dg_bas (hD t0 ht0a (by omega)) hd0 l0 s0).mp h with ⟨e1, e2⟩ | h
        · exact hno ⟨t0, q0, w0, r0, ht0a, ht0b, hd0, by rw [hM, e1, e2]⟩
        · exact h.2 hl0.symm
      have nbb : ¬ bas m (f b) l0 s0 := fun h => nb1 (down (b - (t0 + 1)) (t0 + 1) (by omega) (by omega) (by rw [show t0 + 1 + (b - (t0 + 1)) = b by omega]; exact h))
      exact nbb ((agree l0 s0 hss hM.symm hl.1 hl.2).mp ba)
  obtain ⟨⟨t1, q1, w1, r1, g1, g2, d1, e1⟩, ⟨t2, q2, w2, r2, g3, g4, d2, e2⟩⟩ := both
  have D1 := hD t1 g1 (by omega)
  have D2 := hD t2 g3 (by omega)
  have s2 := D2.2.2.1 r2 d2.2.1
  have vi := vcode_inj s2 d1.1.2.1 (e2.symm.trans e1)
  have m2 := hmax _ ⟨t2, q2, w2, r2, g3, g4, d2, Or.inl rfl⟩
  have ne2 : vcode ((f t2).1 q2) w2 ≠ M := fun z => by
    have := vcode_inj d2.1.2.1 s2 (z.trans e2)
    exact D2.2.1.2.2.2.2.1 r2 q2 d2.2.1 d2.1.1 this.1.symm
  exact bland (lev := lev) (Kl := Kl) hn h1 h2 hF D1.1 D1.2.1 D1.2.2.1 D1.2.2.2 D2.1 D2.2.1 D2.2.2.1 D2.2.2.2 hq0 (hXt t1 g1 (by omega)) (hXt t2 g3 (by omega)) d1.1.1 d1.1.2.1 d1.1.2.2.1 d1.1.2.2.2 d2.1.1 d2.1.2.1 d2.1.2.2.1 (by omega) d2.2.1 vi d2.2.2.2.1 d2.2.2.2.2.1 (fun i hi hno => by
    apply Classical.byContradiction
    intro hgt
    have k1 := keepT ((f t2).2.1 i) ((f t2).2.2.2.2.2 i) (by omega) t2 g3 (by omega)
    have k2 := keepT ((f t2).2.1 i) ((f t2).2.2.2.2.2 i) (by omega) t1 g1 (by omega)
    exact hno (k2.mpr (k1.mp ⟨i, hi, rfl, rfl⟩)))
theorem lxn_div {Kl : Nat} {c : Int} (hc : 0 < c) {v : Nat → Int} (h : lxn Kl (fun l => c * v l)) : lxn Kl v := by
  rcases lxn_or Kl v with g | g
  · exact g
  · exact absurd (lng_mul hc g) (fun z => lxn_not Kl _ h z)
theorem lng_add {Kl : Nat} {v w : Nat → Int} (h : lng Kl v) (g : lxn Kl (fun l => -(w l))) : lng Kl (fun l => v l + w l) := by
  rcases lxn_or Kl (fun l => v l + w l) with z | z
  · exact absurd h (fun h => lxn_not Kl v (lxn_congr (fun l _ => by show v l + w l + -(w l) = v l; omega) (lxn_add z g)) h)
  · exact z
/-- no walk is long -/
theorem walk_end (hn : n ≤ 5) (h1 : ∀ l, 0 ≤ ab l) (h2 : ∀ l, 0 ≤ be l) (hF : ∀ l, l < 14 → P l = true → flat A n l) {f : Nat → Dc} {T : Nat} (hD : ∀ t, t ≤ T → DI A K n m P (f t)) (hS : ∀ t, t < T → (∃ q w r, dg ab be lev n m Kl (f t) (f (t + 1)) q w r) ∨ bet A K ab be lev P n Kl (f t) (f (t + 1))) : T < 600000 := by
  apply Classical.byContradiction
  intro hT
  have hN : vv 14 n < 600000 := by
    have := vv_14
    rcases (show n = 0 ∨ n = 1 ∨ n = 2 ∨ n = 3 ∨ n = 4 ∨ n = 5 by omega) with rfl | rfl | rfl | rfl | rfl | rfl <;> omega
  obtain ⟨a, b, hab, hb, he⟩ := pigeon (vv 14 n) (fun t => rk 14 n (stf n m (f t))) (fun t ht => rk_lt _ 14 n (stf_n (hD t (by omega))))
  obtain ⟨u, hu14, hu, hlow⟩ := rk_inj _ _ (stf_3 (f a)) (stf_3 (f b)) 14 n (stf_n (hD a (by omega))) (stf_n (hD b (by omega))) he
  -- costs never rise
  have dpos : ∀ t, t ≤ T → 0 < (f t).2.2.1 := fun t ht => (hD t ht).1.pos
  have le1 : ∀ t, t < T → ∀ X X', vtx A K n (f t) X (f t).2.2.1 → vtx A K n (f (t + 1)) X' (f (t + 1)).2.2.1 → lxn Kl (fun L => (f (t + 1)).2.2.1 * tot A K ab be lev P L X (f t).2.2.1 - (f t).2.2.1 * tot A K ab be lev P L X' (f (t + 1)).2.2.1) := fun t ht X X' hX hX' => by
    rcases hS t ht with ⟨q, w, r, hdg⟩ | hb
    · have hv := dg_vtx hn hF (hD t (by omega)) hdg hX
      have := same_tot (ab := ab) (be := be) (lev := lev) (Int.le_of_lt (dpos t (by omega))) (Int.le_of_lt (dpos (t + 1) (by omega))) (fun l hl hP => same_pt hn hF (hD (t + 1) (by omega)) hv hX' hl hP)
      exact lxn_nn (fun L _ => by rw [this L]; omega)
    · exact lxn_congr (fun L _ => by omega) (lng_neg (hb X X' hX hX'))
  have le : ∀ k t, t + k ≤ T → ∀ X X', vtx A K n (f t) X (f t).2.2.1 → vtx A K n (f (t + k)) X' (f (t + k)).2.2.1 → lxn Kl (fun L => (f (t + k)).2.2.1 * tot A K ab be lev P L X (f t).2.2.1 - (f t).2.2.1 * tot A K ab be lev P L X' (f (t + k)).2.2.1) := by
    intro k
    induction k with
    | zero =>
      intro t ht X X' hX hX'
      have := same_tot (ab := ab) (be := be) (lev := lev) (Int.le_of_lt (dpos t ht)) (Int.le_of_lt (dpos t ht)) (fun l hl hP => same_pt hn hF (hD t ht) hX hX' hl hP)
      exact lxn_nn (fun L _ => by rw [show t + 0 = t from rfl, this L]; omega)
    | succ k ih =>
      intro t ht X X' hX hX'
      obtain ⟨Y, hY⟩ := (hD (t + k) (by omega)).1.vert hn
      have i1 := ih t (by omega) X Y hX hY
      have i2 := le1 (t + k) (by omega) Y X' hY hX'
      have j1 := lxn_mul (Int.le_of_lt (dpos (t + k + 1) (by omega))) i1
      have j2 := lxn_mul (Int.le_of_lt (dpos t (by omega))) i2
      refine lxn_div (dpos (t + k) (by omega)) (lxn_congr (fun L _ => ?_) (lxn_add j1 j2))
      show _ = (f (t + k)).2.2.1 * ((f (t + k + 1)).2.2.1 * _ - _)
      grind
  -- all steps between stand still
  have still : ∀ t, a ≤ t → t < b → ∃ q w r, dg ab be lev n m Kl (f t) (f (t + 1)) q w r := by
    intro t g1 g2
    rcases hS t (by omega) with h | hbt
    · exact h
    · exfalso
      obtain ⟨Xa, hXa⟩ := (hD a (by omega)).1.vert hn
      obtain ⟨Xb, hXb⟩ := (hD b (by omega)).1.vert hn
      obtain ⟨Y, hY⟩ := (hD t (by omega)).1.vert hn
      obtain ⟨Z, hZ⟩ := (hD (t + 1) (by omega)).1.vert hn
      have i1 := le (t - a) a (by omega) Xa Y hXa (by rw [show a + (t - a) = t by omega]; exact hY)
      rw [show a + (t - a) = t by omega] at i1
      have i2 := hbt Y Z hY hZ
      have i3 := le (b - (t + 1)) (t + 1) (by omega) Z Xb hZ (by rw [show t + 1 + (b - (t + 1)) = b by omega]; exact hXb)
      rw [show t + 1 + (b - (t + 1)) = b by omega] at i3
      -- the same columns: the same point
      have hXba : vtx A K n (f a) Xb (f b).2.2.1 := fun j hj => by
        have c0 : stf n m (f a) ((f a).1 j) = 0 := (stf_c _ _).mpr ⟨j, hj, rfl⟩
        have hl := ((hD a (by omega)).2.1.1 j hj).1
        have hul : u ≤ (f a).1 j := by
          apply Classical.byContradiction
          intro z
          exact (hlow _ (by omega)).1 c0
        rw [hu _ hul hl] at c0
        obtain ⟨k, hk, e⟩ := (stf_c _ _).mp c0
        rw [← e]
        exact hXb k hk
      have same := same_tot (ab := ab) (be := be) (lev := lev) (Int.le_of_lt (dpos a (by omega))) (Int.le_of_lt (dpos b (by omega))) (fun l hl hP => same_pt hn hF (hD a (by omega)) hXa hXba hl hP)
      have pa := dpos a (by omega)
      have pb := dpos b (by omega)
      have pt := dpos t (by omega)
      have ps := dpos (t + 1) (by omega)
      generalize (f a).2.2.1 = da at *
      generalize (f b).2.2.1 = db at *
      generalize (f t).2.2.1 = dt at *
      generalize (f (t + 1)).2.2.1 = ds at *
      -- ds (dt ca - da ct) , da (dt cs - ds ct) < 0, ..
      have k1 := lxn_mul (Int.le_of_lt (Int.mul_pos ps pb)) i1
      have k3 := lxn_mul (Int.le_of_lt (Int.mul_pos pa pt)) i3
      have k2 := lng_mul (Int.mul_pos pa pb) i2
      have sum := lxn_add k1 k3
      refine lxn_not Kl _ (lxn_congr (fun L _ => ?_) sum) k2
      have := same L
      grind
  exact no_stall hn h1 h2 hF hab (fun t g1 g2 => hD t (by omega)) still hu hlow
end END
