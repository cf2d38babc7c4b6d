def dv (C : Nat → Nat → Int) : Int := dt5 (C 0) (C 1) (C 2) (C 3) (C 4)
def uv (C : Nat → Nat → Int) (q : Nat) (x : Nat → Int) : Nat → Nat → Int := fun j => if j = q then x else C j
theorem five {P : Nat → Prop} {q : Nat} (hq : q < 5) (h0 : P 0) (h1 : P 1) (h2 : P 2) (h3 : P 3) (h4 : P 4) : P q := by
  rcases (show q = 0 ∨ q = 1 ∨ q = 2 ∨ q = 3 ∨ q = 4 by omega) with rfl | rfl | rfl | rfl | rfl <;> assumption
theorem dv_lin {q : Nat} (hq : q < 5) (C : Nat → Nat → Int) (x y : Int) (a b : Nat → Int) : dv (uv C q (fun t => x * a t + y * b t)) = x * dv (uv C q a) + y * dv (uv C q b) :=
  five (P := fun q => dv (uv C q (fun t => x * a t + y * b t)) = x * dv (uv C q a) + y * dv (uv C q b)) hq (dt5_l1 ..) (dt5_l2 ..) (dt5_l3 ..) (dt5_l4 ..) (dt5_l5 ..)
theorem dt5_ext {a b c d e a' b' c' d' e' : Nat → Int} (ha : ∀ t, t < 5 → a t = a' t) (hb : ∀ t, t < 5 → b t = b' t) (hc : ∀ t, t < 5 → c t = c' t) (hd : ∀ t, t < 5 → d t = d' t) (he : ∀ t, t < 5 → e t = e' t) : dt5 a b c d e = dt5 a' b' c' d' e' := by
  unfold dt5 dt4 dt3 dt2
  rw [ha 0 (by decide), ha 1 (by decide), ha 2 (by decide), ha 3 (by decide), ha 4 (by decide), hb 0 (by decide), hb 1 (by decide), hb 2 (by decide), hb 3 (by decide), hb 4 (by decide), hc 0 (by decide), hc 1 (by decide), hc 2 (by decide), hc 3 (by decide), hc 4 (by decide), hd 0 (by decide), hd 1 (by decide), hd 2 (by decide), hd 3 (by decide), hd 4 (by decide), he 0 (by decide), he 1 (by decide), he 2 (by decide), he 3 (by decide), he 4 (by decide)]
theorem dv_ext {C C' : Nat → Nat → Int} (h : ∀ j, j < 5 → ∀ t, t < 5 → C j t = C' j t) : dv C = dv C' := dt5_ext (h 0 (by decide)) (h 1 (by decide)) (h 2 (by decide)) (h 3 (by decide)) (h 4 (by decide))
theorem uv_at (C : Nat → Nat → Int) (q : Nat) (x : Nat → Int) : uv C q x q = x := by unfold uv; rw [if_pos rfl]
theorem uv_ne (C : Nat → Nat → Int) {q j : Nat} (x : Nat → Int) (h : j ≠ q) : uv C q x j = C j := by unfold uv; rw [if_neg h]
theorem uv_self (C : Nat → Nat → Int) (q : Nat) : uv C q (C q) = C := by
  funext j
  by_cases h : j = q
  · subst h; rw [uv_at]
  · rw [uv_ne _ _ h]
theorem uv_uv (C : Nat → Nat → Int) (q : Nat) (x y : Nat → Int) : uv (uv C q x) q y = uv C q y := by
  funext j
  by_cases h : j = q
  · subst h; rw [uv_at, uv_at]
  · rw [uv_ne _ _ h, uv_ne _ _ h, uv_ne _ _ h]
theorem uv_cm (C : Nat → Nat → Int) {q j : Nat} (x y : Nat → Int) (h : q ≠ j) : uv (uv C q x) j y = uv (uv C j y) q x := by
  funext k
  by_cases h1 : k = q
  · subst h1; rw [uv_ne _ _ h, uv_at, uv_at]
  · by_cases h2 : k = j
    · subst h2; rw [uv_at, uv_ne _ _ h1, uv_at]
    · rw [uv_ne _ _ h2, uv_ne _ _ h1, uv_ne _ _ h1, uv_ne _ _ h2]
theorem dv_alt0 (C : Nat → Nat → Int) : (C 0 = C 1 ∨ C 0 = C 2 ∨ C 0 = C 3 ∨ C 0 = C 4 ∨ C 1 = C 2 ∨ C 1 = C 3 ∨ C 1 = C 4 ∨ C 2 = C 3 ∨ C 2 = C 4 ∨ C 3 = C 4) → dv C = 0 := by
  unfold dv
  rintro (h | h | h | h | h | h | h | h | h | h)
  · rw [← h]; exact dt5_a01 ..
  · rw [← h]; exact dt5_a02 ..
  · rw [← h]; exact dt5_a03 ..
  · rw [← h]; exact dt5_a04 ..
  · rw [← h]; exact dt5_a12 ..
  · rw [← h]; exact dt5_a13 ..
  · rw [← h]; exact dt5_a14 ..
  · rw [← h]; exact dt5_a23 ..
  · rw [← h]; exact dt5_a24 ..
  · rw [← h]; exact dt5_a34 ..
theorem dv_alt {C : Nat → Nat → Int} {p q : Nat} (hp : p < 5) (hq : q < 5) (hne : p ≠ q) (h : C p = C q) : dv C = 0 := by
  apply dv_alt0
  rcases (show p = 0 ∨ p = 1 ∨ p = 2 ∨ p = 3 ∨ p = 4 by omega) with rfl | rfl | rfl | rfl | rfl <;>
  rcases (show q = 0 ∨ q = 1 ∨ q = 2 ∨ q = 3 ∨ q = 4 by omega) with rfl | rfl | rfl | rfl | rfl <;>
  first | exact absurd rfl hne | simp [h] | simp [← h]
theorem dv_o {C : Nat → Nat → Int} {p q : Nat} (hp : p < 5) (hq : q < 5) (hne : p ≠ q) : dv (uv C q (C p)) = 0 :=
  dv_alt hp hq hne (by rw [uv_at, uv_ne _ _ hne])
theorem dv_z {q : Nat} (hq : q < 5) (C : Nat → Nat → Int) : dv (uv C q (fun _ => 0)) = 0 := by
  have := dv_lin hq C 0 0 (fun _ => 0) (fun _ => 0)
  simp at this
  exact this
theorem dv_c {q : Nat} (hq : q < 5) (C : Nat → Nat → Int) (x : Int) (a : Nat → Int) : dv (uv C q (fun t => x * a t)) = x * dv (uv C q a) := by
  have := dv_lin hq C x 0 a (fun _ => 0)
  simp at this
  exact this
theorem dv_p {q : Nat} (hq : q < 5) (C : Nat → Nat → Int) (a b : Nat → Int) : dv (uv C q (fun t => a t + b t)) = dv (uv C q a) + dv (uv C q b) := by
  have := dv_lin hq C 1 1 a b
  simp at this
  exact this
theorem dv_sm {q : Nat} (hq : q < 5) (C : Nat → Nat → Int) (c : Nat → Int) (v : Nat → Nat → Int) (n : Nat) : dv (uv C q (fun t => sm n (fun i => c i * v i t))) = sm n (fun i => c i * dv (uv C q (v i))) := by
  induction n with
  | zero => exact dv_z hq C
  | succ n ih =>
    show dv (uv C q (fun t => sm n (fun i => c i * v i t) + c n * v n t)) = sm n _ + c n * _
    rw [dv_p hq, ih, dv_c hq]
theorem crm {t : Nat} (ht : t < 5) (C : Nat → Nat → Int) (x : Nat → Int) : dv C * x t = sm 5 (fun j => dv (uv C j x) * C j t) := by
  have key : ∀ t, t < 5 → dv C * x t = dt5 x (C 1) (C 2) (C 3) (C 4) * C 0 t + dt5 (C 0) x (C 2) (C 3) (C 4) * C 1 t + dt5 (C 0) (C 1) x (C 3) (C 4) * C 2 t + dt5 (C 0) (C 1) (C 2) x (C 4) * C 3 t + dt5 (C 0) (C 1) (C 2) (C 3) x * C 4 t := fun t ht =>
    five (P := fun t => dv C * x t = dt5 x (C 1) (C 2) (C 3) (C 4) * C 0 t + dt5 (C 0) x (C 2) (C 3) (C 4) * C 1 t + dt5 (C 0) (C 1) x (C 3) (C 4) * C 2 t + dt5 (C 0) (C 1) (C 2) x (C 4) * C 3 t + dt5 (C 0) (C 1) (C 2) (C 3) x * C 4 t) ht (crm0 ..) (crm1 ..) (crm2 ..) (crm3 ..) (crm4 ..)
  rw [key t ht]
  show _ = 0 + _ + _ + _ + _ + _
  rw [Int.zero_add]
  rfl
theorem dv_sw {C : Nat → Nat → Int} {q j : Nat} (hq : q < 5) (hj : j < 5) (hne : q ≠ j) (a b : Nat → Int) : dv (uv (uv C q a) j b) = - dv (uv (uv C q b) j a) := by
  have h0 : ∀ x : Nat → Int, dv (uv (uv C q x) j x) = 0 := fun x => dv_alt hq hj hne (by rw [uv_at, uv_ne _ _ hne, uv_at])
  have h1 := h0 (fun t => a t + b t)
  rw [dv_p hj, uv_cm C _ _ hne, uv_cm C _ _ hne, dv_p hq, dv_p hq, ← uv_cm C _ _ hne, ← uv_cm C _ _ hne, ← uv_cm C _ _ hne, ← uv_cm C _ _ hne, h0 a, h0 b] at h1
  omega
/-- the three-term relation -/
theorem plu {C : Nat → Nat → Int} {q j : Nat} (hq : q < 5) (hj : j < 5) (hne : q ≠ j) (r k : Nat → Int) : dv C * dv (uv (uv C q r) j k) = dv (uv C j k) * dv (uv C q r) - dv (uv C q k) * dv (uv C j r) := by
  rw [← dv_c hj]
  have e : dv (uv (uv C q r) j (fun t => dv C * k t)) = dv (uv (uv C q r) j (fun t => sm 5 (fun i => dv (uv C i k) * C i t))) := by
    apply dv_ext
    intro i hi t ht
    by_cases h : i = j
    · subst h; rw [uv_at, uv_at]; exact crm ht C k
    · rw [uv_ne _ _ h, uv_ne _ _ h]
  rw [e, dv_sm hj]
  have z : ∀ i, i < 5 → i ≠ q → i ≠ j → dv (uv (uv C q r) j (C i)) = 0 := fun i hi h1 h2 => by
    apply dv_alt hi hj h2
    rw [uv_at, uv_ne _ _ h2, uv_ne _ _ h1]
  have ej : dv (uv (uv C q r) j (C j)) = dv (uv C q r) := by
    have := uv_self (uv C q r) j
    rw [uv_ne _ _ (fun e => hne e.symm)] at this
    rw [this]
  have eq : dv (uv (uv C q r) j (C q)) = - dv (uv C j r) := by
    rw [dv_sw hq hj hne]
    rw [uv_self]
  rw [sm_out j hj, sm_out q hq, if_neg hne, ej, eq, sm_0, Int.mul_neg]
  · omega
  · intro i hi
    by_cases h1 : i = q
    · rw [if_pos h1]
    · rw [if_neg h1]
      by_cases h2 : i = j
      · rw [if_pos h2]
      · rw [if_neg h2, z i hi h1 h2, Int.mul_zero]
/-- how large they are -/
theorem mul_le3 {a b B : Int} (ha : -3 ≤ a ∧ a ≤ 3) (hb : -B ≤ b ∧ b ≤ B) : -(3 * B) ≤ a * b ∧ a * b ≤ 3 * B := by
  have hB : 0 ≤ B := by omega
  rcases (show a = -3 ∨ a = -2 ∨ a = -1 ∨ a = 0 ∨ a = 1 ∨ a = 2 ∨ a = 3 by omega) with rfl | rfl | rfl | rfl | rfl | rfl | rfl <;> omega
theorem dv_bd {C : Nat → Nat → Int} (h : ∀ j t, -3 ≤ C j t ∧ C j t ≤ 3) : -29160 ≤ dv C ∧ dv C ≤ 29160 := by
  have b2 : ∀ i j k l, -18 ≤ dt2 (C i) (C j) k l ∧ dt2 (C i) (C j) k l ≤ 18 := fun i j k l => by
    unfold dt2
    have h1 := mul_le3 (B := 3) (h i k) (h j l)
    have h2 := mul_le3 (B := 3) (h i l) (h j k)
    omega
  have b3 : ∀ i j k x y z, -162 ≤ dt3 (C i) (C j) (C k) x y z ∧ dt3 (C i) (C j) (C k) x y z ≤ 162 := fun i j k x y z => by
    unfold dt3
    have h1 := mul_le3 (B := 18) (h i x) (b2 j k y z)
    have h2 := mul_le3 (B := 18) (h i y) (b2 j k x z)
    have h3 := mul_le3 (B := 18) (h i z) (b2 j k x y)
    omega
  have b4 : ∀ i j k l x y z w, -1944 ≤ dt4 (C i) (C j) (C k) (C l) x y z w ∧ dt4 (C i) (C j) (C k) (C l) x y z w ≤ 1944 := fun i j k l x y z w => by
    unfold dt4
    have h1 := mul_le3 (B := 162) (h i x) (b3 j k l y z w)
    have h2 := mul_le3 (B := 162) (h i y) (b3 j k l x z w)
    have h3 := mul_le3 (B := 162) (h i z) (b3 j k l x y w)
    have h4 := mul_le3 (B := 162) (h i w) (b3 j k l x y z)
    omega
  unfold dv dt5
  have h1 := mul_le3 (B := 1944) (h 0 0) (b4 1 2 3 4 1 2 3 4)
  have h2 := mul_le3 (B := 1944) (h 0 1) (b4 1 2 3 4 0 2 3 4)
  have h3 := mul_le3 (B := 1944) (h 0 2) (b4 1 2 3 4 0 1 3 4)
  have h4 := mul_le3 (B := 1944) (h 0 3) (b4 1 2 3 4 0 1 2 4)
  have h5 := mul_le3 (B := 1944) (h 0 4) (b4 1 2 3 4 0 1 2 3)
  omega
def unit (j t : Nat) : Int := if j = t then 1 else 0
theorem dv_unit : dv unit = 1 := by decide +kernel
