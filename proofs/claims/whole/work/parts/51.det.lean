/-! five vectors -/
def dt2 (a b : Nat → Int) (i j : Nat) : Int := a i * b j - a j * b i
def dt3 (a b c : Nat → Int) (i j k : Nat) : Int := a i * dt2 b c j k - a j * dt2 b c i k + a k * dt2 b c i j
def dt4 (a b c d : Nat → Int) (i j k l : Nat) : Int := a i * dt3 b c d j k l - a j * dt3 b c d i k l + a k * dt3 b c d i j l - a l * dt3 b c d i j k
def dt5 (a b c d e : Nat → Int) : Int := a 0 * dt4 b c d e 1 2 3 4 - a 1 * dt4 b c d e 0 2 3 4 + a 2 * dt4 b c d e 0 1 3 4 - a 3 * dt4 b c d e 0 1 2 4 + a 4 * dt4 b c d e 0 1 2 3
theorem dt2_l1 (x y : Int) (a b c : Nat → Int) (i j : Nat) : dt2 (fun t => x * a t + y * b t) c i j = x * dt2 a c i j + y * dt2 b c i j := by unfold dt2; grind
theorem dt2_l2 (x y : Int) (a b c : Nat → Int) (i j : Nat) : dt2 c (fun t => x * a t + y * b t) i j = x * dt2 c a i j + y * dt2 c b i j := by unfold dt2; grind
theorem dt3_l1 (x y : Int) (a b c d : Nat → Int) (i j k : Nat) : dt3 (fun t => x * a t + y * b t) c d i j k = x * dt3 a c d i j k + y * dt3 b c d i j k := by unfold dt3; grind
theorem dt3_l2 (x y : Int) (a b c d : Nat → Int) (i j k : Nat) : dt3 c (fun t => x * a t + y * b t) d i j k = x * dt3 c a d i j k + y * dt3 c b d i j k := by unfold dt3; simp only [dt2_l1]; grind
theorem dt3_l3 (x y : Int) (a b c d : Nat → Int) (i j k : Nat) : dt3 c d (fun t => x * a t + y * b t) i j k = x * dt3 c d a i j k + y * dt3 c d b i j k := by unfold dt3; simp only [dt2_l2]; grind
theorem dt4_l1 (x y : Int) (a b c d e : Nat → Int) (i j k l : Nat) : dt4 (fun t => x * a t + y * b t) c d e i j k l = x * dt4 a c d e i j k l + y * dt4 b c d e i j k l := by unfold dt4; grind
theorem dt4_l2 (x y : Int) (a b c d e : Nat → Int) (i j k l : Nat) : dt4 c (fun t => x * a t + y * b t) d e i j k l = x * dt4 c a d e i j k l + y * dt4 c b d e i j k l := by unfold dt4; simp only [dt3_l1]; grind
theorem dt4_l3 (x y : Int) (a b c d e : Nat → Int) (i j k l : Nat) : dt4 c d (fun t => x * a t + y * b t) e i j k l = x * dt4 c d a e i j k l + y * dt4 c d b e i j k l := by unfold dt4; simp only [dt3_l2]; grind
theorem dt4_l4 (x y : Int) (a b c d e : Nat → Int) (i j k l : Nat) : dt4 c d e (fun t => x * a t + y * b t) i j k l = x * dt4 c d e a i j k l + y * dt4 c d e b i j k l := by unfold dt4; simp only [dt3_l3]; grind
theorem dt5_l1 (x y : Int) (a b c d e f : Nat → Int) : dt5 (fun t => x * a t + y * b t) c d e f = x * dt5 a c d e f + y * dt5 b c d e f := by unfold dt5; grind
theorem dt5_l2 (x y : Int) (a b c d e f : Nat → Int) : dt5 c (fun t => x * a t + y * b t) d e f = x * dt5 c a d e f + y * dt5 c b d e f := by unfold dt5; simp only [dt4_l1]; grind
theorem dt5_l3 (x y : Int) (a b c d e f : Nat → Int) : dt5 c d (fun t => x * a t + y * b t) e f = x * dt5 c d a e f + y * dt5 c d b e f := by unfold dt5; simp only [dt4_l2]; grind
theorem dt5_l4 (x y : Int) (a b c d e f : Nat → Int) : dt5 c d e (fun t => x * a t + y * b t) f = x * dt5 c d e a f + y * dt5 c d e b f := by unfold dt5; simp only [dt4_l3]; grind
theorem dt5_l5 (x y : Int) (a b c d e f : Nat → Int) : dt5 c d e f (fun t => x * a t + y * b t) = x * dt5 c d e f a + y * dt5 c d e f b := by unfold dt5; simp only [dt4_l4]; grind
theorem dt5_a01 (a c d e : Nat → Int) : dt5 a a c d e = 0 := by unfold dt5 dt4 dt3 dt2; grind
theorem dt5_a02 (a b d e : Nat → Int) : dt5 a b a d e = 0 := by unfold dt5 dt4 dt3 dt2; grind
theorem dt5_a03 (a b c e : Nat → Int) : dt5 a b c a e = 0 := by unfold dt5 dt4 dt3 dt2; grind
theorem dt5_a04 (a b c d : Nat → Int) : dt5 a b c d a = 0 := by unfold dt5 dt4 dt3 dt2; grind
theorem dt5_a12 (a b d e : Nat → Int) : dt5 a b b d e = 0 := by unfold dt5 dt4 dt3 dt2; grind
theorem dt5_a13 (a b c e : Nat → Int) : dt5 a b c b e = 0 := by unfold dt5 dt4 dt3 dt2; grind
theorem dt5_a14 (a b c d : Nat → Int) : dt5 a b c d b = 0 := by unfold dt5 dt4 dt3 dt2; grind
theorem dt5_a23 (a b c e : Nat → Int) : dt5 a b c c e = 0 := by unfold dt5 dt4 dt3 dt2; grind
theorem dt5_a24 (a b c d : Nat → Int) : dt5 a b c d c = 0 := by unfold dt5 dt4 dt3 dt2; grind
theorem dt5_a34 (a b c d : Nat → Int) : dt5 a b c d d = 0 := by unfold dt5 dt4 dt3 dt2; grind
theorem crm0 (a b c d e x : Nat → Int) : dt5 a b c d e * x 0 = dt5 x b c d e * a 0 + dt5 a x c d e * b 0 + dt5 a b x d e * c 0 + dt5 a b c x e * d 0 + dt5 a b c d x * e 0 := by unfold dt5 dt4 dt3 dt2; grind
theorem crm1 (a b c d e x : Nat → Int) : dt5 a b c d e * x 1 = dt5 x b c d e * a 1 + dt5 a x c d e * b 1 + dt5 a b x d e * c 1 + dt5 a b c x e * d 1 + dt5 a b c d x * e 1 := by unfold dt5 dt4 dt3 dt2; grind
theorem crm2 (a b c d e x : Nat → Int) : dt5 a b c d e * x 2 = dt5 x b c d e * a 2 + dt5 a x c d e * b 2 + dt5 a b x d e * c 2 + dt5 a b c x e * d 2 + dt5 a b c d x * e 2 := by unfold dt5 dt4 dt3 dt2; grind
theorem crm3 (a b c d e x : Nat → Int) : dt5 a b c d e * x 3 = dt5 x b c d e * a 3 + dt5 a x c d e * b 3 + dt5 a b x d e * c 3 + dt5 a b c x e * d 3 + dt5 a b c d x * e 3 := by unfold dt5 dt4 dt3 dt2; grind
theorem crm4 (a b c d e x : Nat → Int) : dt5 a b c d e * x 4 = dt5 x b c d e * a 4 + dt5 a x c d e * b 4 + dt5 a b x d e * c 4 + dt5 a b c x e * d 4 + dt5 a b c d x * e 4 := by unfold dt5 dt4 dt3 dt2; grind
