/-! the mini machine: values, a flat memory, one instruction, runs -/
abbrev mV : Type := Int ⊕ (Int ⊕ Option Nat)
abbrev mL : Type := List (Option mV)
abbrev mIv : Type := Nat → Nat → Int
abbrev mRv : Type := Nat → Nat → Option Nat
def w32 (x : Int) : Int := Int.bmod x 4294967296
def w64 (x : Int) : Int := Int.bmod x 18446744073709551616
def st2 {α : Type} (f : Nat → Nat → α) (p k : Nat) (v : α) : Nat → Nat → α := fun q j => if q = p ∧ j = k then v else f q j
def lk {α : Type} : List (Nat × α) → Nat → Option α
  | [], _ => none
  | e :: r, k => match Nat.beq e.1 k with
    | true => some e.2
    | false => lk r k
def lk2 {α : Type} : List (Nat × Nat × α) → Nat → Nat → Option α
  | [], _, _ => none
  | e :: r, o, k => match Nat.beq e.1 o && Nat.beq e.2.1 k with
    | true => some e.2.2
    | false => lk2 r o k
def lk3 : List (Nat × Nat) → Nat → Nat → Bool
  | [], _, _ => false
  | e :: r, o, k => match Nat.beq e.1 o && Nat.beq e.2 k with
    | true => true
    | false => lk3 r o k
/-- the places: (0, type, length) a row of numbers, (1, type, length) a row of references, (2, class, fields) an object -/
def SHs : List (Nat × Nat × Nat) := [(2, 2, 10), (0, 0, 5), (0, 0, 5), (0, 0, 5), (0, 1, 5), (1, 3, 9),
  (2, 1, 7), (0, 0, 5), (2, 1, 7), (0, 0, 5), (2, 1, 7), (0, 0, 5), (2, 1, 7), (0, 0, 5), (2, 1, 7), (0, 0, 5), (2, 1, 7), (0, 0, 5), (2, 1, 7), (0, 0, 5), (2, 1, 7), (0, 0, 5), (2, 1, 7), (0, 0, 5),
  (2, 0, 16), (0, 1, 5), (0, 0, 9), (0, 0, 9), (0, 0, 5), (0, 1, 9), (1, 4, 9), (0, 1, 5), (0, 1, 5), (0, 1, 5), (0, 1, 5), (0, 1, 5), (0, 1, 5), (0, 1, 5), (0, 1, 5), (0, 1, 5), (0, 0, 5), (0, 0, 14), (0, 0, 14), (0, 0, 14), (0, 1, 45),
  (2, 0, 16), (0, 1, 5), (0, 0, 9), (0, 0, 9), (0, 0, 5), (0, 1, 9), (1, 4, 9), (0, 1, 5), (0, 1, 5), (0, 1, 5), (0, 1, 5), (0, 1, 5), (0, 1, 5), (0, 1, 5), (0, 1, 5), (0, 1, 5), (0, 0, 5), (0, 0, 14), (0, 0, 14), (0, 0, 14), (0, 1, 45),
  (2, 3, 21), (0, 0, 5), (0, 0, 5), (0, 2, 9), (0, 0, 9), (0, 0, 9), (0, 0, 9), (0, 0, 9), (0, 2, 9), (0, 0, 45), (0, 1, 30), (0, 1, 5), (0, 1, 5), (0, 1, 8), (0, 1, 8), (0, 0, 5)]
def shk (p : Nat) : Nat × Nat × Nat := SHs.getD p (0, 0, 0)
def isO (p c : Nat) : Prop := shk p = (2, c, fNk c)
def isA (p t : Nat) : Prop := (shk p).1 = 0 ∧ (shk p).2.1 = t
def isQ (p : Nat) : Prop := (shk p).1 = 1
def sln (p : Nat) : Int := ((shk p).2.2 : Nat)
def mln (iv : mIv) (p : Nat) : Int := if p = 1000000 then iv 1000001 0 else sln p
def isR (p : Nat) : Prop := (p < 82 ∨ p = 1000000) ∧ (shk p).1 ≤ 1
def cpyv (iv : mIv) (r q : Nat) (a d n : Int) : mIv := fun y j => if y = q ∧ d ≤ (j : Int) ∧ (j : Int) < d + n then iv r (a.toNat + (j - d.toNat)) else iv y j
def isC (p q : Nat) : Prop := p < 82 ∧ q < 82 ∧ (shk p).1 = 0 ∧ (shk q).1 = 0 ∧ (shk p).2.1 = (shk q).2.1 ∧ (shk p).2.1 < 2
def mget : mL → Nat → Option mV
  | [], _ => none
  | x :: _, 0 => x
  | _ :: r, k + 1 => mget r k
def mkl (L : mL) (i : Nat) : mL := match i with
  | 0 => L
  | j + 1 => match mget L j with
    | some (.inr (.inl _)) => L.set j none
    | _ => L
def mset1 (L : mL) (i : Nat) (v : mV) : Option mL := match Nat.blt i L.length with
  | true => some ((mkl L i).set i (some v))
  | false => none
def mset2 (L : mL) (i : Nat) (v : mV) : Option mL := match Nat.blt (i + 1) L.length with
  | true => some (((mkl L i).set i (some v)).set (i + 1) none)
  | false => none
def mconj : List Prop → Prop → Prop
  | [], P => P
  | c :: cs, P => c ∧ mconj cs P
def mball : List (Prop × Nat) → (Nat → Prop) → Prop
  | [], _ => True
  | b :: bs, P => (b.1 → P b.2) ∧ mball bs P
def lcv (x y : Int) : Int := if y < x then 1 else if x = y then 0 else -1
def mib : Instr → Option (Int → Int → Int)
  | .iadd => some (fun x y => w32 (x + y))
  | .isub => some (fun x y => w32 (x - y))
  | .imul => some (fun x y => w32 (x * y))
  | .iand => some (fun x y => (Int32.ofInt x &&& Int32.ofInt y).toInt)
  | .ior => some (fun x y => (Int32.ofInt x ||| Int32.ofInt y).toInt)
  | .ixor => some (fun x y => (Int32.ofInt x ^^^ Int32.ofInt y).toInt)
  | .ishl => some (fun x y => (Int32.ofInt x <<< (Int32.ofInt y &&& 31)).toInt)
  | .ishr => some (fun x y => (Int32.ofInt x >>> (Int32.ofInt y &&& 31)).toInt)
  | .iushr => some (fun x y => ((Int32.ofInt x).toUInt32 >>> ((Int32.ofInt y).toUInt32 &&& Int32.toUInt32 31)).toInt32.toInt)
  | _ => none
def mlb : Instr → Option (Int → Int → Int)
  | .ladd => some (fun x y => w64 (x + y))
  | .lsub => some (fun x y => w64 (x - y))
  | .lmul => some (fun x y => w64 (x * y))
  | .lxor => some (fun x y => (Int64.ofInt x ^^^ Int64.ofInt y).toInt)
  | _ => none
def mcat : List mV → Nat
  | [] => 0
  | .inr (.inl _) :: r => 2 + mcat r
  | _ :: r => 1 + mcat r
abbrev mSt : Type := Nat × mL × List mV × mIv × mRv
/-- an instruction that goes on at one place: what must hold, and where it goes on -/
def mnx (o : Nat) (i : Instr) (n : Nat) (pc : Nat) (L : mL) (st : List mV) (iv : mIv) (rv : mRv) : Option (List Prop × mSt) := match i with
  | .iconst v => some ([], pc + n, L, .inl v :: st, iv, rv)
  | .bipush v => some ([], pc + n, L, .inl v :: st, iv, rv)
  | .sipush v => some ([], pc + n, L, .inl v :: st, iv, rv)
  | .lconst v => some ([], pc + n, L, .inr (.inl (v.val : Nat)) :: st, iv, rv)
  | .ldc ix => match lk2 CTb o ix with
    | some v => some ([], pc + n, L, .inl v :: st, iv, rv)
    | none => none
  | .ldc_w ix => match lk2 CTb o ix with
    | some v => some ([], pc + n, L, .inl v :: st, iv, rv)
    | none => none
  | .ldc2_w ix => match lk2 DTb o ix with
    | some v => some ([], pc + n, L, .inr (.inl v) :: st, iv, rv)
    | none => none
  | .iload_n k => match mget L k.val with
    | some (.inl x) => some ([], pc + n, L, .inl x :: st, iv, rv)
    | _ => none
  | .iload k => match mget L k with
    | some (.inl x) => some ([], pc + n, L, .inl x :: st, iv, rv)
    | _ => none
  | .lload_n k => match mget L k.val with
    | some (.inr (.inl x)) => some ([], pc + n, L, .inr (.inl x) :: st, iv, rv)
    | _ => none
  | .lload k => match mget L k with
    | some (.inr (.inl x)) => some ([], pc + n, L, .inr (.inl x) :: st, iv, rv)
    | _ => none
  | .aload_n k => match mget L k.val with
    | some (.inr (.inr (some x))) => some ([], pc + n, L, .inr (.inr (some x)) :: st, iv, rv)
    | _ => none
  | .aload k => match mget L k with
    | some (.inr (.inr (some x))) => some ([], pc + n, L, .inr (.inr (some x)) :: st, iv, rv)
    | _ => none
  | .istore_n k => match st with
    | .inl x :: r => match mset1 L k.val (.inl x) with
      | some L' => some ([], pc + n, L', r, iv, rv)
      | none => none
    | _ => none
  | .istore k => match st with
    | .inl x :: r => match mset1 L k (.inl x) with
      | some L' => some ([], pc + n, L', r, iv, rv)
      | none => none
    | _ => none
  | .lstore_n k => match st with
    | .inr (.inl x) :: r => match mset2 L k.val (.inr (.inl x)) with
      | some L' => some ([], pc + n, L', r, iv, rv)
      | none => none
    | _ => none
  | .lstore k => match st with
    | .inr (.inl x) :: r => match mset2 L k (.inr (.inl x)) with
      | some L' => some ([], pc + n, L', r, iv, rv)
      | none => none
    | _ => none
  | .astore_n k => match st with
    | .inr (.inr (some x)) :: r => match mset1 L k.val (.inr (.inr (some x))) with
      | some L' => some ([], pc + n, L', r, iv, rv)
      | none => none
    | _ => none
  | .astore k => match st with
    | .inr (.inr (some x)) :: r => match mset1 L k (.inr (.inr (some x))) with
      | some L' => some ([], pc + n, L', r, iv, rv)
      | none => none
    | _ => none
  | .iinc k v => match mget L k with
    | some (.inl x) => match mset1 L k (.inl (w32 (x + v))) with
      | some L' => some ([], pc + n, L', st, iv, rv)
      | none => none
    | _ => none
  | .ineg => match st with
    | .inl x :: r => some ([], pc + n, L, .inl (w32 (-x)) :: r, iv, rv)
    | _ => none
  | .lneg => match st with
    | .inr (.inl x) :: r => some ([], pc + n, L, .inr (.inl (w64 (-x))) :: r, iv, rv)
    | _ => none
  | .i2l => match st with
    | .inl x :: r => some ([], pc + n, L, .inr (.inl x) :: r, iv, rv)
    | _ => none
  | .l2i => match st with
    | .inr (.inl x) :: r => some ([], pc + n, L, .inl (w32 x) :: r, iv, rv)
    | _ => none
  | .lcmp => match st with
    | .inr (.inl y) :: .inr (.inl x) :: r => some ([], pc + n, L, .inl (lcv x y) :: r, iv, rv)
    | _ => none
  | .ldiv => match st with
    | .inr (.inl y) :: .inr (.inl x) :: r => some ([y ≠ 0], pc + n, L, .inr (.inl (w64 (x.tdiv y))) :: r, iv, rv)
    | _ => none
  | .lrem => match st with
    | .inr (.inl y) :: .inr (.inl x) :: r => some ([y ≠ 0], pc + n, L, .inr (.inl (x.tmod y)) :: r, iv, rv)
    | _ => none
  | .dup => match st with
    | .inl x :: r => some ([], pc + n, L, .inl x :: .inl x :: r, iv, rv)
    | .inr (.inr x) :: r => some ([], pc + n, L, .inr (.inr x) :: .inr (.inr x) :: r, iv, rv)
    | _ => none
  | .dup2 => match st with
    | .inr (.inl x) :: r => some ([], pc + n, L, .inr (.inl x) :: .inr (.inl x) :: r, iv, rv)
    | .inl x :: .inr (.inr y) :: r => some ([], pc + n, L, .inl x :: .inr (.inr y) :: .inl x :: .inr (.inr y) :: r, iv, rv)
    | _ => none
  | .goto off => match Int.decLt ((pc : Int) + off) 0 with
    | .isTrue _ => none
    | .isFalse _ => some ([], ((pc : Int) + off).toNat, L, st, iv, rv)
  | .getfield ix => match lk2 FTb o ix with
    | some (c, k) => match st with
      | .inr (.inr (some p)) :: r => match fCd c k with
        | 1 => some ([isO p c], pc + n, L, .inr (.inl (iv p k)) :: r, iv, rv)
        | 3 => some ([isO p c, (rv p k).isSome = true], pc + n, L, .inr (.inr (some ((rv p k).getD 0))) :: r, iv, rv)
        | _ => some ([isO p c], pc + n, L, .inl (iv p k) :: r, iv, rv)
      | _ => none
    | none => none
  | .putfield ix => match lk2 FTb o ix with
    | some (c, k) => match fFn c k with
      | true => none
      | false => match fCd c k, st with
        | 0, .inl x :: .inr (.inr (some p)) :: r => some ([isO p c], pc + n, L, r, st2 iv p k x, rv)
        | 1, .inr (.inl x) :: .inr (.inr (some p)) :: r => some ([isO p c], pc + n, L, r, st2 iv p k x, rv)
        | 2, .inl x :: .inr (.inr (some p)) :: r => some ([isO p c, x = 0 ∨ x = 1], pc + n, L, r, st2 iv p k x, rv)
        | 3, .inr (.inr (some q)) :: .inr (.inr (some p)) :: r => some ([isO p c], pc + n, L, r, iv, st2 rv p k (some q))
        | _, _ => none
    | none => none
  | .arraylength => match st with
    | .inr (.inr (some p)) :: r => some ([isR p], pc + n, L, .inl (mln iv p) :: r, iv, rv)
    | _ => none
  | .iaload => match st with
    | .inl j :: .inr (.inr (some p)) :: r => some ([isA p 0, 0 ≤ j, j < mln iv p], pc + n, L, .inl (iv p j.toNat) :: r, iv, rv)
    | _ => none
  | .laload => match st with
    | .inl j :: .inr (.inr (some p)) :: r => some ([isA p 1, 0 ≤ j, j < sln p], pc + n, L, .inr (.inl (iv p j.toNat)) :: r, iv, rv)
    | _ => none
  | .baload => match st with
    | .inl j :: .inr (.inr (some p)) :: r => some ([isA p 2, 0 ≤ j, j < sln p], pc + n, L, .inl (iv p j.toNat) :: r, iv, rv)
    | _ => none
  | .aaload => match st with
    | .inl j :: .inr (.inr (some p)) :: r => some ([isQ p, 0 ≤ j, j < sln p, (rv p j.toNat).isSome = true], pc + n, L, .inr (.inr (some ((rv p j.toNat).getD 0))) :: r, iv, rv)
    | _ => none
  | .iastore => match st with
    | .inl x :: .inl j :: .inr (.inr (some p)) :: r => some ([isA p 0, 0 ≤ j, j < sln p], pc + n, L, r, st2 iv p j.toNat x, rv)
    | _ => none
  | .lastore => match st with
    | .inr (.inl x) :: .inl j :: .inr (.inr (some p)) :: r => some ([isA p 1, 0 ≤ j, j < sln p], pc + n, L, r, st2 iv p j.toNat x, rv)
    | _ => none
  | .bastore => match st with
    | .inl x :: .inl j :: .inr (.inr (some p)) :: r => some ([isA p 2, 0 ≤ j, j < sln p, x = 0 ∨ x = 1], pc + n, L, r, st2 iv p j.toNat x, rv)
    | _ => none
  | .invokestatic ix => match lk3 YTb o ix with
    | true => match st with
      | .inl c :: .inl d :: .inr (.inr (some q)) :: .inl a :: .inr (.inr (some p)) :: r => match Nat.ble (mcat r) 8 with
        | true => some ([isC p q, 0 ≤ a, 0 ≤ d, 0 ≤ c, a + c ≤ sln p, d + c ≤ sln q], pc + n, L, r, cpyv iv p q a d c, rv)
        | false => none
      | _ => none
    | false => none
  | _ => match mib i with
    | some f => match st with
      | .inl y :: .inl x :: r => some ([], pc + n, L, .inl (f x y) :: r, iv, rv)
      | _ => none
    | none => match mlb i with
      | some f => match st with
        | .inr (.inl y) :: .inr (.inl x) :: r => some ([], pc + n, L, .inr (.inl (f x y)) :: r, iv, rv)
        | _ => none
      | none => none
def mcd (c : Jvm.ClassFile.Cond) (x y : Int) : Prop := match c with
  | .eq => x = y
  | .ne => ¬ x = y
  | .lt => x < y
  | .ge => y ≤ x
  | .gt => y < x
  | .le => x ≤ y
def mtg (pc : Nat) (off : Int) : Option Nat := match Int.decLt ((pc : Int) + off) 0 with
  | .isTrue _ => none
  | .isFalse _ => some ((pc : Int) + off).toNat
def mtb (pc : Nat) (x : Int) : Int → List Int → Option (List (Prop × Nat))
  | _, [] => some []
  | k, off :: r => match mtg pc off, mtb pc x (k + 1) r with
    | some t, some bs => some ((x = k, t) :: bs)
    | _, _ => none
/-- an instruction that chooses -/
def mbr (i : Instr) (n pc : Nat) (st : List mV) : Option (List (Prop × Nat) × List mV) := match i with
  | .ifCond c off => match st with
    | .inl x :: r => match mtg pc off with
      | some t => some ([(mcd c x 0, t), (¬ mcd c x 0, pc + n)], r)
      | none => none
    | _ => none
  | .if_icmp c off => match st with
    | .inl y :: .inl x :: r => match mtg pc off with
      | some t => some ([(mcd c x y, t), (¬ mcd c x y, pc + n)], r)
      | none => none
    | _ => none
  | .tableswitch d lo hi offs => match st with
    | .inl x :: r => match mtg pc d, mtb pc x lo offs.toList with
      | some t, some bs => match decEq hi (lo + offs.toList.length - 1) with
        | .isTrue _ => some ((x < lo ∨ hi < x, t) :: bs, r)
        | .isFalse _ => none
      | _, _ => none
    | _ => none
  | _ => none
def mtk : Nat → List mV → List mV → Option (List mV × List mV)
  | 0, st, acc => some (acc, st)
  | n + 1, v :: st, acc => mtk n st (v :: acc)
  | _ + 1, [], _ => none
def mslots : List mV → mL
  | [] => []
  | .inr (.inl x) :: r => some (.inr (.inl x)) :: none :: mslots r
  | v :: r => some v :: mslots r
/-- a call: what must hold, the callee, its arguments, what is left -/
def mcl (F Lc o : Nat) (i : Instr) (st : List mV) : Option (List Prop × Nat × List mV × List mV) := match i with
  | .invokestatic ix => match lk2 KTb o ix with
    | some M => match (mth M).2.2.2.2.2.2.1, mtk (mth M).2.2.2.2.2.2.2.1 st [] with
      | true, some (as, r) => match Nat.ble (mslots as).length (mth M).2.2.2.1 && (Nat.ble (mcat r) 8 && (Nat.ble ((mth M).2.2.2.2.2.2.2.2.1 + 1) F && Nat.ble (8 + ((mth M).2.2.2.1 + 11) + (mth M).2.2.2.2.2.2.2.2.2) Lc)) with
        | true => some ([], M, as, r)
        | false => none
      | _, _ => none
    | none => none
  | .invokevirtual ix => match lk2 KTb o ix with
    | some M => match (mth M).2.2.2.2.2.2.1, mtk (mth M).2.2.2.2.2.2.2.1 st [] with
      | false, some (as, .inr (.inr (some p)) :: r) => match Nat.ble (mslots (.inr (.inr (some p)) :: as)).length (mth M).2.2.2.1 && (Nat.ble (mcat r) 8 && (Nat.ble ((mth M).2.2.2.2.2.2.2.2.1 + 1) F && Nat.ble (8 + ((mth M).2.2.2.1 + 11) + (mth M).2.2.2.2.2.2.2.2.2) Lc)) with
        | true => some ([isO p (mth M).2.2.2.2.2.1], M, .inr (.inr (some p)) :: as, r)
        | false => none
      | _, _ => none
    | none => none
  | _ => none
def mrt (ret : Option FieldType) (i : Instr) (st : List mV) : Option (List Prop × Option mV) := match i, ret, st with
  | .ireturn, some .int, [.inl x] => some ([], some (.inl x))
  | .ireturn, some .boolean, [.inl x] => some ([x = 0 ∨ x = 1], some (.inl x))
  | .lreturn, some .long, [.inr (.inl x)] => some ([], some (.inr (.inl x)))
  | .return_, none, [] => some ([], none)
  | _, _, _ => none
def mentry (n : Nat) (as : List mV) : mL := mslots as ++ List.replicate (n - (mslots as).length) none
def mpush (r : Option mV) (st : List mV) : List mV := match r with
  | some v => v :: st
  | none => st
def mex : Nat → Nat → Nat → mL → List mV → mIv → mRv → (Option mV → mIv → mRv → Prop) → Prop
  | 0, _, _, _, _, _, _, _ => False
  | n + 1, M, pc, L, st, iv, rv, Q => match lk (mth M).1 pc with
    | none => False
    | some (i, len) => match mnx (mth M).2.2.2.2.2.1 i len pc L st iv rv with
      | some (Cs, pc', L', st', iv', rv') => mconj Cs (mex n M pc' L' st' iv' rv' Q)
      | none => match mbr i len pc st with
        | some (bs, st') => mball bs (fun t => mex n M t L st' iv rv Q)
        | none => match mcl (mth M).2.2.2.2.2.2.2.2.1 (mth M).2.2.2.2.2.2.2.2.2 (mth M).2.2.2.2.2.1 i st with
          | some (Cs, M', as, r) => mconj Cs (mex n M' 0 (mentry (mth M').2.2.2.1 as) [] iv rv (fun v iv' rv' => mex n M (pc + 3) L (mpush v r) iv' rv' Q))
          | none => match mrt (mth M).2.2.2.2.1 i st with
            | some (Cs, v) => mconj Cs (Q v iv rv)
            | none => False
def Ex (M pc : Nat) (L : mL) (st : List mV) (iv : mIv) (rv : mRv) (Q : Option mV → mIv → mRv → Prop) : Prop := ∃ n, mex n M pc L st iv rv Q
