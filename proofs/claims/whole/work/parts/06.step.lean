/-! one instruction of the mini machine is one of the machine -/
def okIn (o F Lc : Nat) (i : Instr) (n : Nat) : Bool := match i with
  | .iconst v => Nat.beq n 1 && (decide (-128 ≤ v) && decide (v < 128))
  | .bipush v => Nat.beq n 2 && (decide (-128 ≤ v) && decide (v < 128))
  | .sipush v => Nat.beq n 3 && (decide (-32768 ≤ v) && decide (v < 32768))
  | .lconst _ => Nat.beq n 1
  | .ldc _ => Nat.beq n 2
  | .ldc_w _ => Nat.beq n 3
  | .ldc2_w _ => Nat.beq n 3
  | .iload_n _ => Nat.beq n 1
  | .lload_n _ => Nat.beq n 1
  | .aload_n _ => Nat.beq n 1
  | .iload _ => Nat.beq n 2
  | .lload _ => Nat.beq n 2
  | .aload _ => Nat.beq n 2
  | .istore_n _ => Nat.beq n 1
  | .lstore_n _ => Nat.beq n 1
  | .astore_n _ => Nat.beq n 1
  | .istore _ => Nat.beq n 2
  | .lstore _ => Nat.beq n 2
  | .astore _ => Nat.beq n 2
  | .iinc _ v => Nat.beq n 3 && (decide (-32768 ≤ v) && decide (v < 32768))
  | .goto _ => Nat.beq n 3
  | .ifCond _ _ => Nat.beq n 3
  | .if_icmp _ _ => Nat.beq n 3
  | .getfield _ => Nat.beq n 3
  | .putfield _ => Nat.beq n 3
  | .invokevirtual _ => Nat.beq n 3
  | .invokestatic ix => Nat.beq n 3 && (!(lk3 YTb o ix) || (Nat.ble 1 F && Nat.ble 60 Lc))
  | .tableswitch _ _ _ _ => true
  | .new _ => true
  | .invokespecial _ => true
  | .iadd | .isub | .imul | .iand | .ior | .ixor | .ishl | .ishr | .iushr | .ineg | .i2l | .l2i | .ladd | .lsub | .lmul | .lxor | .lneg | .ldiv | .lrem | .lcmp | .dup | .dup2 | .arraylength | .iaload | .laload | .baload | .aaload | .iastore | .lastore | .bastore | .ireturn | .lreturn | .return_ => Nat.beq n 1
  | _ => false
def mRl (D : va_G) (ad : Nat → Nat) (cy : Nat → ClassId) (Ls : Nat) (xs : Nat → Int32) (s : State) (nL : Nat) (L : mL) (st : List mV) (iv : mIv) (rv : mRv) (H : Heap) (locs : List Loc) (ls : Array Slot) : Prop := mLo ad nL L ls ∧ (∀ v ∈ st, okv v) ∧ mWd D ad cy Ls xs s.heap iv rv H locs
theorem mconj_of {Cs : List Prop} {P : Prop} (h : mconj Cs P) : (∀ c ∈ Cs, c) ∧ P := by
  induction Cs with
  | nil => exact ⟨fun _ h => absurd h List.not_mem_nil, h⟩
  | cons c cs ih => exact ⟨List.forall_mem_cons.mpr ⟨h.1, (ih h.2).1⟩, (ih h.2).2⟩
theorem mconj_to {Cs : List Prop} {P : Prop} (h : ∀ c ∈ Cs, c) (hp : P) : mconj Cs P := by
  induction Cs with
  | nil => exact hp
  | cons c cs ih => exact ⟨h c List.mem_cons_self, ih (fun c hc => h c (List.mem_cons_of_mem _ hc))⟩
theorem lk_in {α : Type} {l : List (Nat × α)} {k : Nat} {x : α} (h : lk l k = some x) : (k, x) ∈ l := by
  induction l with
  | nil => cases h
  | cons e r ih =>
    unfold lk at h
    split at h
    · rename_i hb
      have := Nat.eq_of_beq_eq_true hb
      cases h
      subst this
      exact List.mem_cons_self
    · exact List.mem_cons_of_mem _ (ih h)
theorem lk2_in {α : Type} {l : List (Nat × Nat × α)} {o k : Nat} {x : α} (h : lk2 l o k = some x) : (o, k, x) ∈ l := by
  induction l with
  | nil => cases h
  | cons e r ih =>
    unfold lk2 at h
    split at h
    · rename_i hb
      have hb := Bool.and_eq_true_iff.mp hb
      have h1 := Nat.eq_of_beq_eq_true hb.1
      have h2 := Nat.eq_of_beq_eq_true hb.2
      cases h
      subst h1; subst h2
      exact List.mem_cons_self
    · exact List.mem_cons_of_mem _ (ih h)
theorem lk3_in {l : List (Nat × Nat)} {o k : Nat} (h : lk3 l o k = true) : (o, k) ∈ l := by
  induction l with
  | nil => cases h
  | cons e r ih =>
    unfold lk3 at h
    split at h
    · rename_i hb
      have hb := Bool.and_eq_true_iff.mp hb
      have h1 := Nat.eq_of_beq_eq_true hb.1
      have h2 := Nat.eq_of_beq_eq_true hb.2
      subst h1; subst h2
      exact List.mem_cons_self
    · exact List.mem_cons_of_mem _ (ih h)
theorem i8_eq {v : Int} (h1 : -128 ≤ v) (h2 : v < 128) : (Int8.ofInt v).toInt32 = Int32.ofInt v := by
  apply Int32.toInt_inj.mp
  rw [Int8.toInt_toInt32, tI (by unfold okI; omega), Int8.toInt_ofInt_of_le (by omega) (by omega)]
theorem i16_eq {v : Int} (h1 : -32768 ≤ v) (h2 : v < 32768) : (Int16.ofInt v).toInt32 = Int32.ofInt v := by
  apply Int32.toInt_inj.mp
  rw [Int16.toInt_toInt32, tI (by unfold okI; omega), Int16.toInt_ofInt_of_le (by omega) (by omega)]
section STP
variable {p : Program} {l : Launch} {e : Env} {R : Room} {s : State} {m : MethodId} {args : Array Value} {below : List Frame} {meth : Method} {c : Code} {H : Heap} {locs : List Loc} {cells slots : Nat} {Qw : State → Prop}
variable {cc : ByteArray} {pc : Nat} {ls : Array Slot} {D : va_G} {ad : Nat → Nat} {cy : Nat → ClassId} {b Ls : Nat} {xs : Nat → Int32} {nL o : Nat} {L L' : mL} {st st' : List mV} {iv iv' : mIv} {rv rv' : mRv}
theorem mRl.stack (h : mRl D ad cy Ls xs s nL L st iv rv H locs ls) (hs : ∀ v ∈ st', okv v) : mRl D ad cy Ls xs s nL L st' iv rv H locs ls := ⟨h.1, hs, h.2.2⟩
theorem mRl.top {v : mV} (h : mRl D ad cy Ls xs s nL L (v :: st) iv rv H locs ls) : okv v := h.2.1 v List.mem_cons_self
theorem mRl.pop {v : mV} (h : mRl D ad cy Ls xs s nL L (v :: st) iv rv H locs ls) : mRl D ad cy Ls xs s nL L st iv rv H locs ls := h.stack (fun w hw => h.2.1 w (List.mem_cons_of_mem _ hw))
theorem mRl.push {v : mV} (h : mRl D ad cy Ls xs s nL L st iv rv H locs ls) (hv : okv v) : mRl D ad cy Ls xs s nL L (v :: st) iv rv H locs ls := h.stack (List.forall_mem_cons.mpr ⟨hv, h.2.1⟩)
/-- a world written at one place -/
theorem mRl.put {q : Nat} (h : mRl D ad cy Ls xs s nL L st iv rv H locs ls) {H1 : Heap} {locs1 : List Loc} (hq : q < 82) (he : ∀ x, x ≠ q → mce ad cy iv' rv' x = mce ad cy iv rv x) (hP : va_P D vwCl ((mwl ad cy iv rv).set q (ad q, mce ad cy iv' rv' q)) H1) (hD : va_D (mA ad) ((mwl ad cy iv rv).set q (ad q, mce ad cy iv' rv' q))) (hS : va_S (mA ad) s.heap H1 locs1) (ho : okh iv') (h1 : ∀ j, iv' 1000000 j = iv 1000000 j) (h2 : iv' 1000001 0 = iv 1000001 0) : mRl D ad cy Ls xs s nL L st iv' rv' H1 locs1 ls := by
  rw [mwl_set hq he] at hP hD
  exact ⟨h.1, h.2.1, hP, hD, hS, ho, fun j => by rw [h1]; exact h.2.2.2.2.2.2.1 j, by rw [h2]; exact h.2.2.2.2.2.2.2⟩
theorem okh_st2 {q k : Nat} {x : Int} (h : okh iv) (hx : (isLg q k = true → okJ x) ∧ (isLg q k = false → okI x)) : okh (st2 iv q k x) := by
  intro p j
  by_cases e : p = q ∧ j = k
  · obtain ⟨rfl, rfl⟩ := e
    rw [st2_eq]; exact hx
  · unfold st2
    rw [if_neg e]
    exact h p j
theorem mty_in : (mty cy)[0]? = some (cy 0, .int) ∧ (mty cy)[1]? = some (cy 1, .long) ∧ (mty cy)[2]? = some (cy 2, .boolean) := ⟨rfl, rfl, rfl⟩
theorem fT_ok {k ci : Nat} (hc : ci < 4) : vwCl[ci]? = some (cnm ci, fTk ci, fNk ci) ∧ (∀ w ∈ u_ws (cnm ci) (fTk ci) (fNk ci), w ∈ lw_tbl) ∧ (∀ k, k < fNk ci → parseFieldDescriptor (fTk ci k).2.2.1 = some (fTy ci k)) ∧ (∀ a, a < fNk ci → ∀ b, b < fNk ci → a ≠ b → (fTk ci a).2.1 ≠ (fTk ci b).2.1) := by
  rcases (show ci = 0 ∨ ci = 1 ∨ ci = 2 ∨ ci = 3 by omega) with rfl | rfl | rfl | rfl
  · exact ⟨rfl, inX0, tyX0_ok, nmX0⟩
  · exact ⟨rfl, inX1, tyX1_ok, nmX1⟩
  · exact ⟨rfl, inX2, tyX2_ok, nmX2⟩
  · exact ⟨rfl, inX3, tyX3_ok, nmX3⟩
def isTy : FieldType → Nat → Bool
  | .int, 0 => true
  | .long, 1 => true
  | .boolean, 2 => true
  | .object _, 3 => true
  | .array _, 3 => true
  | _, _ => false
theorem fC_ok : ∀ ci, ci < 4 → ∀ k, k < fNk ci → (fTk ci k).1 = cnm ci ∧ (fTk ci k).2.2.2 = fFn ci k ∧ isTy (fTy ci k) (fCd ci k) = true ∧ fCd ci k < 4 := by decide +kernel
theorem lay_good : ∀ ci, ci < 4 → ∀ w ∈ u_ws (cnm ci) (fTk ci) (fNk ci), goodWord w = true := by decide +kernel
theorem lay_big {ci : Nat} (hc : ci < 4) : ∀ w ∈ u_ws (cnm ci) (fTk ci) (fNk ci), w ∈ BIG := fun w hw => List.mem_filter.mpr ⟨(fT_ok (k := 0) hc).2.1 w hw, lay_good ci hc w hw⟩
end STP
