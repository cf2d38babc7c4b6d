/-! calls, returns, whole runs -/
def wsM (M : Nat) : List Cond := Cond.code (mth M).2.2.1 (mth M).2.1 (mth M).2.2.2.1 (mth M).2.2.2.2.1 :: BIG
def rmM (M : Nat) : Room := { frames := (mth M).2.2.2.2.2.2.2.2.1, cells := 0, slots := 0, locals := (mth M).2.2.2.2.2.2.2.2.2 }
def mPc (D : va_G) (ad : Nat → Nat) (cy : Nat → ClassId) (b Ls : Nat) (xs : Nat → Int32) (as : List mV) (iv : mIv) (rv : mRv) : Array Value → State → Prop := va_Pc (as.map (mval ad)) (fun U => va_P D vwCl (mwl ad cy iv rv) U.heap ∧ va_D (mA ad) (mwl ad cy iv rv) ∧ mWs D ad cy b Ls xs U)
def mQc (D : va_G) (ad : Nat → Nat) (cy : Nat → ClassId) (Ls : Nat) (xs : Nat → Int32) (Q : Option mV → mIv → mRv → Prop) : Array Value → State → Outcome → State → Prop := fun _ st oc t => ∃ v iv' rv', oc = .returned (v.map (mval ad)) ∧ Q v iv' rv' ∧ (∀ w, v = some w → okv w) ∧ va_P D vwCl (mwl ad cy iv' rv') t.heap ∧ va_D (mA ad) (mwl ad cy iv' rv') ∧ okh iv' ∧ (∀ j, iv' 1000000 j = (xs j).toInt) ∧ iv' 1000001 0 = (Ls : Int) ∧ va_F (mA ad) st t
theorem mth_ok {M : Nat} : okM (mth M) := by
  unfold mth
  rw [List.getD_eq_getElem?_getD]
  cases h : MTb[M]? with
  | none => exact okM_104
  | some r => exact MTb_ok r (List.mem_of_getElem? h)
theorem big_good {M : Nat} (h : (mth M).2.2.2.2.2.1 < 7) : GoodIn BIG (wsM M) := by
  intro w hw
  have hb : w ∈ BIG := by
    rcases List.mem_cons.mp hw with e | e
    · rw [e]; exact ((mth_ok (M := M)).2 h).1
    · exact e
  exact ⟨hb, good_of_word (List.mem_filter.mp hb).2⟩
theorem Met.ofWF {l : Launch} {y : MethodName} {ws ws' : List Cond} {rm : Room} {Pc : Array Value → State → Prop} {Qc : Array Value → State → Outcome → State → Prop} {mc ms : Nat} {free : Addr → Prop} {cc : ByteArray} {maxL : Nat} {ret : Option FieldType}
    (hy : plainFor y = true) (hw : ws = Cond.code y cc maxL ret :: ws')
    (body : ∀ p e s m args below meth c s₁, BodyLoose p l y (headSpec ws rm) cc maxL ret e s m args below meth c s₁ → c.maxLocals = maxL → Pc args s →
      W p l e (headSpec ws rm).room s m args below meth c s.heap [] 0 0 (MQ below Qc args s mc ms free) (entryFrame m args maxL)) : Met l y ws rm Pc Qc mc ms free := by
  refine MetFree.of_bodySF (code := cc) (maxLocals := maxL) (ret := ret) hy ?_ ?_
  · intro args s m h hn
    obtain ⟨meth, c, h1, h2, h3, h4, h5, h6, -, -⟩ := Cond.code_spec hn (atoms_spec (ws := ws) h _ (by rw [hw]; exact List.mem_cons_self))
    exact ⟨meth, c, h1, h2, h3, h4, h5, h6⟩
  · intro p e s m args below meth c s₁ B hml hP _
    have hh0 : s₁.heap = s.heap := by rw [B.state]; rfl
    obtain ⟨t, a1, o, b1, b2, b3⟩ := body p e s m args below meth c s₁ B hml hP s₁ hh0 (Stand.of_body B)
    exact ⟨t, o, a1, b1, b2, ⟨b3.1, b3.2⟩⟩
theorem mtk_eq : ∀ (n : Nat) (st acc as r : List mV), mtk n st acc = some (as, r) → ∃ t, st = t ++ r ∧ as = t.reverse ++ acc ∧ t.length = n := by
  intro n
  induction n with
  | zero => intro st acc as r h; cases h; exact ⟨[], rfl, rfl, rfl⟩
  | succ n ih =>
    intro st acc as r h
    cases st with
    | nil => cases h
    | cons v st =>
      obtain ⟨t, h1, h2, h3⟩ := ih st (v :: acc) as r h
      refine ⟨v :: t, by rw [h1]; rfl, by rw [h2]; simp, by simp [h3]⟩
theorem slots_len (ad : Nat → Nat) (as : List mV) : (lg_sl (as.map (mval ad))).length = (mslots as).length := by
  induction as with
  | nil => rfl
  | cons v r ih =>
    rcases v with x | x | x
    · show (lg_sl (Value.int _ :: _)).length = _
      simp [lg_sl, mslots, Value.category] at ih ⊢; exact ih
    · show (lg_sl (Value.long _ :: _)).length = _
      simp [lg_sl, mslots, Value.category] at ih ⊢; exact ih
    · show (lg_sl (va_rf _ :: _)).length = _
      simp [lg_sl, mslots, cat_rf] at ih ⊢; exact ih
theorem slots_get (ad : Nat → Nat) {v : mV} (T : mL) (hT : ∀ k, mget T k = none) : ∀ (as : List mV) (i k : Nat), mget (mslots as ++ T) k = some v → (i + k, mval ad v) ∈ lv_args i (as.map (mval ad)) := by
  intro as
  induction as with
  | nil => intro i k h; rw [show mslots [] ++ T = T from rfl, hT] at h; cases h
  | cons w r ih =>
    intro i k h
    have one : ∀ (hc : (mval ad w).category = 1) (hm : mslots (w :: r) = some w :: mslots r), (i + k, mval ad v) ∈ lv_args i ((w :: r).map (mval ad)) := fun hc hm => by
      rw [hm] at h
      show _ ∈ (i, mval ad w) :: lv_args (if (mval ad w).category = 2 then i + 2 else i + 1) (r.map (mval ad))
      rw [if_neg (by rw [hc]; decide)]
      cases k with
      | zero => cases h; exact List.mem_cons_self
      | succ k =>
        have := ih (i + 1) k h
        rw [show i + 1 + k = i + (k + 1) by omega] at this
        exact List.mem_cons_of_mem _ this
    rcases w with x | x | x
    · exact one rfl rfl
    · show _ ∈ (i, mval ad (.inr (.inl x))) :: lv_args (i + 2) (r.map (mval ad))
      cases k with
      | zero => cases h; exact List.mem_cons_self
      | succ k => cases k with
        | zero => cases h
        | succ k =>
          have := ih (i + 2) k h
          rw [show i + 2 + k = i + (k + 1 + 1) by omega] at this
          exact List.mem_cons_of_mem _ this
    · exact one (cat_rf _) rfl
theorem slots_ok : ∀ (as : List mV) (T : mL), (∀ k, mget T k = none) → (∀ w ∈ as, okv w) → ∀ k v, mget (mslots as ++ T) k = some v → okv v := by
  intro as
  induction as with
  | nil => intro T hT _ k v h; rw [show mslots [] ++ T = T from rfl, hT] at h; cases h
  | cons w r ih =>
    intro T hT ho k v h
    have hr : ∀ w ∈ r, okv w := fun z hz => ho z (List.mem_cons_of_mem _ hz)
    have hw : okv w := ho w List.mem_cons_self
    rcases w with x | x | x
    · cases k with
      | zero => cases h; exact hw
      | succ k => exact ih T hT hr k v h
    · cases k with
      | zero => cases h; exact hw
      | succ k => cases k with
        | zero => cases h
        | succ k => exact ih T hT hr k v h
    · cases k with
      | zero => cases h; exact hw
      | succ k => exact ih T hT hr k v h
theorem rep_get (n : Nat) : ∀ k, mget (List.replicate n none) k = none := by
  induction n with
  | zero => intro k; rfl
  | succ n ih => intro k; cases k with
    | zero => rfl
    | succ k => exact ih k
theorem entry_Lo {ad : Nat → Nat} {n : Nat} {as : List mV} {ls : Array Slot} (hl : (mslots as).length ≤ n) (ho : ∀ w ∈ as, okv w) (h : lv_has ls n (lv_args 0 (as.map (mval ad)))) : mLo ad n (mentry n as) ls := by
  refine mLo.to (by unfold mentry; simp; omega) h (fun k v hk => ⟨?_, slots_ok as _ (rep_get _) ho k v hk⟩)
  have := slots_get ad _ (rep_get _) as 0 k hk
  rw [Nat.zero_add] at this
  exact this
section SND
variable {p : Program} {l : Launch} {e : Env} {R : Room} {s : State} {m : MethodId} {args : Array Value} {below : List Frame} {meth : Method} {c : Code} {H : Heap} {locs : List Loc} {cells slots : Nat} {Qw : State → Prop}
variable {pc : Nat} {ls : Array Slot}
theorem va_callG {Qa : State → Outcome → State → Prop} {free : Addr → Prop} {st0 rest : List Value} (hr : va_Run p l e R s m args below meth c H locs cells slots 0 0 (F0 m pc ls st0) rest Qa free)
    (kk : ∀ (v : Option Value) (u t : State) (K : List Loc), u.heap = H → s.vm.Alike t.vm → Qa u (.returned v) t → (∀ q ∈ K, free q.base) → W p l e R s m args below meth c t.heap (locs ++ K) cells slots Qw (F0 m (pc + 3) ls (v.toList ++ rest))) : W p l e R s m args below meth c H locs cells slots Qw (F0 m pc ls st0) := by
  intro T hT X
  obtain ⟨v, u, t, T', K, h0, X', hL, e1, e2, hq, st⟩ := hr T hT X
  obtain ⟨t2, a1, b1⟩ := kk v u t K h0 (by rw [← e2]; exact X'.warmed.alike) hq hL T' e1 X'
  exact ⟨t2, st t2 a1, b1⟩
end SND
