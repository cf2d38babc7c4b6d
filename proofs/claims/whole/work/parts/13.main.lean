def mCx (p : Program) (R : Room) (s : State) (m : MethodId) (args : Array Value) (c : Code) (M : Nat) : Prop := p.tables.exec = Jvm.exec ∧ c.code = (mth M).2.1 ∧ c.maxLocals = (mth M).2.2.2.1 ∧ s.vm.findClass (cnm (mth M).2.2.2.2.2.1) = some m.cls ∧ (∀ w ∈ BIG, w.before args s = true) ∧ (mth M).2.2.2.2.2.2.2.2.1 ≤ R.frames ∧ (mth M).2.2.2.2.2.2.2.2.2 ≤ R.locals
def SndAt (n : Nat) : Prop := ∀ (M pc : Nat) (L : mL) (st : List mV) (iv : mIv) (rv : mRv) (Q : Option mV → mIv → mRv → Prop), mex n M pc L st iv rv Q → ∀ (p : Program) (l : Launch) (e : Env) (R : Room) (s : State) (m : MethodId) (args : Array Value) (below : List Frame) (meth : Method) (c : Code) (H : Heap) (locs : List Loc) (ls : Array Slot) (cells slots : Nat) (Qw : State → Prop) (D : va_G) (ad : Nat → Nat) (cy : Nat → ClassId) (b Ls : Nat) (xs : Nat → Int32),
  mCx p R s m args c M → cells ≤ R.cells → slots ≤ R.slots → mWs D ad cy b Ls xs s → mRl D ad cy Ls xs s (mth M).2.2.2.1 L st iv rv H locs ls →
  (∀ (i : Instr) (pc' : Nat) (st2 : List mV) (Cs : List Prop) (v : Option mV) (L2 : mL) (iv' : mIv) (rv' : mRv) (H' : Heap) (locs' : List Loc) (ls' : Array Slot), decode (mth M).2.1 pc' = .ok (i, 1) → mrt (mth M).2.2.2.2.1 i st2 = some (Cs, v) → (∀ P ∈ Cs, P) → Q v iv' rv' → mRl D ad cy Ls xs s (mth M).2.2.2.1 L2 st2 iv' rv' H' locs' ls' → W p l e R s m args below meth c H' locs' cells slots Qw (F0 m pc' ls' (st2.map (mval ad)))) →
  W p l e R s m args below meth c H locs cells slots Qw (F0 m pc ls (st.map (mval ad)))
def okIs (r : mM) : Prop := ∀ e ∈ r.1, okIn r.2.2.2.2.2.1 r.2.2.2.2.2.2.2.2.1 r.2.2.2.2.2.2.2.2.2 e.2.1 e.2.2 = true
def okIb (r : mM) : Bool := r.1.all (fun e => okIn r.2.2.2.2.2.1 r.2.2.2.2.2.2.2.2.1 r.2.2.2.2.2.2.2.2.2 e.2.1 e.2.2)
theorem ok_insb : MTb.all okIb = true := by decide +kernel
theorem ok_insl : okIb mL_law = true := by decide +kernel
theorem okIs_of {r : mM} (h : okIb r = true) : okIs r := fun e he => List.all_eq_true.mp h e he
theorem mth_is {M : Nat} : okIs (mth M) := by
  unfold mth
  rw [List.getD_eq_getElem?_getD]
  cases h : MTb[M]? with
  | none => exact okIs_of ok_insl
  | some r => exact okIs_of (List.all_eq_true.mp ok_insb r (List.mem_of_getElem? h))
theorem mth_ins {M pc : Nat} {i : Instr} {n : Nat} (h : lk (mth M).1 pc = some (i, n)) : decode (mth M).2.1 pc = .ok (i, n) ∧ okIn (mth M).2.2.2.2.2.1 (mth M).2.2.2.2.2.2.2.2.1 (mth M).2.2.2.2.2.2.2.2.2 i n = true := by
  have hm := lk_in h
  have h1 := (mth_ok (M := M)).1 (pc, i, n) hm
  have h2 := mth_is (M := M) (pc, i, n) hm
  exact ⟨h1, h2⟩
theorem mrt_ok {ret : Option FieldType} {i : Instr} {st : List mV} {Cs : List Prop} {v : Option mV} (h : mrt ret i st = some (Cs, v)) (ho : ∀ w ∈ st, okv w) : ∀ w, v = some w → okv w := by
  unfold mrt at h
  split at h <;> first | (cases h; intro w hw; cases hw; exact ho _ List.mem_cons_self) | (cases h; intro w hw; cases hw) | cases h
theorem va_X.here {D : va_G} {ad : Nat → Nat} {cy : Nat → ClassId} {b Ls : Nat} {xs : Nat → Int32} {s U : State} {H : Heap} {locs : List Loc} (hWs : mWs D ad cy b Ls xs s) (hS : va_S (mA ad) s.heap H locs) (hU : U.heap = H) (hW : s.vm.Alike U.vm) : mWs D ad cy b Ls xs U := by
  obtain ⟨h1, h2, h3, h4, h5, h6⟩ := hWs
  refine ⟨va_K.moved hW h1, ?_, by rw [hU]; exact Nat.lt_of_lt_of_le h3 hS.1, h4, h5, h6⟩
  exact va_X.moved hW (h2.kept (by rw [hU]; exact hS.2.1 b h3 h4))
set_option maxHeartbeats 2000000 in
theorem met_of {n : Nat} (IH : SndAt n) (l : Launch) {M : Nat} (hM : (mth M).2.2.2.2.2.1 < 7) {as : List mV} {iv : mIv} {rv : mRv} {Q : Option mV → mIv → mRv → Prop} (hex : mex n M 0 (mentry (mth M).2.2.2.1 as) [] iv rv Q) (D : va_G) (ad : Nat → Nat) (cy : Nat → ClassId) (b Ls : Nat) (xs : Nat → Int32) (ho : ∀ w ∈ as, okv w) (hl : (mslots as).length ≤ (mth M).2.2.2.1) (hh : okh iv) (h1 : ∀ j, iv 1000000 j = (xs j).toInt) (h2 : iv 1000001 0 = (Ls : Int)) :
    Met l (mth M).2.2.1 (wsM M) (rmM M) (mPc D ad cy b Ls xs as iv rv) (mQc D ad cy Ls xs Q) 0 0 (mA ad) := by
  obtain ⟨o1, o2⟩ := mth_ok (M := M)
  obtain ⟨g1, g2, g3, g4, g5, g6, g7⟩ := o2 hM
  refine Met.ofWF (cc := (mth M).2.1) (maxL := (mth M).2.2.2.1) (ret := (mth M).2.2.2.2.1) g2 rfl ?_
  intro p e s m args below meth c s₁ B hml hv
  obtain ⟨rfl, hP, hD, hWs⟩ := hv
  have hx := B.exec
  have hb := B.bytes
  have hr := B.returns
  have hts := atoms_spec (ws := wsM M) B.pre
  have hown : s.vm.findClass (mth M).2.2.1.cls = some m.cls := findClass_of_methodNamed B.named
  have hlocks := B.notSynchronized
  have hll : (lg_sl (as.map (mval ad))).length ≤ (mth M).2.2.2.1 := by rw [slots_len]; exact hl
  have hlv := lv_entry (as.map (mval ad)) (n := (mth M).2.2.2.1) hll
  rw [lg_entry_eq]
  generalize (lg_sl (as.map (mval ad)) ++ List.replicate ((mth M).2.2.2.1 - (lg_sl (as.map (mval ad))).length) Slot.unset).toArray = ls at hlv ⊢
  refine IH M 0 _ [] iv rv Q hex p l e _ s m _ below meth c s.heap [] ls 0 0 _ D ad cy b Ls xs ⟨hx, hb, hml, by rw [← g3]; exact hown, fun w hw => hts w (List.mem_cons_of_mem _ hw), Nat.le_refl _, Nat.le_refl _⟩ (Nat.zero_le _) (Nat.zero_le _) hWs ⟨entry_Lo hl ho hlv, fun _ h => absurd h List.not_mem_nil, hP, hD, va_S.rf, hh, h1, h2⟩ ?_
  intro i pc' st2 Cs v L2 iv' rv' H' locs' ls' hdg hmr hC hQ hR
  have hvo := mrt_ok hmr hR.2.1
  have post : ∀ t : State, t.heap = H' → s.WarmedH t.vm → ∀ oc, oc = .returned (v.map (mval ad)) → mQc D ad cy Ls xs Q (as.map (mval ad)).toArray s oc t := fun t ht hW oc hoc =>
    ⟨v, iv', rv', hoc, hQ, hvo, by rw [ht]; exact hR.2.2.1, hR.2.2.2.1, hR.2.2.2.2.2.1, hR.2.2.2.2.2.2.1, hR.2.2.2.2.2.2.2, hR.2.2.2.2.1.F ht⟩
  generalize hre : (mth M).2.2.2.2.1 = ret at hmr hr
  unfold mrt at hmr
  split at hmr
  · cases hmr
    exact W.iret hx hb hr (fun t ht hW => post t ht hW _ rfl) hR.2.2.2.2.1.2.2 hdg
  · cases hmr
    exact W.zret hx hb hr (nz_bool (hC _ List.mem_cons_self)).1 (fun t ht hW => post t ht hW _ rfl) hR.2.2.2.2.1.2.2 hdg
  · cases hmr
    exact W.lret hx hb hr (fun t ht hW => post t ht hW _ rfl) hR.2.2.2.2.1.2.2 hdg
  · cases hmr
    exact W.vret hx hb hr (fun t ht hW => post t ht hW _ rfl) hR.2.2.2.2.1.2.2 hdg
  · cases hmr
theorem blind_mPc {D : va_G} {ad : Nat → Nat} {cy : Nat → ClassId} {b Ls : Nat} {xs : Nat → Int32} {as : List mV} {iv : mIv} {rv : mRv} : FrameBlind (mPc D ad cy b Ls xs as iv rv) := by
  intro a U g mk q
  obtain ⟨q0, qP, qD, w1, w2, w3⟩ := q
  exact ⟨q0, qP, qD, va_K.moved (u := U) (U := U.calling g mk a) (Vm.Alike.refl U.vm) w1, va_X.moved (u := U) (U := U.calling g mk a) (Vm.Alike.refl U.vm) w2, w3⟩
theorem mpush_map {ad : Nat → Nat} {v : Option mV} {r : List mV} : (mpush v r).map (mval ad) = (v.map (mval ad)).toList ++ r.map (mval ad) := by
  cases v <;> rfl
theorem mrt_len {ret : Option FieldType} {i : Instr} {n : Nat} {st : List mV} {Cs : List Prop} {v : Option mV} {o F Lc : Nat} (h : mrt ret i st = some (Cs, v)) (hok : okIn o F Lc i n = true) : n = 1 := by
  unfold mrt at h
  split at h <;> first | exact bq hok | cases h
