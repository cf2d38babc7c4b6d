section SNB
variable {p : Program} {l : Launch} {e : Env} {R : Room} {s : State} {m : MethodId} {args : Array Value} {below : List Frame} {meth : Method} {c : Code} {H : Heap} {locs : List Loc} {cells slots : Nat} {Qw : State → Prop}
variable {cc : ByteArray} {pc : Nat} {ls : Array Slot} {D : va_G} {ad : Nat → Nat} {cy : Nat → ClassId} {b Ls : Nat} {xs : Nat → Int32} {nL o : Nat} {L L' : mL} {st st' : List mV} {iv iv' : mIv} {rv rv' : mRv}
theorem s_iinc {k : Nat} {v x : Int} (hx : p.tables.exec = Jvm.exec) (hb : c.code = cc) (hdg : decode cc pc = .ok (.iinc k v, 3)) (hv1 : -32768 ≤ v) (hv2 : v < 32768) (hg : mget L k = some (.inl x)) (hs : mset1 L k (.inl (w32 (x + v))) = some L') (hr : mRl D ad cy Ls xs s nL L st iv rv H locs ls)
    (kk : ∀ H' locs' ls', mRl D ad cy Ls xs s nL L' st iv rv H' locs' ls' → W p l e R s m args below meth c H' locs' cells slots Qw (F0 m (pc + 3) ls' (st.map (mval ad)))) : W p l e R s m args below meth c H locs cells slots Qw (F0 m pc ls (st.map (mval ad))) := by
  obtain ⟨k0, hk0⟩ := List.getElem?_of_mem (lvl_in (ad := ad) hg)
  have hxo : okI x := hr.1.2.2 k _ hg
  have hlt : k < nL := by rw [← hr.1.1]; exact mset1_lt hs
  refine lv_iinc hx hb hdg hr.1.2.1 hk0 (v := Int32.ofInt (w32 (x + v))) (i_add hxo (by unfold okI; omega)) hlt rfl (fun ls' hl' => ?_)
  exact kk _ _ _ ⟨hr.1.set1 hs (w32_ok _) hl', hr.2⟩
theorem mib_ok {i : Instr} {f : Int → Int → Int} (h : mib i = some f) (x y : Int) : okI (f x y) := by
  unfold mib at h
  split at h <;> first | (cases h; exact w32_ok _) | (cases h; exact okI_toInt _) | cases h
theorem mlb_ok {i : Instr} {f : Int → Int → Int} (h : mlb i = some f) (x y : Int) : okJ (f x y) := by
  unfold mlb at h
  split at h <;> first | (cases h; exact w64_ok _) | (cases h; exact okJ_toInt _) | cases h
theorem s_ib {i : Instr} {n : Nat} {f : Int → Int → Int} {x y : Int} {F Lc : Nat} (hx : p.tables.exec = Jvm.exec) (hb : c.code = cc) (hdg : decode cc pc = .ok (i, n)) (hok : okIn o F Lc i n = true) (hf : mib i = some f) (hr : mRl D ad cy Ls xs s nL L (.inl y :: .inl x :: st) iv rv H locs ls)
    (kk : ∀ H' locs' ls', mRl D ad cy Ls xs s nL L (.inl (f x y) :: st) iv rv H' locs' ls' → W p l e R s m args below meth c H' locs' cells slots Qw (F0 m (pc + n) ls' ((.inl (f x y) :: st).map (mval ad)))) : W p l e R s m args below meth c H locs cells slots Qw (F0 m pc ls ((.inl y :: .inl x :: st).map (mval ad))) := by
  have hy : okI y := hr.top
  have hx' : okI x := hr.pop.top
  have K := kk H locs ls (hr.pop.pop.push (mib_ok hf x y))
  unfold mib at hf
  split at hf
  · cases hf; cases bq hok
    refine lv_iadd hx hb hdg ?_; rw [i_add hx' hy]; exact K
  · cases hf; cases bq hok
    refine lv_isub hx hb hdg ?_; rw [i_sub hx' hy]; exact K
  · cases hf; cases bq hok
    refine lv_imul hx hb hdg ?_; rw [i_mul hx' hy]; exact K
  · cases hf; cases bq hok
    refine lv_iand hx hb hdg ?_; rw [← oI (Int32.ofInt x &&& Int32.ofInt y)]; exact K
  · cases hf; cases bq hok
    refine lv_ior hx hb hdg ?_; rw [← oI (Int32.ofInt x ||| Int32.ofInt y)]; exact K
  · cases hf; cases bq hok
    refine lv_ixor hx hb hdg ?_; rw [← oI (Int32.ofInt x ^^^ Int32.ofInt y)]; exact K
  · cases hf; cases bq hok
    refine lv_ishl hx hb hdg ?_; rw [← oI (Int32.ofInt x <<< (Int32.ofInt y &&& 31))]; exact K
  · cases hf; cases bq hok
    refine lv_ishr hx hb hdg ?_; rw [← oI (Int32.ofInt x >>> (Int32.ofInt y &&& 31))]; exact K
  · cases hf; cases bq hok
    refine lv_iushr hx hb hdg (oI _).symm ?_; exact K
  · cases hf
theorem s_lb {i : Instr} {n : Nat} {f : Int → Int → Int} {x y : Int} {F Lc : Nat} (hx : p.tables.exec = Jvm.exec) (hb : c.code = cc) (hdg : decode cc pc = .ok (i, n)) (hok : okIn o F Lc i n = true) (hf : mlb i = some f) (hr : mRl D ad cy Ls xs s nL L (.inr (.inl y) :: .inr (.inl x) :: st) iv rv H locs ls)
    (kk : ∀ H' locs' ls', mRl D ad cy Ls xs s nL L (.inr (.inl (f x y)) :: st) iv rv H' locs' ls' → W p l e R s m args below meth c H' locs' cells slots Qw (F0 m (pc + n) ls' ((.inr (.inl (f x y)) :: st).map (mval ad)))) : W p l e R s m args below meth c H locs cells slots Qw (F0 m pc ls ((.inr (.inl y) :: .inr (.inl x) :: st).map (mval ad))) := by
  have hy : okJ y := hr.top
  have hx' : okJ x := hr.pop.top
  have K := kk H locs ls (hr.pop.pop.push (mlb_ok hf x y))
  unfold mlb at hf
  split at hf
  · cases hf; cases bq hok
    refine lv_ladd hx hb hdg ?_; rw [j_add hx' hy]; exact K
  · cases hf; cases bq hok
    refine lv_lsub hx hb hdg ?_; rw [j_sub hx' hy]; exact K
  · cases hf; cases bq hok
    refine lv_lmul hx hb hdg ?_; rw [j_mul hx' hy]; exact K
  · cases hf; cases bq hok
    refine lv_lxor hx hb hdg ?_; rw [← oJ (Int64.ofInt x ^^^ Int64.ofInt y)]; exact K
  · cases hf
theorem fty_of {ci k d : Nat} (hc : ci < 4) (hk : k < fNk ci) (h : fCd ci k = d) : isTy (fTy ci k) d = true := by rw [← h]; exact (fC_ok ci hc k hk).2.2.1
theorem ty_0 {t : FieldType} (h : isTy t 0 = true) : t = .int := by cases t <;> first | rfl | (simp [isTy] at h)
theorem ty_1 {t : FieldType} (h : isTy t 1 = true) : t = .long := by cases t <;> first | rfl | (simp [isTy] at h)
theorem ty_2 {t : FieldType} (h : isTy t 2 = true) : t = .boolean := by cases t <;> first | rfl | (simp [isTy] at h)
theorem ty_3 {t : FieldType} (h : isTy t 3 = true) (a : Nat) : narrow t (.ref a) = .ref a ∧ fits t (.ref a) = true := by
  cases t <;> first | (simp [isTy] at h; done) | exact ⟨rfl, rfl⟩
end SNB
