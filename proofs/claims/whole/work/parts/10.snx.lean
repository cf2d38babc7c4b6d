section SNC
variable {p : Program} {l : Launch} {e : Env} {R : Room} {s : State} {m : MethodId} {args : Array Value} {below : List Frame} {meth : Method} {c : Code} {H : Heap} {locs : List Loc} {cells slots : Nat} {Qw : State → Prop}
variable {cc : ByteArray} {pc : Nat} {ls : Array Slot} {D : va_G} {ad : Nat → Nat} {cy : Nat → ClassId} {b Ls : Nat} {xs : Nat → Int32} {nL o : Nat} {L L' : mL} {st st' : List mV} {iv iv' : mIv} {rv rv' : mRv}
theorem mrf (q : Nat) : mval ad (.inr (.inr (some q))) = .ref (ad q) := rfl
set_option maxHeartbeats 4000000 in
theorem s_nx {i : Instr} {n pc' : Nat} {Cs : List Prop} {F Lc : Nat} (hx : p.tables.exec = Jvm.exec) (hb : c.code = cc) (hml : c.maxLocals = nL) (hown : s.vm.findClass (cnm o) = some m.cls) (hts : ∀ w ∈ BIG, w.before args s = true) (hWs : mWs D ad cy b Ls xs s) (hRf : F ≤ R.frames) (hRl : Lc ≤ R.locals) (hdg : decode cc pc = .ok (i, n)) (hok : okIn o F Lc i n = true) (hs : mnx o i n pc L st iv rv = some (Cs, pc', L', st', iv', rv')) (hC : ∀ P ∈ Cs, P) (hr : mRl D ad cy Ls xs s nL L st iv rv H locs ls) (kk : ∀ H' locs' ls', mRl D ad cy Ls xs s nL L' st' iv' rv' H' locs' ls' → W p l e R s m args below meth c H' locs' cells slots Qw (F0 m pc' ls' (st'.map (mval ad)))) : W p l e R s m args below meth c H locs cells slots Qw (F0 m pc ls (st.map (mval ad))) := by
  unfold mnx at hs
  split at hs
  · cases hs
    have h := Bool.and_eq_true_iff.mp hok
    cases bq h.1
    have h2 := Bool.and_eq_true_iff.mp h.2
    have a1 := of_decide_eq_true h2.1
    have a2 := of_decide_eq_true h2.2
    exact lv_iconst hx hb hdg rfl (kk _ _ _ (hr.push (by show okI _; unfold okI; omega)))
  · cases hs
    have h := Bool.and_eq_true_iff.mp hok
    cases bq h.1
    have h2 := Bool.and_eq_true_iff.mp h.2
    have a1 := of_decide_eq_true h2.1
    have a2 := of_decide_eq_true h2.2
    exact lv_bipush hx hb hdg (i8_eq a1 a2) (kk _ _ _ (hr.push (by show okI _; unfold okI; omega)))
  · cases hs
    have h := Bool.and_eq_true_iff.mp hok
    cases bq h.1
    have h2 := Bool.and_eq_true_iff.mp h.2
    have a1 := of_decide_eq_true h2.1
    have a2 := of_decide_eq_true h2.2
    exact lv_sipush hx hb hdg (i16_eq a1 a2) (kk _ _ _ (hr.push (by show okI _; unfold okI; omega)))
  · rename_i v
    cases hs
    cases bq hok
    exact lv_lconst hx hb hdg rfl (kk _ _ _ (hr.push (by show okJ _; unfold okJ; omega)))
  · split at hs
    · rename_i v hv
      cases hs
      cases bq hok
      obtain ⟨a1, a2, a3⟩ := CTb_ok _ (lk2_in hv)
      exact lv_ldc hx hb hown (hts _ a1) hdg (kk _ _ _ (hr.push (show okI v from ⟨a2, a3⟩)))
    · cases hs
  · split at hs
    · rename_i v hv
      cases hs
      cases bq hok
      obtain ⟨a1, a2, a3⟩ := CTb_ok _ (lk2_in hv)
      exact lv_ldcw hx hb hown (hts _ a1) hdg (kk _ _ _ (hr.push (show okI v from ⟨a2, a3⟩)))
    · cases hs
  · split at hs
    · rename_i v hv
      cases hs
      cases bq hok
      obtain ⟨a1, a2, a3⟩ := DTb_ok _ (lk2_in hv)
      exact lv_ldc2 hx hb hown (hts _ a1) hdg (kk _ _ _ (hr.push (show okJ v from ⟨a2, a3⟩)))
    · cases hs
  · split at hs
    · rename_i x hg
      cases hs
      cases bq hok
      exact lv_iload_n hx hb hdg rfl (hr.1.at hg) (kk _ _ _ (hr.push (hr.1.2.2 _ _ hg)))
    · cases hs
  · split at hs
    · rename_i x hg
      cases hs
      cases bq hok
      exact lv_iload hx hb hdg (hr.1.at hg) (kk _ _ _ (hr.push (hr.1.2.2 _ _ hg)))
    · cases hs
  · split at hs
    · rename_i x hg
      cases hs
      cases bq hok
      exact lv_lload_n hx hb hdg rfl (hr.1.at hg) (kk _ _ _ (hr.push (hr.1.2.2 _ _ hg)))
    · cases hs
  · split at hs
    · rename_i x hg
      cases hs
      cases bq hok
      exact lv_lload hx hb hdg (hr.1.at hg) (kk _ _ _ (hr.push (hr.1.2.2 _ _ hg)))
    · cases hs
  · split at hs
    · rename_i x hg
      cases hs
      cases bq hok
      exact lv_aload_n hx hb hdg rfl (hr.1.at hg) (kk _ _ _ (hr.push (hr.1.2.2 _ _ hg)))
    · cases hs
  · split at hs
    · rename_i x hg
      cases hs
      cases bq hok
      exact lv_aload hx hb hdg (hr.1.at hg) (kk _ _ _ (hr.push (hr.1.2.2 _ _ hg)))
    · cases hs
  · split at hs
    · split at hs
      · rename_i x r L2 hset
        cases hs
        cases bq hok
        refine lv_istore_n hx hb hdg rfl hr.1.2.1 (by have := mset1_lt hset; rw [hr.1.1] at this; exact this) rfl (fun ls' hl' => ?_)
        exact kk _ _ _ ⟨hr.1.set1 hset hr.top hl', hr.pop.2⟩
      · cases hs
    · cases hs
  · split at hs
    · split at hs
      · rename_i x r L2 hset
        cases hs
        cases bq hok
        refine lv_istore hx hb hdg hr.1.2.1 (by have := mset1_lt hset; rw [hr.1.1] at this; exact this) rfl (fun ls' hl' => ?_)
        exact kk _ _ _ ⟨hr.1.set1 hset hr.top hl', hr.pop.2⟩
      · cases hs
    · cases hs
  · split at hs
    · split at hs
      · rename_i x r L2 hset
        cases hs
        cases bq hok
        refine lv_lstore_n hx hb hdg rfl hr.1.2.1 (by have := mset2_lt hset; rw [hr.1.1] at this; exact this) rfl (fun ls' hl' => ?_)
        exact kk _ _ _ ⟨hr.1.set2 hset hr.top hl', hr.pop.2⟩
      · cases hs
    · cases hs
  · split at hs
    · split at hs
      · rename_i x r L2 hset
        cases hs
        cases bq hok
        refine lv_lstore hx hb hdg hr.1.2.1 (by have := mset2_lt hset; rw [hr.1.1] at this; exact this) rfl (fun ls' hl' => ?_)
        exact kk _ _ _ ⟨hr.1.set2 hset hr.top hl', hr.pop.2⟩
      · cases hs
    · cases hs
  · split at hs
    · split at hs
      · rename_i x r L2 hset
        cases hs
        cases bq hok
        refine lv_astore_n hx hb hdg rfl hr.1.2.1 (by have := mset1_lt hset; rw [hr.1.1] at this; exact this) rfl (fun ls' hl' => ?_)
        exact kk _ _ _ ⟨hr.1.set1 hset hr.top hl', hr.pop.2⟩
      · cases hs
    · cases hs
  · split at hs
    · split at hs
      · rename_i x r L2 hset
        cases hs
        cases bq hok
        refine lv_astore hx hb hdg hr.1.2.1 (by have := mset1_lt hset; rw [hr.1.1] at this; exact this) rfl (fun ls' hl' => ?_)
        exact kk _ _ _ ⟨hr.1.set1 hset hr.top hl', hr.pop.2⟩
      · cases hs
    · cases hs
  · split at hs
    · rename_i x hg
      split at hs
      · rename_i L2 hset
        cases hs
        have h := Bool.and_eq_true_iff.mp hok
        cases bq h.1
        have h2 := Bool.and_eq_true_iff.mp h.2
        exact s_iinc hx hb hdg (of_decide_eq_true h2.1) (of_decide_eq_true h2.2) hg hset hr kk
      · cases hs
    · cases hs
  · split at hs
    · cases hs
      cases bq hok
      refine lv_ineg hx hb hdg ?_
      rw [i_neg hr.top]
      exact kk _ _ _ (hr.pop.push (w32_ok _))
    · cases hs
  · split at hs
    · cases hs
      cases bq hok
      refine lv_lneg hx hb hdg ?_
      rw [j_neg hr.top]
      exact kk _ _ _ (hr.pop.push (w64_ok _))
    · cases hs
  · split at hs
    · cases hs
      cases bq hok
      exact lv_i2l hx hb hdg (i_l hr.top) (kk _ _ _ (hr.pop.push (okI_J hr.top)))
    · cases hs
  · split at hs
    · cases hs
      cases bq hok
      exact lv_l2i hx hb hdg (l_i hr.top) (kk _ _ _ (hr.pop.push (w32_ok _)))
    · cases hs
  · split at hs
    · cases hs
      cases bq hok
      refine W.lcmp hx hb hdg ?_
      rw [j_cmp hr.pop.top hr.top]
      exact kk _ _ _ (hr.pop.pop.push (lcv_ok _ _))
    · cases hs
  · split at hs
    · rename_i y x r
      cases hs
      cases bq hok
      have hy : y ≠ 0 := hC _ List.mem_cons_self
      refine lv_ldiv hx hb hdg (fun z => hy ((j_eq hr.top okJ_0).mp z)) ?_
      rw [j_div hr.pop.top hr.top]
      exact kk _ _ _ (hr.pop.pop.push (w64_ok _))
    · cases hs
  · split at hs
    · rename_i y x r
      cases hs
      cases bq hok
      have hy : y ≠ 0 := hC _ List.mem_cons_self
      refine lv_lrem hx hb hdg (fun z => hy ((j_eq hr.top okJ_0).mp z)) ?_
      rw [j_rem hr.pop.top hr.top]
      exact kk _ _ _ (hr.pop.pop.push (tmod_ok hr.pop.top))
    · cases hs
  · split at hs
    · cases hs
      cases bq hok
      exact lv_dup hx hb hdg rfl (kk _ _ _ (hr.push hr.top))
    · cases hs
      cases bq hok
      exact lv_dup hx hb hdg (cat_rf _) (kk _ _ _ (hr.push hr.top))
    · cases hs
  · split at hs
    · cases hs
      cases bq hok
      exact lv_dup2_2 hx hb hdg rfl (kk _ _ _ (hr.push hr.top))
    · cases hs
      cases bq hok
      exact lv_dup2_11 hx hb hdg rfl (cat_rf _) (kk _ _ _ ((hr.push hr.pop.top).push hr.top))
    · cases hs
  · split at hs
    · cases hs
    · rename_i hge _
      cases hs
      cases bq hok
      exact lv_goto hx hb hdg (by omega) (kk _ _ _ hr)
  · split at hs
    · rename_i ci k hf
      obtain ⟨hc, hk, hw⟩ := FTb_ok _ (lk2_in hf)
      split at hs
      · rename_i q r
        split at hs
        · rename_i hcd
          cases hs
          cases bq hok
          have hO := hC _ List.mem_cons_self
          exact s_get (v := .inr (.inl (iv q k))) (pc' := 0) hx hb hown hts hWs hf hO hdg hr (by unfold mfv; rw [hcd]; rfl) ((hr.2.2.2.2.2.1 q k).1 (by rw [isLg_O hO, hcd]; rfl)) kk
        · rename_i hcd
          cases hs
          cases bq hok
          have hO := hC _ List.mem_cons_self
          have hsm : (rv q k).isSome = true := hC _ (List.mem_cons_of_mem _ List.mem_cons_self)
          refine s_get (v := .inr (.inr (some ((rv q k).getD 0)))) (pc' := 0) hx hb hown hts hWs hf hO hdg hr ?_ trivial kk
          unfold mfv; rw [hcd]
          cases hv : rv q k with
          | none => rw [hv] at hsm; cases hsm
          | some w => rfl
        · rename_i h1 h3
          cases hs
          cases bq hok
          have hO := hC _ List.mem_cons_self
          refine s_get (v := .inl (iv q k)) (pc' := 0) hx hb hown hts hWs hf hO hdg hr ?_ ((hr.2.2.2.2.2.1 q k).2 ?_) kk
          · unfold mfv; split <;> first | rfl | simp_all
          · rw [isLg_O hO]; cases hz : Nat.beq (fCd ci k) 1 with
            | false => rfl
            | true => exact absurd (bq hz) h1
      · cases hs
    · cases hs
  · split at hs
    · rename_i ci k hf
      obtain ⟨hc, hk, hw⟩ := FTb_ok _ (lk2_in hf)
      split at hs
      · cases hs
      · rename_i hfin
        have mvn : ∀ {q : Nat} {x : Int} (a j : Nat), ¬ (a = q ∧ j = k) → st2 iv q k x a j = iv a j := fun a j h => by unfold st2; rw [if_neg h]
        have rvn : ∀ {q : Nat} {x : Option Nat} (a j : Nat), ¬ (a = q ∧ j = k) → st2 rv q k x a j = rv a j := fun a j h => by unfold st2; rw [if_neg h]
        split at hs
        · rename_i x q r hcd
          cases hs
          cases bq hok
          have hO := hC _ List.mem_cons_self
          have ht := ty_0 (fty_of hc hk hcd)
          exact s_put (iv' := st2 iv q k x) (rv' := rv) hx hb hown hts hWs hf hfin hO hdg hr (by rw [ht]; rfl) (by rw [ht]; rfl) (by unfold mfv; rw [hcd, st2_eq]; rfl) mvn (fun _ _ _ => rfl) (okh_st2 hr.2.2.2.2.2.1 ⟨fun h => by rw [isLg_O hO, hcd] at h; exact absurd h (by decide), fun _ => hr.top⟩) kk
        · rename_i x q r hcd
          cases hs
          cases bq hok
          have hO := hC _ List.mem_cons_self
          have ht := ty_1 (fty_of hc hk hcd)
          exact s_put (iv' := st2 iv q k x) (rv' := rv) hx hb hown hts hWs hf hfin hO hdg hr (by rw [ht]; rfl) (by rw [ht]; rfl) (by unfold mfv; rw [hcd, st2_eq]; rfl) mvn (fun _ _ _ => rfl) (okh_st2 hr.2.2.2.2.2.1 ⟨fun _ => hr.top, fun h => by rw [isLg_O hO, hcd] at h; exact absurd h (by decide)⟩) kk
        · rename_i x q r hcd
          cases hs
          cases bq hok
          have hO := hC _ List.mem_cons_self
          have hz : x = 0 ∨ x = 1 := hC _ (List.mem_cons_of_mem _ List.mem_cons_self)
          have ht := ty_2 (fty_of hc hk hcd)
          exact s_put (iv' := st2 iv q k x) (rv' := rv) hx hb hown hts hWs hf hfin hO hdg hr (by rw [ht]; exact (nz_bool hz).1) (by rw [ht]; exact (nz_bool hz).2.1) (by unfold mfv; rw [hcd, st2_eq]; rfl) mvn (fun _ _ _ => rfl) (okh_st2 hr.2.2.2.2.2.1 ⟨fun h => by rw [isLg_O hO, hcd] at h; exact absurd h (by decide), fun _ => hr.top⟩) kk
        · rename_i x q r hcd
          cases hs
          cases bq hok
          have hO := hC _ List.mem_cons_self
          have ht := ty_3 (fty_of hc hk hcd)
          exact s_put (iv' := iv) (rv' := st2 rv q k (some x)) hx hb hown hts hWs hf hfin hO hdg hr (ht _).1 (ht _).2 (by unfold mfv; rw [hcd, st2_eq]; rfl) (fun _ _ _ => rfl) rvn hr.2.2.2.2.2.1 kk
        · cases hs
    · cases hs
  · split at hs
    · cases hs
      cases bq hok
      have h := hC _ List.mem_cons_self
      exact s_len hx hb hWs h.2 h.1 hdg hr kk
    · cases hs
  · split at hs
    · cases hs
      cases bq hok
      exact s_ial hx hb hWs (hC _ List.mem_cons_self) (hC _ (List.mem_cons_of_mem _ List.mem_cons_self)) (hC _ (List.mem_cons_of_mem _ (List.mem_cons_of_mem _ List.mem_cons_self))) hdg hr kk
    · cases hs
  · split at hs
    · cases hs
      cases bq hok
      exact s_lal hx hb hWs (hC _ List.mem_cons_self) (hC _ (List.mem_cons_of_mem _ List.mem_cons_self)) (hC _ (List.mem_cons_of_mem _ (List.mem_cons_of_mem _ List.mem_cons_self))) hdg hr kk
    · cases hs
  · split at hs
    · cases hs
      cases bq hok
      exact s_zal hx hb hWs (hC _ List.mem_cons_self) (hC _ (List.mem_cons_of_mem _ List.mem_cons_self)) (hC _ (List.mem_cons_of_mem _ (List.mem_cons_of_mem _ List.mem_cons_self))) hdg hr kk
    · cases hs
  · split at hs
    · cases hs
      cases bq hok
      exact s_aal hx hb hWs (hC _ List.mem_cons_self) (hC _ (List.mem_cons_of_mem _ List.mem_cons_self)) (hC _ (List.mem_cons_of_mem _ (List.mem_cons_of_mem _ List.mem_cons_self))) (hC _ (List.mem_cons_of_mem _ (List.mem_cons_of_mem _ (List.mem_cons_of_mem _ List.mem_cons_self)))) hdg hr kk
    · cases hs
  · split at hs
    · cases hs
      cases bq hok
      exact s_ias hx hb hWs (hC _ List.mem_cons_self) (hC _ (List.mem_cons_of_mem _ List.mem_cons_self)) (hC _ (List.mem_cons_of_mem _ (List.mem_cons_of_mem _ List.mem_cons_self))) hdg hr kk
    · cases hs
  · split at hs
    · cases hs
      cases bq hok
      exact s_las hx hb hWs (hC _ List.mem_cons_self) (hC _ (List.mem_cons_of_mem _ List.mem_cons_self)) (hC _ (List.mem_cons_of_mem _ (List.mem_cons_of_mem _ List.mem_cons_self))) hdg hr kk
    · cases hs
  · split at hs
    · cases hs
      cases bq hok
      exact s_zas hx hb hWs (hC _ List.mem_cons_self) (hC _ (List.mem_cons_of_mem _ List.mem_cons_self)) (hC _ (List.mem_cons_of_mem _ (List.mem_cons_of_mem _ List.mem_cons_self))) (hC _ (List.mem_cons_of_mem _ (List.mem_cons_of_mem _ (List.mem_cons_of_mem _ List.mem_cons_self)))) hdg hr kk
    · cases hs
  · split at hs
    · rename_i hy
      split at hs
      · split at hs
        · rename_i hcat
          cases hs
          have h := Bool.and_eq_true_iff.mp hok
          cases bq h.1
          have h2 := h.2
          rw [hy] at h2
          have h3 := Bool.and_eq_true_iff.mp h2
          have f1 := Nat.le_of_ble_eq_true h3.1
          have f2 := Nat.le_of_ble_eq_true h3.2
          obtain ⟨c1, c2, c3, c4, c5, c6⟩ := (hC _ List.mem_cons_self)
          exact s_cpy hx hb hml hown hts hWs (by omega) (by omega) hy (Nat.le_of_ble_eq_true hcat) c3 c4 c5 c6 (hC _ (List.mem_cons_of_mem _ List.mem_cons_self)) (hC _ (List.mem_cons_of_mem _ (List.mem_cons_of_mem _ List.mem_cons_self))) (hC _ (List.mem_cons_of_mem _ (List.mem_cons_of_mem _ (List.mem_cons_of_mem _ List.mem_cons_self)))) (hC _ (List.mem_cons_of_mem _ (List.mem_cons_of_mem _ (List.mem_cons_of_mem _ (List.mem_cons_of_mem _ List.mem_cons_self))))) (hC _ (List.mem_cons_of_mem _ (List.mem_cons_of_mem _ (List.mem_cons_of_mem _ (List.mem_cons_of_mem _ (List.mem_cons_of_mem _ List.mem_cons_self)))))) c1 c2 hdg hr kk
        · cases hs
      · cases hs
    · cases hs
  · split at hs
    · rename_i f hf
      split at hs
      · cases hs
        exact s_ib hx hb hdg hok hf hr kk
      · cases hs
    · split at hs
      · rename_i f hf
        split at hs
        · cases hs
          exact s_lb hx hb hdg hok hf hr kk
        · cases hs
      · cases hs
end SNC
