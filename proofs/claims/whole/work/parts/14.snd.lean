theorem own7b : ∀ M, M < 104 → (mth M).2.2.2.2.2.1 < 7 := by decide +kernel
theorem own7 {M : Nat} (h : M < 104) : (mth M).2.2.2.2.2.1 < 7 := own7b M h
theorem mrecv_of {s : State} {H : Heap} {D : va_G} {ad : Nat → Nat} {cy : Nat → ClassId} {iv : mIv} {rv : mRv} {tys : List (ClassId × FieldType)} {q ci : Nat} (hc : ci < 4) (hK : va_K D vwCl tys s) (hP : va_P D vwCl (mwl ad cy iv rv) H) (hO : isO q ci) : ∃ cell : Cell, H[ad q]? = some cell ∧ cell.vm.isStatics = false ∧ s.vm.findClass (cnm ci) = some cell.cls :=
  va_recv (q := (cnm ci, fTk ci, fNk ci)) (fs := (List.range (fNk ci)).map (fun j => mfv ad (fCd ci j) iv rv q j)) hK hP (fT_ok (k := 0) hc).1 (by rw [mwl_get (isO_lt hO), mce_O hO])
theorem isO_c {q ci : Nat} (h : isO q ci) : ci < 4 := by
  have h82 := isO_lt h
  unfold isO at h
  have : ∀ q, q < 82 → (shk q).1 = 2 → (shk q).2.1 < 4 := by decide +kernel
  have h2 := this q h82 (by rw [h])
  rw [h] at h2
  exact h2
section SNF
variable {p : Program} {l : Launch} {e : Env} {R : Room} {s : State} {m : MethodId} {args : Array Value} {below : List Frame} {meth : Method} {c : Code} {H : Heap} {locs : List Loc} {cells slots : Nat} {Qw : State → Prop}
variable {pc : Nat} {ls : Array Slot} {D : va_G} {ad : Nat → Nat} {cy : Nat → ClassId} {b Ls : Nat} {xs : Nat → Int32} {L : mL} {st : List mV} {iv : mIv} {rv : mRv}
/-- a call of the mini machine is one of the machine -/
theorem s_call {n M M' : Nat} {i : Instr} {len : Nat} {Cs : List Prop} {as r : List mV} {Q' : Option mV → mIv → mRv → Prop} (IH : SndAt n) (hX : mCx p R s m args c M) (hc1 : cells ≤ R.cells) (hc2 : slots ≤ R.slots) (hWs : mWs D ad cy b Ls xs s) (hdg : decode (mth M).2.1 pc = .ok (i, len)) (hok : okIn (mth M).2.2.2.2.2.1 (mth M).2.2.2.2.2.2.2.2.1 (mth M).2.2.2.2.2.2.2.2.2 i len = true) (hs : mcl (mth M).2.2.2.2.2.2.2.2.1 (mth M).2.2.2.2.2.2.2.2.2 (mth M).2.2.2.2.2.1 i st = some (Cs, M', as, r)) (hC : ∀ P ∈ Cs, P) (hex : mex n M' 0 (mentry (mth M').2.2.2.1 as) [] iv rv Q') (hr : mRl D ad cy Ls xs s (mth M).2.2.2.1 L st iv rv H locs ls)
    (kk : ∀ v iv' rv' H' locs', Q' v iv' rv' → mRl D ad cy Ls xs s (mth M).2.2.2.1 L (mpush v r) iv' rv' H' locs' ls → W p l e R s m args below meth c H' locs' cells slots Qw (F0 m (pc + 3) ls ((mpush v r).map (mval ad)))) : W p l e R s m args below meth c H locs cells slots Qw (F0 m pc ls (st.map (mval ad))) := by
  obtain ⟨hx, hb, hml, hown, hts, hF, hLc⟩ := hX
  have cont : ∀ (hro : ∀ w ∈ r, okv w), va_Run p l e R s m args below meth c H locs cells slots 0 0 (F0 m pc ls (st.map (mval ad))) (r.map (mval ad)) (mQc D ad cy Ls xs Q' (as.map (mval ad)).toArray) (mA ad) → W p l e R s m args below meth c H locs cells slots Qw (F0 m pc ls (st.map (mval ad))) := fun hro hrun => by
    refine va_callG hrun (fun v u t K hu hvm hq hK => ?_)
    obtain ⟨w, iv', rv', e1, q1, q2, q3, q4, q5, q6, q7, q8⟩ := hq
    cases e1
    rw [← mpush_map]
    refine kk w iv' rv' t.heap (locs ++ K) q1 ⟨hr.1, ?_, q3, q4, ?_, q5, q6, q7⟩
    · cases w with
      | none => exact hro
      | some w => exact List.forall_mem_cons.mpr ⟨q2 w rfl, hro⟩
    · obtain ⟨z1, z2⟩ := q8
      rw [hu] at z1 z2
      obtain ⟨s1, s2, s3⟩ := hr.2.2.2.2.1
      exact ⟨Nat.le_trans s1 z1, fun q h1 h2 => by rw [z2 q (Nat.lt_of_lt_of_le h1 s1) h2]; exact s2 q h1 h2, fun q hq => (List.mem_append.mp hq).elim (s3 q) (hK q)⟩
  have hFix : CallFix p m c (mth M).2.1 (mth M).2.2.2.1 s args BIG (cnm (mth M).2.2.2.2.2.1) := ⟨hx, hb, hml, hown, hts⟩
  have hPre : ∀ U : State, U.heap = H → s.WarmedH U.vm → mPc D ad cy b Ls xs as iv rv (as.map (mval ad)).toArray U := fun U hU hW => ⟨rfl, by rw [hU]; exact hr.2.2.1, hr.2.2.2.1, va_X.here hWs hr.2.2.2.2.1 hU hW.alike⟩
  unfold mcl at hs
  split at hs
  · rename_i ix
    split at hs
    · rename_i M2 hk
      obtain ⟨k1, k2, k3, k4⟩ := KTb_ok _ (lk2_in hk)
      split at hs
      · rename_i as2 r2 hst htk
        split at hs
        · rename_i hcond
          cases hs
          have h1 := Bool.and_eq_true_iff.mp hcond
          have h2 := Bool.and_eq_true_iff.mp h1.2
          have h3 := Bool.and_eq_true_iff.mp h2.2
          have c1 := Nat.le_of_ble_eq_true h1.1
          have c2 := Nat.le_of_ble_eq_true h2.1
          have c3 := Nat.le_of_ble_eq_true h3.1
          have c4 := Nat.le_of_ble_eq_true h3.2
          have hl3 : len = 3 := bq (Bool.and_eq_true_iff.mp hok).1
          subst hl3
          obtain ⟨t, e1, e2, e3⟩ := mtk_eq _ _ _ _ _ htk
          rw [List.append_nil] at e2
          have hasr : as.reverse = t := by rw [e2, List.reverse_reverse]
          have ho : ∀ w ∈ as, okv w := fun w hw => hr.2.1 w (by rw [e1]; exact List.mem_append_left _ (by rw [← hasr]; exact List.mem_reverse.mpr hw))
          have hro : ∀ w ∈ r, okv w := fun w hw => hr.2.1 w (by rw [e1]; exact List.mem_append_right _ hw)
          have K7 : (mth M').2.2.2.2.2.1 < 7 := own7 k1
          obtain ⟨-, o2⟩ := mth_ok (M := M')
          obtain ⟨g1, g2, g3, g4, g5, g6, g7⟩ := o2 K7
          have hMet := met_of IH l K7 hex D ad cy b Ls xs ho c1 hr.2.2.2.2.2.1 hr.2.2.2.2.2.2.1 hr.2.2.2.2.2.2.2
          refine cont hro ?_
          refine va_runS (As := as.map (mval ad)) (rest := r.map (mval ad)) hFix hMet ⟨callB_of _ hts (big_good K7) rfl rfl rfl (hts _ g4) (hts _ k2) ⟨g5, g6, g7⟩ ⟨by show (mth M').2.2.2.2.2.2.2.2.1 + 1 ≤ R.frames; omega, by show 8 + ((mth M').2.2.2.1 + 11) + (mth M').2.2.2.2.2.2.2.2.2 ≤ R.locals; omega⟩, hts _ (k3 hst)⟩ ⟨blind_mPc, hPre⟩ rfl (by rw [List.length_map, e2, List.length_reverse, e3]) hr.1.2.1.1 (by show st.map (mval ad) = _; rw [e1, ← hasr, List.map_append, List.map_reverse]) (lv_room (by rw [mcat_eq]; exact c2)) hdg ⟨hc1, hc2⟩
        · cases hs
      · cases hs
    · cases hs
  · rename_i ix
    split at hs
    · rename_i M2 hk
      obtain ⟨k1, k2, k3, k4⟩ := KTb_ok _ (lk2_in hk)
      split at hs
      · rename_i as2 q r2 hst htk
        split at hs
        · rename_i hcond
          cases hs
          have h1 := Bool.and_eq_true_iff.mp hcond
          have h2 := Bool.and_eq_true_iff.mp h1.2
          have h3 := Bool.and_eq_true_iff.mp h2.2
          have c1 := Nat.le_of_ble_eq_true h1.1
          have c2 := Nat.le_of_ble_eq_true h2.1
          have c3 := Nat.le_of_ble_eq_true h3.1
          have c4 := Nat.le_of_ble_eq_true h3.2
          have hl3 : len = 3 := bq hok
          subst hl3
          obtain ⟨t, e1, e2, e3⟩ := mtk_eq _ _ _ _ _ htk
          rw [List.append_nil] at e2
          have hasr : as2.reverse = t := by rw [e2, List.reverse_reverse]
          have ho : ∀ w ∈ (Sum.inr (Sum.inr (some q)) : mV) :: as2, okv w := List.forall_mem_cons.mpr ⟨trivial, fun w hw => hr.2.1 w (by rw [e1]; exact List.mem_append_left _ (by rw [← hasr]; exact List.mem_reverse.mpr hw))⟩
          have hro : ∀ w ∈ r, okv w := fun w hw => hr.2.1 w (by rw [e1]; exact List.mem_append_right _ (List.mem_cons_of_mem _ hw))
          have K7 : (mth M').2.2.2.2.2.1 < 7 := own7 k1
          obtain ⟨-, o2⟩ := mth_ok (M := M')
          obtain ⟨g1, g2, g3, g4, g5, g6, g7⟩ := o2 K7
          have hO : isO q (mth M').2.2.2.2.2.1 := hC _ List.mem_cons_self
          obtain ⟨i1, i2⟩ := k4 hst
          have hMet := met_of IH l K7 hex D ad cy b Ls xs ho c1 hr.2.2.2.2.2.1 hr.2.2.2.2.2.2.1 hr.2.2.2.2.2.2.2
          refine cont hro ?_
          have hrec := mrecv_of (isO_c hO) hWs.1 hr.2.2.1 hO
          rw [← g3] at hrec
          refine va_runV (C := (mth M').2.2.1.cls) (b := ad q) (As := as2.map (mval ad)) (rest := r.map (mval ad)) hFix hMet ⟨callB_of _ hts (big_good K7) rfl rfl rfl (hts _ g4) (hts _ k2) ⟨g5, g6, g7⟩ ⟨by show (mth M').2.2.2.2.2.2.2.2.1 + 1 ≤ R.frames; omega, by show 8 + ((mth M').2.2.2.1 + 11) + (mth M').2.2.2.2.2.2.2.2.2 ≤ R.locals; omega⟩, hts _ i1, hts _ i2⟩ ⟨blind_mPc, hrec, hPre⟩ rfl (by rw [List.length_map, e2, List.length_reverse, e3]) hr.1.2.1.1 (by show st.map (mval ad) = _; rw [e1, ← hasr, List.map_append, List.map_reverse]; rfl) (lv_room (by rw [mcat_eq]; exact c2)) hdg ⟨hc1, hc2⟩
        · cases hs
      · cases hs
    · cases hs
  · cases hs
end SNF
theorem snd : ∀ n : Nat, SndAt n := by
  intro n
  induction n with
  | zero => intro M pc L st iv rv Q h; exact absurd h (by unfold mex; exact id)
  | succ n IH =>
    intro M pc L st iv rv Q h p l e R s m args below meth c H locs ls cells slots Qw D ad cy b Ls xs hX hc1 hc2 hWs hr hret
    unfold mex at h
    split at h
    · exact absurd h id
    · rename_i i len hlk
      obtain ⟨hdg, hok⟩ := mth_ins hlk
      have hX' := hX
      obtain ⟨hx, hb, hml, hown, hts, hF, hLc⟩ := hX'
      split at h
      · rename_i Cs pc' L' st' iv' rv' hnx
        obtain ⟨hC, hex⟩ := mconj_of h
        exact s_nx hx hb hml hown hts hWs hF hLc hdg hok hnx hC hr (fun H' locs' ls' hr' => IH M pc' L' st' iv' rv' Q hex p l e R s m args below meth c H' locs' ls' cells slots Qw D ad cy b Ls xs hX hc1 hc2 hWs hr' hret)
      · split at h
        · rename_i bs st' hbr
          exact s_br hx hb hdg hok hbr hr h (fun t ht hr' => IH M t L st' iv rv Q ht p l e R s m args below meth c H locs ls cells slots Qw D ad cy b Ls xs hX hc1 hc2 hWs hr' hret)
        · split at h
          · rename_i Cs M' as r hcl
            obtain ⟨hC, hex⟩ := mconj_of h
            exact s_call IH hX hc1 hc2 hWs hdg hok hcl hC hex hr (fun v iv' rv' H' locs' hq hr' => IH M (pc + 3) L (mpush v r) iv' rv' Q hq p l e R s m args below meth c H' locs' ls cells slots Qw D ad cy b Ls xs hX hc1 hc2 hWs hr' hret)
          · split at h
            · rename_i Cs v hrt
              obtain ⟨hC, hq⟩ := mconj_of h
              have hl1 := mrt_len hrt hok
              subst hl1
              exact hret i pc st Cs v L iv rv H locs ls hdg hrt hC hq hr
            · exact absurd h id
