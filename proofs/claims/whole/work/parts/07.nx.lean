/-! the instructions that go on at one place -/
theorem bq {n k : Nat} (h : Nat.beq n k = true) : n = k := Nat.eq_of_beq_eq_true h
theorem mfs_set {n k : Nat} {f f' : Nat → Value} {v : Value} (hk : k < n) (h1 : f' k = v) (h2 : ∀ j, j ≠ k → f' j = f j) : ((List.range n).map f).set k v = (List.range n).map f' := by
  apply List.ext_getElem?
  intro j
  rw [List.getElem?_set]
  by_cases hj : k = j
  · subst hj
    rw [if_pos rfl, if_pos (by simp; exact hk), List.getElem?_map, List.getElem?_range hk, Option.map_some, h1]
  · rw [if_neg hj, List.getElem?_map, List.getElem?_map]
    cases h : (List.range n)[j]? with
    | none => rfl
    | some w =>
      have : w = j := by
        have hl := (List.getElem?_eq_some_iff.mp h).1
        rw [List.length_range] at hl
        rw [List.getElem?_range hl] at h
        exact (Option.some.inj h).symm
      subst this
      rw [Option.map_some, Option.map_some, h2 w (fun e => hj e.symm)]
theorem mfv_n {ad : Nat → Nat} {iv iv' : mIv} {rv rv' : mRv} {p j k : Nat} (h1 : iv' p j = iv p j) (h2 : rv' p j = rv p j) : mfv ad k iv' rv' p j = mfv ad k iv rv p j := by
  unfold mfv; rw [h1, h2]
theorem cat_rf (r : Option Nat) : (va_rf r).category = 1 := by cases r <;> rfl
theorem nz_bool {x : Int} (h : x = 0 ∨ x = 1) : narrow .boolean (.int (Int32.ofInt x)) = .int (Int32.ofInt x) ∧ fits .boolean (.int (Int32.ofInt x)) = true ∧ vp_nar .boolean (Int32.ofInt x) = Int32.ofInt x := by
  rcases h with rfl | rfl <;> decide +kernel
section SNX
variable {p : Program} {l : Launch} {e : Env} {R : Room} {s : State} {m : MethodId} {args : Array Value} {below : List Frame} {meth : Method} {c : Code} {H : Heap} {locs : List Loc} {cells slots : Nat} {Qw : State → Prop}
variable {cc : ByteArray} {pc : Nat} {ls : Array Slot} {D : va_G} {ad : Nat → Nat} {cy : Nat → ClassId} {b Ls : Nat} {xs : Nat → Int32} {nL o : Nat} {L L' : mL} {st st' : List mV} {iv iv' : mIv} {rv rv' : mRv}
theorem s_get {ix ci k q pc' : Nat} {v : mV} (hx : p.tables.exec = Jvm.exec) (hb : c.code = cc) (hown : s.vm.findClass (cnm o) = some m.cls) (hts : ∀ w ∈ BIG, w.before args s = true) (hWs : mWs D ad cy b Ls xs s) (hf : lk2 FTb o ix = some (ci, k)) (hO : isO q ci) (hdg : decode cc pc = .ok (.getfield ix, 3)) (hr : mRl D ad cy Ls xs s nL L (.inr (.inr (some q)) :: st) iv rv H locs ls) (hv : mfv ad (fCd ci k) iv rv q k = mval ad v) (ho : okv v)
    (kk : ∀ H' locs' ls', mRl D ad cy Ls xs s nL L (v :: st) iv rv H' locs' ls' → W p l e R s m args below meth c H' locs' cells slots Qw (F0 m (pc + 3) ls' ((v :: st).map (mval ad)))) : W p l e R s m args below meth c H locs cells slots Qw (F0 m pc ls ((.inr (.inr (some q)) :: st).map (mval ad))) := by
  obtain ⟨hc, hk, hw⟩ := FTb_ok _ (lk2_in hf)
  obtain ⟨g1, g2, g3, g4⟩ := fT_ok (k := 0) hc
  obtain ⟨f1, f2, f3, f4⟩ := fC_ok ci hc k hk
  refine va_get (D := D) (ci := ci) (v := mfv ad (fCd ci k) iv rv q k) (C := cnm ci) (T := fTk ci) (N := fNk ci) hx hb hts (lay_big hc) hown hWs.1 hr.2.2.1 q (by rw [mwl_get (isO_lt hO), mce_O hO]) g1 k hk (hts _ hw) (fun x hx => by rw [← f1]; exact hx) (by rw [List.getElem?_map, List.getElem?_range hk]; rfl) hdg ?_
  rw [hv]
  exact kk _ _ _ (hr.pop.push ho)
theorem s_put {ix ci k q : Nat} {v : mV} (hx : p.tables.exec = Jvm.exec) (hb : c.code = cc) (hown : s.vm.findClass (cnm o) = some m.cls) (hts : ∀ w ∈ BIG, w.before args s = true) (hWs : mWs D ad cy b Ls xs s) (hf : lk2 FTb o ix = some (ci, k)) (hfin : fFn ci k = false) (hO : isO q ci) (hdg : decode cc pc = .ok (.putfield ix, 3)) (hr : mRl D ad cy Ls xs s nL L (v :: .inr (.inr (some q)) :: st) iv rv H locs ls)
    (hn : narrow (fTy ci k) (mval ad v) = mval ad v) (hfit : fits (fTy ci k) (mval ad v) = true) (hv : mfv ad (fCd ci k) iv' rv' q k = mval ad v) (h1 : ∀ a j, ¬ (a = q ∧ j = k) → iv' a j = iv a j) (h2 : ∀ a j, ¬ (a = q ∧ j = k) → rv' a j = rv a j) (ho : okh iv')
    (kk : ∀ H' locs' ls', mRl D ad cy Ls xs s nL L st iv' rv' H' locs' ls' → W p l e R s m args below meth c H' locs' cells slots Qw (F0 m (pc + 3) ls' (st.map (mval ad)))) : W p l e R s m args below meth c H locs cells slots Qw (F0 m pc ls ((v :: .inr (.inr (some q)) :: st).map (mval ad))) := by
  obtain ⟨hc, hk, hw⟩ := FTb_ok _ (lk2_in hf)
  obtain ⟨g1, g2, g3, g4⟩ := fT_ok (k := 0) hc
  obtain ⟨f1, f2, f3, f4⟩ := fC_ok ci hc k hk
  have hq := isO_lt hO
  refine va_put (D := D) (ci := ci) (v := mval ad v) (ty := fTy ci k) (C := cnm ci) (T := fTk ci) (N := fNk ci) hx hb hts (lay_big hc) (fTy ci) g3 g4 hown hWs.1 hr.2.2.1 hr.2.2.2.1 hr.2.2.2.2.1 q (by rw [mwl_get hq, mce_O hO]) g1 k hk (hts _ hw) (fun x hx => by rw [← f1]; exact hx) (by rw [f2]; exact hfin) (g3 k hk) hn hfit (by simp; exact hk) hdg (fun H1 locs1 hP hD hS => ?_)
  have e : (Sum.inr (ci, ((List.range (fNk ci)).map (fun j => mfv ad (fCd ci j) iv rv q j)).set k (mval ad v)) : va_E) = mce ad cy iv' rv' q := by
    rw [mce_O hO, mfs_set (f' := fun j => mfv ad (fCd ci j) iv' rv' q j) hk hv (fun j hj => mfv_n (h1 q j (fun e => hj e.2)) (h2 q j (fun e => hj e.2)))]
  rw [e] at hP hD
  exact kk _ _ _ (hr.pop.pop.put hq (fun x hx => mce_ne (fun j => h1 x j (fun e => hx e.1)) (fun j => h2 x j (fun e => hx e.1))) hP hD hS ho (fun j => h1 _ j (fun e => by have := e.1; omega)) (h1 _ 0 (fun e => by have := e.1; omega)))
theorem s_ial {q : Nat} {j : Int} (hx : p.tables.exec = Jvm.exec) (hb : c.code = cc) (hWs : mWs D ad cy b Ls xs s) (hA : isA q 0) (h0 : 0 ≤ j) (hj : j < mln iv q) (hdg : decode cc pc = .ok (.iaload, 1)) (hr : mRl D ad cy Ls xs s nL L (.inl j :: .inr (.inr (some q)) :: st) iv rv H locs ls)
    (kk : ∀ H' locs' ls', mRl D ad cy Ls xs s nL L (.inl (iv q j.toNat) :: st) iv rv H' locs' ls' → W p l e R s m args below meth c H' locs' cells slots Qw (F0 m (pc + 1) ls' ((.inl (iv q j.toNat) :: st).map (mval ad)))) : W p l e R s m args below meth c H locs cells slots Qw (F0 m pc ls ((.inl j :: .inr (.inr (some q)) :: st).map (mval ad))) := by
  have hjo : okI j := hr.top
  have hok : okI (iv q j.toNat) := (hr.2.2.2.2.2.1 q j.toNat).2 (isLg_A hA)
  have K := kk H locs ls (hr.pop.pop.push hok)
  by_cases hq : q = 1000000
  · subst hq
    have hj2 : j < (Ls : Int) := by
      unfold mln at hj
      rw [if_pos rfl, hr.2.2.2.2.2.2.2] at hj
      exact hj
    have ee : mval ad (.inr (.inr (some 1000000))) = .ref b := by show Value.ref (ad 1000000) = _; rw [hWs.2.2.2.2.1]
    show W p l e R s m args below meth c H locs cells slots Qw (F0 m pc ls (.int (Int32.ofInt j) :: mval ad (.inr (.inr (some 1000000))) :: st.map (mval ad)))
    rw [ee]
    refine va_sld hx hb hWs.2.1 hWs.2.2.1 hWs.2.2.2.1 hr.2.2.2.2.1 (i_in hjo h0 hj2) hdg ?_
    rw [i_cl hjo]
    have e2 : (Value.int (xs j.toNat)) = mval ad (.inl (iv 1000000 j.toNat)) := by
      show _ = Value.int (Int32.ofInt (iv 1000000 j.toNat))
      rw [hr.2.2.2.2.2.2.1, oI]
    rw [e2]
    exact K
  · have hj2 : j < sln q := by unfold mln at hj; rw [if_neg hq] at hj; exact hj
    have hq82 := sln_lt h0 hj2
    refine va_iald hx hb hWs.1 hr.2.2.1 q 0 (by rw [mwl_get hq82, mce_A hA (by decide)]) rfl (i_in hjo h0 hj2) hdg ?_
    rw [i_cl hjo]
    exact K
theorem s_lal {q : Nat} {j : Int} (hx : p.tables.exec = Jvm.exec) (hb : c.code = cc) (hWs : mWs D ad cy b Ls xs s) (hA : isA q 1) (h0 : 0 ≤ j) (hj : j < sln q) (hdg : decode cc pc = .ok (.laload, 1)) (hr : mRl D ad cy Ls xs s nL L (.inl j :: .inr (.inr (some q)) :: st) iv rv H locs ls)
    (kk : ∀ H' locs' ls', mRl D ad cy Ls xs s nL L (.inr (.inl (iv q j.toNat)) :: st) iv rv H' locs' ls' → W p l e R s m args below meth c H' locs' cells slots Qw (F0 m (pc + 1) ls' ((.inr (.inl (iv q j.toNat)) :: st).map (mval ad)))) : W p l e R s m args below meth c H locs cells slots Qw (F0 m pc ls ((.inl j :: .inr (.inr (some q)) :: st).map (mval ad))) := by
  have hjo : okI j := hr.top
  have hok : okJ (iv q j.toNat) := (hr.2.2.2.2.2.1 q j.toNat).1 (isLg_A hA)
  refine va_lald hx hb hWs.1 hr.2.2.1 q 1 (by rw [mwl_get (sln_lt h0 hj), mce_J hA]) rfl (i_in hjo h0 hj) hdg ?_
  rw [i_cl hjo]
  exact kk H locs ls (hr.pop.pop.push hok)
theorem s_zal {q : Nat} {j : Int} (hx : p.tables.exec = Jvm.exec) (hb : c.code = cc) (hWs : mWs D ad cy b Ls xs s) (hA : isA q 2) (h0 : 0 ≤ j) (hj : j < sln q) (hdg : decode cc pc = .ok (.baload, 1)) (hr : mRl D ad cy Ls xs s nL L (.inl j :: .inr (.inr (some q)) :: st) iv rv H locs ls)
    (kk : ∀ H' locs' ls', mRl D ad cy Ls xs s nL L (.inl (iv q j.toNat) :: st) iv rv H' locs' ls' → W p l e R s m args below meth c H' locs' cells slots Qw (F0 m (pc + 1) ls' ((.inl (iv q j.toNat) :: st).map (mval ad)))) : W p l e R s m args below meth c H locs cells slots Qw (F0 m pc ls ((.inl j :: .inr (.inr (some q)) :: st).map (mval ad))) := by
  have hjo : okI j := hr.top
  have hok : okI (iv q j.toNat) := (hr.2.2.2.2.2.1 q j.toNat).2 (isLg_A hA)
  refine va_zald hx hb hWs.1 hr.2.2.1 q 2 (by rw [mwl_get (sln_lt h0 hj), mce_A hA (by decide)]) rfl (i_in hjo h0 hj) hdg ?_
  rw [i_cl hjo]
  exact kk H locs ls (hr.pop.pop.push hok)
theorem qty : ∀ q, q < 82 → (shk q).1 = 1 → (shk q).2.1 = 3 ∨ (shk q).2.1 = 4 := by decide +kernel
theorem s_aal {q : Nat} {j : Int} (hx : p.tables.exec = Jvm.exec) (hb : c.code = cc) (hWs : mWs D ad cy b Ls xs s) (hA : isQ q) (h0 : 0 ≤ j) (hj : j < sln q) (hsm : (rv q j.toNat).isSome = true) (hdg : decode cc pc = .ok (.aaload, 1)) (hr : mRl D ad cy Ls xs s nL L (.inl j :: .inr (.inr (some q)) :: st) iv rv H locs ls)
    (kk : ∀ H' locs' ls', mRl D ad cy Ls xs s nL L (.inr (.inr (some ((rv q j.toNat).getD 0))) :: st) iv rv H' locs' ls' → W p l e R s m args below meth c H' locs' cells slots Qw (F0 m (pc + 1) ls' ((.inr (.inr (some ((rv q j.toNat).getD 0))) :: st).map (mval ad)))) : W p l e R s m args below meth c H locs cells slots Qw (F0 m pc ls ((.inl j :: .inr (.inr (some q)) :: st).map (mval ad))) := by
  have hjo : okI j := hr.top
  have hq82 := sln_lt h0 hj
  have K := kk H locs ls (hr.pop.pop.push trivial)
  have hcell := hr.2.2.1 q _ (mwl_get hq82)
  have hin := i_in hjo h0 hj
  have hlt : (Int32.ofInt j).toNatClampNeg < (shk q).2.2 := Nat.not_le.mp fun z => hin (Or.inr z)
  have e : va_rf ((rv q j.toNat).map ad) = mval ad (.inr (.inr (some ((rv q j.toNat).getD 0)))) := by
    cases hv : rv q j.toNat with
    | none => rw [hv] at hsm; cases hsm
    | some w => rfl
  rw [mce_Q hA] at hcell
  rcases qty q hq82 hA with ht | ht
  · rw [ht] at hcell
    refine W.aald (v := va_rf ((rv q j.toNat).map ad)) (ty := .object RX1) hx hb hcell ((hWs.1.2 3 _ rfl).1 (shk q).2.2 (fun i => va_rf ((rv q i).map ad))) rfl (fun z => by cases z) (by show ¬ (Int32.ofInt j < 0 ∨ (arrV _ _ _).slots.size ≤ _); rw [arrV_size]; exact hin) (by show (arrV _ _ _).slots[_]? = _; rw [arrV_read _ _ hlt, i_cl hjo]) rfl rfl hdg ?_
    rw [e]; exact K
  · rw [ht] at hcell
    refine W.aald (v := va_rf ((rv q j.toNat).map ad)) (ty := .array .long) hx hb hcell ((hWs.1.2 4 _ rfl).1 (shk q).2.2 (fun i => va_rf ((rv q i).map ad))) rfl (fun z => by cases z) (by show ¬ (Int32.ofInt j < 0 ∨ (arrV _ _ _).slots.size ≤ _); rw [arrV_size]; exact hin) (by show (arrV _ _ _).slots[_]? = _; rw [arrV_read _ _ hlt, i_cl hjo]) rfl rfl hdg ?_
    rw [e]; exact K
theorem upd_st2 {q k : Nat} {x : Int} : upd (fun j => Int32.ofInt (iv q j)) k (Int32.ofInt x) = fun j => Int32.ofInt (st2 iv q k x q j) := by
  funext j
  unfold upd st2
  by_cases h : j = k
  · rw [if_pos h, if_pos ⟨rfl, h⟩]
  · rw [if_neg h, if_neg (fun e => h e.2)]
theorem updL_st2 {q k : Nat} {x : Int} : vp_updL (fun j => Int64.ofInt (iv q j)) k (Int64.ofInt x) = fun j => Int64.ofInt (st2 iv q k x q j) := by
  funext j
  unfold vp_updL st2
  by_cases h : j = k
  · rw [if_pos h, if_pos ⟨rfl, h⟩]
  · rw [if_neg h, if_neg (fun e => h e.2)]
theorem mRl.put2 {q k : Nat} {x : Int} (h : mRl D ad cy Ls xs s nL L st iv rv H locs ls) {H1 : Heap} {locs1 : List Loc} (hq : q < 82) (hP : va_P D vwCl ((mwl ad cy iv rv).set q (ad q, mce ad cy (st2 iv q k x) rv q)) H1) (hD : va_D (mA ad) ((mwl ad cy iv rv).set q (ad q, mce ad cy (st2 iv q k x) rv q))) (hS : va_S (mA ad) s.heap H1 locs1) (hx : (isLg q k = true → okJ x) ∧ (isLg q k = false → okI x)) : mRl D ad cy Ls xs s nL L st (st2 iv q k x) rv H1 locs1 ls :=
  h.put hq (fun y hy => mce_ne (fun j => st2_ne hy) (fun _ => rfl)) hP hD hS (okh_st2 h.2.2.2.2.2.1 hx) (fun j => st2_ne (by omega)) (st2_ne (by omega))
theorem s_ias {q : Nat} {j x : Int} (hx : p.tables.exec = Jvm.exec) (hb : c.code = cc) (hWs : mWs D ad cy b Ls xs s) (hA : isA q 0) (h0 : 0 ≤ j) (hj : j < sln q) (hdg : decode cc pc = .ok (.iastore, 1)) (hr : mRl D ad cy Ls xs s nL L (.inl x :: .inl j :: .inr (.inr (some q)) :: st) iv rv H locs ls)
    (kk : ∀ H' locs' ls', mRl D ad cy Ls xs s nL L st (st2 iv q j.toNat x) rv H' locs' ls' → W p l e R s m args below meth c H' locs' cells slots Qw (F0 m (pc + 1) ls' (st.map (mval ad)))) : W p l e R s m args below meth c H locs cells slots Qw (F0 m pc ls ((.inl x :: .inl j :: .inr (.inr (some q)) :: st).map (mval ad))) := by
  have hxo : okI x := hr.top
  have hjo : okI j := hr.pop.top
  have hq := sln_lt h0 hj
  refine va_iast hx hb hWs.1 hr.2.2.1 hr.2.2.2.1 hr.2.2.2.2.1 q 0 (by rw [mwl_get hq, mce_A hA (by decide)]) rfl (i_in hjo h0 hj) hdg (fun H1 locs1 hP hD hS => ?_)
  rw [i_cl hjo, upd_st2] at hP hD
  rw [← mce_A (rv := rv) (ad := ad) (cy := cy) hA (by decide)] at hP hD
  exact kk _ _ _ (hr.pop.pop.pop.put2 hq hP hD hS ⟨fun h => absurd ((isLg_A hA).symm.trans h) (by decide), fun _ => hxo⟩)
theorem s_las {q : Nat} {j x : Int} (hx : p.tables.exec = Jvm.exec) (hb : c.code = cc) (hWs : mWs D ad cy b Ls xs s) (hA : isA q 1) (h0 : 0 ≤ j) (hj : j < sln q) (hdg : decode cc pc = .ok (.lastore, 1)) (hr : mRl D ad cy Ls xs s nL L (.inr (.inl x) :: .inl j :: .inr (.inr (some q)) :: st) iv rv H locs ls)
    (kk : ∀ H' locs' ls', mRl D ad cy Ls xs s nL L st (st2 iv q j.toNat x) rv H' locs' ls' → W p l e R s m args below meth c H' locs' cells slots Qw (F0 m (pc + 1) ls' (st.map (mval ad)))) : W p l e R s m args below meth c H locs cells slots Qw (F0 m pc ls ((.inr (.inl x) :: .inl j :: .inr (.inr (some q)) :: st).map (mval ad))) := by
  have hxo : okJ x := hr.top
  have hjo : okI j := hr.pop.top
  have hq := sln_lt h0 hj
  refine va_last hx hb hWs.1 hr.2.2.1 hr.2.2.2.1 hr.2.2.2.2.1 q 1 (by rw [mwl_get hq, mce_J hA]) rfl (i_in hjo h0 hj) hdg (fun H1 locs1 hP hD hS => ?_)
  rw [i_cl hjo, updL_st2] at hP hD
  rw [← mce_J (rv := rv) (ad := ad) (cy := cy) hA] at hP hD
  exact kk _ _ _ (hr.pop.pop.pop.put2 hq hP hD hS ⟨fun _ => hxo, fun h => absurd ((isLg_A hA).symm.trans h) (by decide)⟩)
theorem s_zas {q : Nat} {j x : Int} (hx : p.tables.exec = Jvm.exec) (hb : c.code = cc) (hWs : mWs D ad cy b Ls xs s) (hA : isA q 2) (h0 : 0 ≤ j) (hj : j < sln q) (hz : x = 0 ∨ x = 1) (hdg : decode cc pc = .ok (.bastore, 1)) (hr : mRl D ad cy Ls xs s nL L (.inl x :: .inl j :: .inr (.inr (some q)) :: st) iv rv H locs ls)
    (kk : ∀ H' locs' ls', mRl D ad cy Ls xs s nL L st (st2 iv q j.toNat x) rv H' locs' ls' → W p l e R s m args below meth c H' locs' cells slots Qw (F0 m (pc + 1) ls' (st.map (mval ad)))) : W p l e R s m args below meth c H locs cells slots Qw (F0 m pc ls ((.inl x :: .inl j :: .inr (.inr (some q)) :: st).map (mval ad))) := by
  have hxo : okI x := hr.top
  have hjo : okI j := hr.pop.top
  have hq := sln_lt h0 hj
  refine va_zast hx hb hWs.1 hr.2.2.1 hr.2.2.2.1 hr.2.2.2.2.1 q 2 (by rw [mwl_get hq, mce_A hA (by decide)]) rfl (i_in hjo h0 hj) hdg (fun H1 locs1 hP hD hS => ?_)
  rw [i_cl hjo, (nz_bool hz).2.2, upd_st2] at hP hD
  rw [← mce_A (rv := rv) (ad := ad) (cy := cy) hA (by decide)] at hP hD
  exact kk _ _ _ (hr.pop.pop.pop.put2 hq hP hD hS ⟨fun h => absurd ((isLg_A hA).symm.trans h) (by decide), fun _ => hxo⟩)
end SNX
