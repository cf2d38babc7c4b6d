section SNA
variable {p : Program} {l : Launch} {e : Env} {R : Room} {s : State} {m : MethodId} {args : Array Value} {below : List Frame} {meth : Method} {c : Code} {H : Heap} {locs : List Loc} {cells slots : Nat} {Qw : State → Prop}
variable {cc : ByteArray} {pc : Nat} {ls : Array Slot} {D : va_G} {ad : Nat → Nat} {cy : Nat → ClassId} {b Ls : Nat} {xs : Nat → Int32} {nL o : Nat} {L L' : mL} {st st' : List mV} {iv iv' : mIv} {rv rv' : mRv}
theorem mcat_eq (r : List mV) : ((r.map (mval ad)).map fun v => v.category).sum = mcat r := by
  induction r with
  | nil => rfl
  | cons v r ih =>
    rw [List.map_cons, List.map_cons, List.sum_cons, ih]
    rcases v with x | x | x
    · rfl
    · rfl
    · show (va_rf _).category + _ = 1 + _
      rw [cat_rf]
theorem shn : ∀ q, q < 82 → (shk q).2.2 < 100 := by decide +kernel
theorem sty : ∀ q, q < 82 → (shk q).1 = 0 → (shk q).2.1 = 0 ∨ (shk q).2.1 = 1 ∨ (shk q).2.1 = 2 := by decide +kernel
theorem s_len {q : Nat} (hx : p.tables.exec = Jvm.exec) (hb : c.code = cc) (hWs : mWs D ad cy b Ls xs s) (hA : (shk q).1 ≤ 1) (hq0 : q < 82 ∨ q = 1000000) (hdg : decode cc pc = .ok (.arraylength, 1)) (hr : mRl D ad cy Ls xs s nL L (.inr (.inr (some q)) :: st) iv rv H locs ls)
    (kk : ∀ H' locs' ls', mRl D ad cy Ls xs s nL L (.inl (mln iv q) :: st) iv rv H' locs' ls' → W p l e R s m args below meth c H' locs' cells slots Qw (F0 m (pc + 1) ls' ((.inl (mln iv q) :: st).map (mval ad)))) : W p l e R s m args below meth c H locs cells slots Qw (F0 m pc ls ((.inr (.inr (some q)) :: st).map (mval ad))) := by
  by_cases hq : q = 1000000
  · subst hq
    have el : mln iv 1000000 = (Ls : Int) := by unfold mln; rw [if_pos rfl]; exact hr.2.2.2.2.2.2.2
    have hL := hWs.2.2.2.2.2
    have K := kk H locs ls (hr.pop.push (by rw [el]; show okI _; unfold okI; omega))
    have ee : mval ad (.inr (.inr (some 1000000))) = .ref b := by show Value.ref (ad 1000000) = _; rw [hWs.2.2.2.2.1]
    show W p l e R s m args below meth c H locs cells slots Qw (F0 m pc ls (mval ad (.inr (.inr (some 1000000))) :: st.map (mval ad)))
    rw [ee]
    refine va_slen hx hb hWs.2.1 hWs.2.2.1 hWs.2.2.2.1 hr.2.2.2.2.1 hdg ?_
    have e2 : (Value.int (Int32.ofNat Ls)) = mval ad (.inl (mln iv 1000000)) := by rw [el]; rfl
    rw [e2]; exact K
  · have hq82 : q < 82 := by omega
    have el : mln iv q = ((shk q).2.2 : Nat) := by unfold mln; rw [if_neg hq]; rfl
    have hn := shn q hq82
    have K := kk H locs ls (hr.pop.push (by rw [el]; show okI _; unfold okI; omega))
    have e2 : (Value.int (Int32.ofNat (shk q).2.2)) = mval ad (.inl (mln iv q)) := by rw [el]; rfl
    rcases (show (shk q).1 = 0 ∨ (shk q).1 = 1 by omega) with h0 | h1
    · rcases sty q hq82 h0 with ht | ht | ht
      · refine va_alen hx hb hWs.1 hr.2.2.1 q 0 (by rw [mwl_get hq82, mce_A (t := 0) ⟨h0, ht⟩ (by decide)]) rfl rfl hdg ?_
        rw [e2]; exact K
      · refine va_alen hx hb hWs.1 hr.2.2.1 q 1 (by rw [mwl_get hq82, mce_J ⟨h0, ht⟩]) rfl rfl hdg ?_
        rw [e2]; exact K
      · refine va_alen hx hb hWs.1 hr.2.2.1 q 2 (by rw [mwl_get hq82, mce_A (t := 2) ⟨h0, ht⟩ (by decide)]) rfl rfl hdg ?_
        rw [e2]; exact K
    · rcases qty q hq82 h1 with ht | ht
      · refine va_alen hx hb hWs.1 hr.2.2.1 q 3 (by rw [mwl_get hq82, mce_Q h1, ht]) rfl rfl hdg ?_
        rw [e2]; exact K
      · refine va_alen hx hb hWs.1 hr.2.2.1 q 4 (by rw [mwl_get hq82, mce_Q h1, ht]) rfl rfl hdg ?_
        rw [e2]; exact K
theorem cpy_ok {r q : Nat} {a d n : Int} (h : okh iv) (hp : (shk r).1 = 0) (hq : (shk q).1 = 0) (ht : (shk r).2.1 = (shk q).2.1) : okh (cpyv iv r q a d n) := by
  intro y j
  unfold cpyv
  by_cases hc : y = q ∧ d ≤ (j : Int) ∧ (j : Int) < d + n
  · rw [if_pos hc, hc.1]
    have e1 : isLg q j = Nat.beq (shk q).2.1 1 := isLg_A ⟨hq, rfl⟩
    have e2 := h r (a.toNat + (j - d.toNat))
    have e3 : isLg r (a.toNat + (j - d.toNat)) = Nat.beq (shk r).2.1 1 := isLg_A ⟨hp, rfl⟩
    rw [e3, ht] at e2
    rw [e1]; exact e2
  · rw [if_neg hc]; exact h y j
theorem s_cpy {r q ix : Nat} {a d n : Int} (hx : p.tables.exec = Jvm.exec) (hb : c.code = cc) (hml : c.maxLocals = nL) (hown : s.vm.findClass (cnm o) = some m.cls) (hts : ∀ w ∈ BIG, w.before args s = true) (hWs : mWs D ad cy b Ls xs s) (hF : 1 ≤ R.frames) (hL : 60 ≤ R.locals) (hy : lk3 YTb o ix = true) (hcat : mcat st ≤ 8) (hp : (shk r).1 = 0) (hq : (shk q).1 = 0) (ht : (shk r).2.1 = (shk q).2.1) (ht2 : (shk r).2.1 < 2) (h1 : 0 ≤ a) (h2 : 0 ≤ d) (h3 : 0 ≤ n) (h4 : a + n ≤ sln r) (h5 : d + n ≤ sln q) (hr82 : r < 82) (hq82 : q < 82) (hdg : decode cc pc = .ok (.invokestatic ix, 3)) (hr : mRl D ad cy Ls xs s nL L (.inl n :: .inl d :: .inr (.inr (some q)) :: .inl a :: .inr (.inr (some r)) :: st) iv rv H locs ls)
    (kk : ∀ H' locs' ls', mRl D ad cy Ls xs s nL L st (cpyv iv r q a d n) rv H' locs' ls' → W p l e R s m args below meth c H' locs' cells slots Qw (F0 m (pc + 3) ls' (st.map (mval ad)))) : W p l e R s m args below meth c H locs cells slots Qw (F0 m pc ls ((.inl n :: .inl d :: .inr (.inr (some q)) :: .inl a :: .inr (.inr (some r)) :: st).map (mval ad))) := by
  have no : okI n := hr.top
  have do_ : okI d := hr.pop.top
  have ao : okI a := hr.pop.pop.pop.top
  obtain ⟨y1, y2, y3, y4⟩ := YTb_ok _ (lk3_in hy)
  have hmlz : c.maxLocals = ls.size := by rw [hml]; exact hr.1.2.1.1.symm
  have hh := hr.pop.pop.pop.pop.pop
  have hn1 : ¬ Int32.ofInt a < 0 := fun z => by have := (i_lt ao okI_0).mp z; omega
  have hn2 : ¬ Int32.ofInt d < 0 := fun z => by have := (i_lt do_ okI_0).mp z; omega
  have hn3 : ¬ Int32.ofInt n < 0 := fun z => by have := (i_lt no okI_0).mp z; omega
  have hlo : ((st.map (mval ad)).map fun v => v.category).sum + (nativeFrameWords "java/lang/System" "arraycopy" 5 + 11) ≤ R.locals := by
    rw [mcat_eq]
    have : nativeFrameWords "java/lang/System" "arraycopy" 5 = 7 := by decide +kernel
    omega
  have hput : ∀ H1 locs1, va_P D vwCl ((mwl ad cy iv rv).set q (ad q, mce ad cy (cpyv iv r q a d n) rv q)) H1 → va_D (mA ad) ((mwl ad cy iv rv).set q (ad q, mce ad cy (cpyv iv r q a d n) rv q)) → va_S (mA ad) s.heap H1 locs1 → mRl D ad cy Ls xs s nL L st (cpyv iv r q a d n) rv H1 locs1 ls := fun H1 locs1 hP hD hS =>
    hh.put hq82 (fun y hy => mce_ne (fun j => by unfold cpyv; rw [if_neg (fun z => hy z.1)]) (fun _ => rfl)) hP hD hS (cpy_ok hr.2.2.2.2.2.1 hp hq ht) (fun j => by unfold cpyv; rw [if_neg (fun z => by have := z.1; omega)]) (by unfold cpyv; rw [if_neg (fun z => by have := z.1; omega)])
  unfold sln at h4 h5
  rcases (show (shk r).2.1 = 0 ∨ (shk r).2.1 = 1 by omega) with t0 | t1
  · have ar : isA r 0 := ⟨hp, t0⟩
    have aq : isA q 0 := ⟨hq, by rw [← ht]; exact t0⟩
    refine va_copyi hx hb hmlz hown (hts _ y1) (hts _ y2) (hts _ y3) (hts _ y4) hWs.1 hr.2.2.1 hr.2.2.2.1 hr.2.2.2.2.1 r q 0 0 (by rw [mwl_get hr82, mce_A ar (by decide)]) (by rw [mwl_get hq82, mce_A aq (by decide)]) rfl rfl rfl hn1 hn2 hn3 (by rw [i_cl ao, i_cl no]; omega) (by rw [i_cl do_, i_cl no]; omega) (fun _ _ => rfl) hF hlo hdg (fun H1 locs1 hP hD hS => ?_)
    have ef : va_cpy (fun j => Int32.ofInt (iv r j)) (fun j => Int32.ofInt (iv q j)) (Int32.ofInt a).toNatClampNeg (Int32.ofInt d).toNatClampNeg (Int32.ofInt n).toNatClampNeg = fun j => Int32.ofInt (cpyv iv r q a d n q j) := by
      funext j
      unfold va_cpy cpyv
      rw [i_cl ao, i_cl do_, i_cl no]
      by_cases hc : d.toNat ≤ j ∧ j < d.toNat + n.toNat
      · rw [if_pos hc, if_pos ⟨rfl, by omega, by omega⟩]
      · rw [if_neg hc, if_neg (fun z => hc (by omega))]
    rw [ef, ← mce_A (rv := rv) (ad := ad) (cy := cy) aq (by decide)] at hP hD
    exact kk _ _ _ (hput _ _ hP hD hS)
  · have ar : isA r 1 := ⟨hp, t1⟩
    have aq : isA q 1 := ⟨hq, by rw [← ht]; exact t1⟩
    refine va_copyl hx hb hmlz hown (hts _ y1) (hts _ y2) (hts _ y3) (hts _ y4) hWs.1 hr.2.2.1 hr.2.2.2.1 hr.2.2.2.2.1 r q 1 1 (by rw [mwl_get hr82, mce_J ar]) (by rw [mwl_get hq82, mce_J aq]) rfl rfl rfl hn1 hn2 hn3 (by rw [i_cl ao, i_cl no]; omega) (by rw [i_cl do_, i_cl no]; omega) (fun _ _ => rfl) hF hlo hdg (fun H1 locs1 hP hD hS => ?_)
    have ef : va_cpy (fun j => Int64.ofInt (iv r j)) (fun j => Int64.ofInt (iv q j)) (Int32.ofInt a).toNatClampNeg (Int32.ofInt d).toNatClampNeg (Int32.ofInt n).toNatClampNeg = fun j => Int64.ofInt (cpyv iv r q a d n q j) := by
      funext j
      unfold va_cpy cpyv
      rw [i_cl ao, i_cl do_, i_cl no]
      by_cases hc : d.toNat ≤ j ∧ j < d.toNat + n.toNat
      · rw [if_pos hc, if_pos ⟨rfl, by omega, by omega⟩]
      · rw [if_neg hc, if_neg (fun z => hc (by omega))]
    rw [ef, ← mce_J (rv := rv) (ad := ad) (cy := cy) aq] at hP hD
    exact kk _ _ _ (hput _ _ hP hD hS)
end SNA
