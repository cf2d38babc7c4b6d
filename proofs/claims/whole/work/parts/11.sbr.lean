section SBR
variable {p : Program} {l : Launch} {e : Env} {R : Room} {s : State} {m : MethodId} {args : Array Value} {below : List Frame} {meth : Method} {c : Code} {H : Heap} {locs : List Loc} {cells slots : Nat} {Qw : State → Prop}
variable {cc : ByteArray} {pc : Nat} {ls : Array Slot} {D : va_G} {ad : Nat → Nat} {cy : Nat → ClassId} {b Ls : Nat} {xs : Nat → Int32} {nL o : Nat} {L L' : mL} {st st' : List mV} {iv iv' : mIv} {rv rv' : mRv}
theorem mtg_eq {pc t : Nat} {off : Int} (h : mtg pc off = some t) : (pc : Int) + off = (t : Int) := by
  unfold mtg at h
  split at h
  · cases h
  · cases h; omega
theorem mtb_get {pc : Nat} {x : Int} : ∀ {offs : List Int} {k : Int} {bs : List (Prop × Nat)}, mtb pc x k offs = some bs → ∀ {P : Nat → Prop}, mball bs P → ∀ j : Nat, x = k + j → ∀ {off : Int}, offs[j]? = some off → ∃ t : Nat, (pc : Int) + off = (t : Int) ∧ P t := by
  intro offs
  induction offs with
  | nil => intro k bs h P hb j hx off ho; cases ho
  | cons a r ih =>
    intro k bs h P hb j hx off ho
    unfold mtb at h
    split at h
    · rename_i t bs2 ht hbs
      cases h
      cases j with
      | zero =>
        cases ho
        exact ⟨t, mtg_eq ht, hb.1 (by simpa using hx)⟩
      | succ j => exact ih hbs hb.2 j (by rw [hx]; omega) ho
    · cases h
theorem s_br {i : Instr} {n : Nat} {F Lc : Nat} {bs : List (Prop × Nat)} (hx : p.tables.exec = Jvm.exec) (hb : c.code = cc) (hdg : decode cc pc = .ok (i, n)) (hok : okIn o F Lc i n = true) (hs : mbr i n pc st = some (bs, st')) (hr : mRl D ad cy Ls xs s nL L st iv rv H locs ls)
    {G : Nat → Prop} (hG : mball bs G) (kk : ∀ t, G t → mRl D ad cy Ls xs s nL L st' iv rv H locs ls → W p l e R s m args below meth c H locs cells slots Qw (F0 m t ls (st'.map (mval ad)))) : W p l e R s m args below meth c H locs cells slots Qw (F0 m pc ls (st.map (mval ad))) := by
  unfold mbr at hs
  split at hs
  · rename_i cd off
    split at hs
    · rename_i x r
      split at hs
      · rename_i t ht
        cases hs
        cases bq hok
        have hxo : okI x := hr.top
        have htg := mtg_eq ht
        have K1 : mcd cd x 0 → _ := fun h => kk t (hG.1 h) hr.pop
        have K2 : ¬ mcd cd x 0 → _ := fun h => kk (pc + 3) (hG.2.1 h) hr.pop
        cases cd with
        | eq => exact lv_if_eq hx hb hdg htg (fun h => K1 ((i_eq hxo okI_0).mp h)) (fun h => K2 (fun z => h ((i_eq hxo okI_0).mpr z)))
        | ne => exact lv_if_ne hx hb hdg htg (fun h => K1 (fun z => h ((i_eq hxo okI_0).mpr z))) (fun h => K2 (fun z => z ((i_eq hxo okI_0).mp h)))
        | lt => exact lv_if_lt hx hb hdg htg (fun h => K1 ((i_lt hxo okI_0).mp h)) (fun h => K2 (fun z => h ((i_lt hxo okI_0).mpr z)))
        | ge => exact lv_if_ge hx hb hdg htg (fun h => K1 ((i_le okI_0 hxo).mp h)) (fun h => K2 (fun z => h ((i_le okI_0 hxo).mpr z)))
        | gt => exact lv_if_gt hx hb hdg htg (fun h => K1 ((i_lt okI_0 hxo).mp h)) (fun h => K2 (fun z => h ((i_lt okI_0 hxo).mpr z)))
        | le => exact lv_if_le hx hb hdg htg (fun h => K1 ((i_le hxo okI_0).mp h)) (fun h => K2 (fun z => h ((i_le hxo okI_0).mpr z)))
      · cases hs
    · cases hs
  · rename_i cd off
    split at hs
    · rename_i y x r
      split at hs
      · rename_i t ht
        cases hs
        cases bq hok
        have hyo : okI y := hr.top
        have hxo : okI x := hr.pop.top
        have htg := mtg_eq ht
        have K1 : mcd cd x y → _ := fun h => kk t (hG.1 h) hr.pop.pop
        have K2 : ¬ mcd cd x y → _ := fun h => kk (pc + 3) (hG.2.1 h) hr.pop.pop
        cases cd with
        | eq => exact lv_icmp_eq hx hb hdg htg (fun h => K1 ((i_eq hxo hyo).mp h)) (fun h => K2 (fun z => h ((i_eq hxo hyo).mpr z)))
        | ne => exact lv_icmp_ne hx hb hdg htg (fun h => K1 (fun z => h ((i_eq hxo hyo).mpr z))) (fun h => K2 (fun z => z ((i_eq hxo hyo).mp h)))
        | lt => exact lv_icmp_lt hx hb hdg htg (fun h => K1 ((i_lt hxo hyo).mp h)) (fun h => K2 (fun z => h ((i_lt hxo hyo).mpr z)))
        | ge => exact lv_icmp_ge hx hb hdg htg (fun h => K1 ((i_le hyo hxo).mp h)) (fun h => K2 (fun z => h ((i_le hyo hxo).mpr z)))
        | gt => exact lv_icmp_gt hx hb hdg htg (fun h => K1 ((i_lt hyo hxo).mp h)) (fun h => K2 (fun z => h ((i_lt hyo hxo).mpr z)))
        | le => exact lv_icmp_le hx hb hdg htg (fun h => K1 ((i_le hxo hyo).mp h)) (fun h => K2 (fun z => h ((i_le hxo hyo).mpr z)))
      · cases hs
    · cases hs
  · rename_i d lo hi offs
    split at hs
    · rename_i x r
      split at hs
      · rename_i t bs2 ht hbs
        split at hs
        · rename_i hhi _
          cases hs
          have hxo : okI x := hr.top
          by_cases hout : x < lo ∨ hi < x
          · exact lv_tableOut hx hb hdg (by rw [tI hxo]; exact hout) (mtg_eq ht) (kk t (hG.1 hout) hr.pop)
          · have h1 : ¬ x < lo := fun z => hout (Or.inl z)
            have h2 : ¬ hi < x := fun z => hout (Or.inr z)
            have hj : (x - lo).toNat < offs.toList.length := by omega
            obtain ⟨tg, e1, e2⟩ := mtb_get hbs hG.2 (x - lo).toNat (by omega) (List.getElem?_eq_getElem hj)
            refine lv_tableIn hx hb hdg (by rw [tI hxo]; exact h1) (by rw [tI hxo]; exact h2) (off := offs.toList[(x - lo).toNat]) ?_ e1 (kk tg e2 hr.pop)
            rw [tI hxo, ← Array.getElem?_toList]
            exact List.getElem?_eq_getElem hj
        · cases hs
      · cases hs
    · cases hs
  · cases hs
end SBR
