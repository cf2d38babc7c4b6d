/-! constructors: rows that make arrays -/
theorem RA_uq {s : State} {c1 c2 : ClassId} {ty : FieldType} (h1 : va_RA s c1 ty) (h2 : va_RA s c2 ty) : c1 = c2 := by
  cases ty with
  | object C =>
    obtain ⟨_, _, _, _, _, e1⟩ := h1
    obtain ⟨_, _, _, _, _, e2⟩ := h2
    exact Option.some.inj (e1.symm.trans e2)
  | _ => exact Option.some.inj (h1.symm.trans h2)
theorem big_ac : Cond.arrayClass .int ∈ BIG ∧ Cond.arrayClass .long ∈ BIG ∧ Cond.arrayClass .boolean ∈ BIG := ⟨List.mem_filter.mpr ⟨List.mem_append_right _ (by decide +kernel), by decide +kernel⟩, List.mem_filter.mpr ⟨List.mem_append_right _ (by decide +kernel), by decide +kernel⟩, List.mem_filter.mpr ⟨List.mem_append_right _ (by decide +kernel), by decide +kernel⟩⟩
section CTR
variable {p : Program} {l : Launch} {e : Env} {R : Room} {s : State} {m : MethodId} {args : Array Value} {below : List Frame} {meth : Method} {c : Code} {H : Heap} {locs : List Loc} {cells slots : Nat} {Q : State → Prop}
variable {cc : ByteArray} {pc : Nat} {ls : Array Slot} {rest : List Value} {D : va_G} {A : Nat → Prop} {cy : Nat → ClassId} {ws tl : va_W}
theorem r_na (hx : p.tables.exec = Jvm.exec) (hb : c.code = cc) {atype : ArrayType} {ty : FieldType} (harr : (Cond.arrayClass ty).before args s = true) (hty : newarray.typeOf atype = ty) (hK : va_K D vwCl (mty cy) s) (hP : va_P D vwCl ws H) (hD : va_D A ws) (hS : va_S A s.heap H locs) (hA : ∀ q, s.heap.size ≤ q → A q) {t0 : Nat} (ht : (mty cy)[t0]? = some (cy t0, ty))
    {n : Int32} {N' : Nat} {a0 : vp_A} (ha : ∀ cA : ClassId, vp_cell cA a0 = arrV cA N' (fun _ => defaultValue ty)) (hn : ¬ n < 0) (hN : n.toNatClampNeg = N') (hbytes : N' * componentBytes ty ≤ 536870912) (hcells : cells + 1 ≤ R.cells) (hslots : slots + N' ≤ R.slots) (hdg : decode cc pc = .ok (.newarray atype, 2))
    (kk : ∀ (q : Nat) (H1 : Heap), va_P D vwCl (ws ++ [(q, .inl (cy t0, a0))]) H1 → va_D A (ws ++ [(q, .inl (cy t0, a0))]) → va_S A s.heap H1 locs →
      W p l e R s m args below meth c H1 locs (cells + 1) (slots + N') Q (F0 m (pc + 2) ls (.ref q :: rest))) : W p l e R s m args below meth c H locs cells slots Q (F0 m pc ls (.int n :: rest)) := by
  refine va_newa hx hb (by rw [hty]; exact harr) hty hK hP hD hS hA ha hn hN hbytes hcells hslots hdg (fun q cA H1 hK1 hP1 hD1 hS1 => ?_)
  have e1 := (hK.2 t0 _ ht).2
  have e2 := (hK1.2 (mty cy).length (cA, ty) (by rw [List.getElem?_append_right (Nat.le_refl _)]; simp)).2
  have := RA_uq e1 e2
  subst this
  exact kk q H1 hP1 hD1 hS1
/-- a reference into a final field of the object that stands first -/
theorem r_pf {ci k ix h0 q : Nat} {fs : List Value} (hx : p.tables.exec = Jvm.exec) (hb : c.code = cc) (hts : ∀ w ∈ BIG, w.before args s = true) (hown : s.vm.findClass (cnm ci) = some m.cls) (hin : meth.name = "<init>") (hf : lk2 FTb ci ix = some (ci, k)) (hcd : fCd ci k = 3) (hfin : fFn ci k = true) (hfl : k < fs.length) (hK : va_K D vwCl (mty cy) s) (hP : va_P D vwCl ((h0, .inr (ci, fs)) :: tl) H) (hD : va_D A ((h0, .inr (ci, fs)) :: tl)) (hS : va_S A s.heap H locs) (hdg : decode cc pc = .ok (.putfield ix, 3))
    (kk : ∀ (H1 : Heap) (locs1 : List Loc), va_P D vwCl ((h0, .inr (ci, fs.set k (.ref q))) :: tl) H1 → va_D A ((h0, .inr (ci, fs.set k (.ref q))) :: tl) → va_S A s.heap H1 locs1 → W p l e R s m args below meth c H1 locs1 cells slots Q (F0 m (pc + 3) ls rest)) : W p l e R s m args below meth c H locs cells slots Q (F0 m pc ls (.ref q :: .ref h0 :: rest)) := by
  obtain ⟨hc, hk, hw⟩ := FTb_ok _ (lk2_in hf)
  obtain ⟨g1, g2, g3, g4⟩ := fT_ok (k := 0) hc
  obtain ⟨f1, f2, f3, f4⟩ := fC_ok ci hc k hk
  have ht := ty_3 (fty_of hc hk hcd) q
  exact va_putF (D := D) (ci := ci) (v := .ref q) (ty := fTy ci k) (C := cnm ci) (T := fTk ci) (N := fNk ci) hx hb hts (lay_big hc) (fTy ci) g3 g4 hown hK hP hD hS 0 rfl g1 k hk (hts _ hw) (fun x hx => by rw [← f1]; exact hx) (by rw [f2]; exact hfin) hin f1 (g3 k hk) ht.1 ht.2 hfl hdg kk
/-- a value into another field of the object that stands first -/
theorem r_pn {ci k ix h0 : Nat} {fs : List Value} {v : Value} (hx : p.tables.exec = Jvm.exec) (hb : c.code = cc) (hts : ∀ w ∈ BIG, w.before args s = true) (hown : s.vm.findClass (cnm ci) = some m.cls) (hf : lk2 FTb ci ix = some (ci, k)) (hn : narrow (fTy ci k) v = v) (hfit : fits (fTy ci k) v = true) (hfin : fFn ci k = false) (hfl : k < fs.length) (hK : va_K D vwCl (mty cy) s) (hP : va_P D vwCl ((h0, .inr (ci, fs)) :: tl) H) (hD : va_D A ((h0, .inr (ci, fs)) :: tl)) (hS : va_S A s.heap H locs) (hdg : decode cc pc = .ok (.putfield ix, 3))
    (kk : ∀ (H1 : Heap) (locs1 : List Loc), va_P D vwCl ((h0, .inr (ci, fs.set k v)) :: tl) H1 → va_D A ((h0, .inr (ci, fs.set k v)) :: tl) → va_S A s.heap H1 locs1 → W p l e R s m args below meth c H1 locs1 cells slots Q (F0 m (pc + 3) ls rest)) : W p l e R s m args below meth c H locs cells slots Q (F0 m pc ls (v :: .ref h0 :: rest)) := by
  obtain ⟨hc, hk, hw⟩ := FTb_ok _ (lk2_in hf)
  obtain ⟨g1, g2, g3, g4⟩ := fT_ok (k := 0) hc
  obtain ⟨f1, f2, f3, f4⟩ := fC_ok ci hc k hk
  exact va_put (D := D) (ci := ci) (v := v) (ty := fTy ci k) (C := cnm ci) (T := fTk ci) (N := fNk ci) hx hb hts (lay_big hc) (fTy ci) g3 g4 hown hK hP hD hS 0 rfl g1 k hk (hts _ hw) (fun x hx => by rw [← f1]; exact hx) (by rw [f2]; exact hfin) (g3 k hk) hn hfit hfl hdg kk
theorem r_mna (hx : p.tables.exec = Jvm.exec) (hb : c.code = cc) {own : String} {index : Nat} (hown : s.vm.findClass own = some m.cls) (hclink : (Cond.classLink own index "[[J").before args s = true) (hover : va_AOA .long s) (harr : (Cond.arrayClass .long).before args s = true) (hK : va_K D vwCl (mty cy) s) (hP : va_P D vwCl ws H) (hD : va_D A ws) (hS : va_S A s.heap H locs) (hA : ∀ q, s.heap.size ≤ q → A q) (hcells : cells + 10 ≤ R.cells) (hslots : slots + 54 ≤ R.slots) (hdg : decode cc pc = .ok (.multianewarray index 2, 4))
    (kk : ∀ (q : Nat) (r : Nat → Nat) (H1 : Heap), va_P D vwCl (ws ++ ((q, .inl (cy 4, 9, .inr (.inr (.inr (.inr (fun i => if i < 9 then some (r i) else none)))))) :: (List.range 9).map (fun i => (r i, .inl (cy 1, 5, .inr (.inl (fun _ => 0))))))) H1 → va_D A (ws ++ ((q, .inl (cy 4, 9, .inr (.inr (.inr (.inr (fun i => if i < 9 then some (r i) else none)))))) :: (List.range 9).map (fun i => (r i, .inl (cy 1, 5, .inr (.inl (fun _ => 0))))))) → va_S A s.heap H1 locs →
      W p l e R s m args below meth c H1 locs (cells + 1 + 9) (slots + 9 + 9 * 5) Q (F0 m (pc + 4) ls (.ref q :: rest))) : W p l e R s m args below meth c H locs cells slots Q (F0 m pc ls (.int 5 :: .int 9 :: rest)) := by
  have hcy : s.vm.findClass (FieldType.array .long).toString = some (cy 1) := (hK.2 1 _ rfl).2
  refine va_mna (X := ws) (L := []) (f := fun _ => .inr (0, [])) (z := (5, .inr (.inl (fun _ => 0)))) (N' := 9) (K' := 5) hx hb hown hclink hover harr hcy hK (by simpa [va_pl] using hP) (by simpa [va_pl] using hD) hS hA (by decide) (by decide) (by decide) (by decide) (by decide) (by decide) (by decide) rfl rfl (by omega) (by omega) (fun c => rfl) hdg (fun q r cA H1 hinj _ hK1 hP1 hD1 hS1 => ?_)
  have e1 := (hK.2 4 _ rfl).2
  have e2 := (hK1.2 (mty cy).length (cA, .array .long) (by rw [List.getElem?_append_right (Nat.le_refl _)]; simp)).2
  have := RA_uq e1 e2
  subst this
  have el : va_pl ([] ++ (List.range 9).map r) (vr_up (fun _ => (.inr (0, []) : va_E)) ((List.range 9).map r) (.inl (cy 1, 5, .inr (.inl (fun _ => 0))))) = (List.range 9).map (fun i => (r i, .inl (cy 1, 5, .inr (.inl (fun _ => 0))))) := by
    unfold va_pl
    rw [List.nil_append, List.map_map]
    apply List.map_congr_left
    intro i hi
    show (r i, vr_up _ _ _ (r i)) = _
    rw [vr_up_in (List.mem_map.mpr ⟨i, hi, rfl⟩)]
  rw [el, List.append_assoc] at hP1 hD1
  exact kk q r H1 hP1 hD1 hS1
end CTR
