abbrev x3W (cy : Nat → ClassId) (h0 : Nat) (a : Nat → Nat) : va_W := [(h0, .inr (3, [.int 0, .ref (a 0), .ref (a 1), .ref (a 2), .ref (a 3), .ref (a 4), .ref (a 5), .ref (a 6), .ref (a 7), .ref (a 8), .int 0, .int 0, .ref (a 9), .ref (a 10), .long 0, .ref (a 11), .long 0, .ref (a 12), .ref (a 13), .int 0, .ref (a 14)])), (a 0, .inl (cy 0, 5, .inl (fun _ => 0))), (a 1, .inl (cy 0, 5, .inl (fun _ => 0))), (a 2, .inl (cy 2, 9, .inl (fun _ => 0))), (a 3, .inl (cy 0, 9, .inl (fun _ => 0))), (a 4, .inl (cy 0, 9, .inl (fun _ => 0))), (a 5, .inl (cy 0, 9, .inl (fun _ => 0))), (a 6, .inl (cy 0, 9, .inl (fun _ => 0))), (a 7, .inl (cy 2, 9, .inl (fun _ => 0))), (a 8, .inl (cy 0, 45, .inl (fun _ => 0))), (a 9, .inl (cy 1, 30, .inr (.inl (fun _ => 0)))), (a 10, .inl (cy 1, 5, .inr (.inl (fun _ => 0)))), (a 11, .inl (cy 1, 5, .inr (.inl (fun _ => 0)))), (a 12, .inl (cy 1, 8, .inr (.inl (fun _ => 0)))), (a 13, .inl (cy 1, 8, .inr (.inl (fun _ => 0)))), (a 14, .inl (cy 0, 5, .inl (fun _ => 0)))]
def adF (b h0 h1 : Nat) (a2 a3 : Nat → Nat) : Nat → Nat := fun p => match Nat.beq p 1000000, Nat.beq p 0, Nat.blt p 66, Nat.beq p 66 with
  | true, _, _, _ => b
  | _, true, _, _ => h0
  | _, _, true, _ => a2 (p - 1)
  | _, _, _, true => h1
  | _, _, _, _ => a3 (p - 67)
theorem blind_k2 {av : List Value} {D : va_G} {cy : Nat → ClassId} {sz : Nat} {ws : va_W} : FrameBlind (va_Pc av (fun U => U.heap.size = sz ∧ va_P D vwCl ws U.heap ∧ va_K D vwCl (mty cy) U ∧ va_D (fun _ => True) ws ∧ va_AO RX1 U ∧ va_AOA .long U ∧ va_Nw (.methodLinkNest RX2 29 yX1_init "PullAndPush") U ∧ va_Nw (.methodLinkNest RX2 32 yX0_init "PullAndPush") U)) := by
  intro a U g mk q
  obtain ⟨q0, q1, qP, qK, qD, q2, q3, q4, q5⟩ := q
  exact ⟨q0, q1, qP, va_K.moved (u := U) (U := U.calling g mk a) (Vm.Alike.refl U.vm) qK, qD, va_AO.moved (u := U) (U := U.calling g mk a) (Vm.Alike.refl U.vm) q2, over_moved (a := #[]) (u := U) (E := U.calling g mk a) (Vm.Alike.refl U.vm) q3, va_Nw.same rfl rfl q4, va_Nw.same rfl rfl q5⟩
theorem kLx : Cond.classLink RL 7 RX2 ∈ BIG ∧ Cond.classLink RL 10 RX3 ∈ BIG ∧ Cond.methodLink RL 9 yX2_init ∈ BIG ∧ Cond.methodLink RL 12 yX3_init ∈ BIG := ⟨bg 9 (by decide +kernel) (by decide +kernel), bg 417 (by decide +kernel) (by decide +kernel), bg 11 (by decide +kernel) (by decide +kernel), bg 419 (by decide +kernel) (by decide +kernel)⟩
theorem kAO : Cond.arrayOver (.object RX1) ∈ lw_tbl ∧ Cond.arrayOver (.array .long) ∈ lw_tbl ∧ Cond.methodLinkNest RX2 29 yX1_init "PullAndPush" ∈ lw_tbl ∧ Cond.methodLinkNest RX2 32 yX0_init "PullAndPush" ∈ lw_tbl := ⟨List.mem_append_right _ (List.mem_of_getElem? (i := 18) (by decide +kernel)), List.mem_append_right _ (List.mem_of_getElem? (i := 66) (by decide +kernel)), List.mem_append_right _ (List.mem_of_getElem? (i := 20) (by decide +kernel)), List.mem_append_right _ (List.mem_of_getElem? (i := 61) (by decide +kernel))⟩
theorem tys_of {s : State} {args : Array Value} (h1 : (Cond.arrayClass .int).before args s = true) (h2 : (Cond.arrayClass .long).before args s = true) (h3 : (Cond.arrayClass .boolean).before args s = true) (h4 : (Cond.arrayOver (.object RX1)).before args s = true) (h5 : (Cond.arrayOver (.array .long)).before args s = true) : ∃ cy : Nat → ClassId, ∀ (k : Nat) (q : ClassId × FieldType), (mty cy)[k]? = some q → ArrOfT s q.1 q.2 ∧ va_RA s q.1 q.2 := by
  obtain ⟨c0, a0, r0⟩ := cls_of rfl h1
  obtain ⟨c1, a1, r1⟩ := cls_of rfl h2
  obtain ⟨c2, a2, r2⟩ := cls_of rfl h3
  obtain ⟨comp3, c3, k3, x1, x2, x3, x4, x5⟩ := Cond.arrayOver_spec h4
  obtain ⟨comp4, c4, k4, y1, y2, y3, y4, y5⟩ := arrayOverA_spec h5
  refine ⟨fun t => ([c0, c1, c2, c3, c4] : List Nat).getD t 0, fun k q hq => ?_⟩
  match k, hq with
  | 0, hq => cases hq; exact ⟨a0, r0⟩
  | 1, hq => cases hq; exact ⟨a1, r1⟩
  | 2, hq => cases hq; exact ⟨a2, r2⟩
  | 3, hq => cases hq; exact ⟨fun n z => ⟨fun k h => (by cases h), k3, x3, comp3, x4⟩, ⟨k3, comp3, x3, x4, x1, x5⟩⟩
  | 4, hq => cases hq; exact ⟨fun n z => ⟨fun k h => (by cases h), k4, y3, comp4, y4⟩, y5⟩
  | k + 5, hq => simp [mty] at hq
set_option maxHeartbeats 8000000 in
set_option maxRecDepth 100000 in
theorem whole_go (hpure : ∀ (Ls : Nat) (xs : Nat → Int32), Ls ≤ 3584 → Ex 104 18 [some (.inr (.inr (some 1000000))), some (.inr (.inr (some 0))), some (.inr (.inr (some 66))), some (.inl 0)] [] (iv0 Ls xs) (RV 24 45) (fun v _ _ => v = some (.inl 1))) {p : Program} {e : Env} {s : State} {m : MethodId} {below : List Frame} {meth : Method} {c : Code} (l : Launch) {b L : Nat} {xs : Nat → Int32} (hL : L ≤ 3584) (C0 : lw_At p s m meth c b L xs) : W p l e room_1 s m #[Value.ref b] below meth c s.heap [] 0 0 (lw_Z below #[Value.ref b] s) (entryFrame m ([Value.ref b] : List Value).toArray 4) := by
  obtain ⟨hx, hb, hr, hml, hown, htsL, hX, hbl, hlocks, hgv⟩ := id C0
  have hown : s.vm.findClass RL = some m.cls := hown
  have hts : ∀ w ∈ BIG, w.before #[Value.ref b] s = true := fun w hw => htsL w (List.mem_filter.mp hw).1
  have hA : ∀ q : Nat, s.heap.size ≤ q → (fun q : Nat => s.heap.size ≤ q) q := fun _ h => h
  obtain ⟨c0, iS0, hKn0⟩ := u_known (C := RX0) (T := TX0) (N := 16) (n := 16) hts (lay_big (ci := 0) (by decide)) (hts _ kB0)
  obtain ⟨c1, iS1, hKn1⟩ := u_known (C := RX1) (T := TX1) (N := 7) (n := 7) hts (lay_big (ci := 1) (by decide)) (hts _ kB1)
  obtain ⟨c2, iS2, hKn2⟩ := u_known (C := RX2) (T := TX2) (N := 10) (n := 10) hts (lay_big (ci := 2) (by decide)) (hts _ kB2)
  obtain ⟨c3, iS3, hKn3⟩ := u_known (C := RX3) (T := TX3) (N := 21) (n := 21) hts (lay_big (ci := 3) (by decide)) (hts _ kB3)
  obtain ⟨D, hKc⟩ : ∃ D : va_G, ∀ (k : Nat) (q : vw_C), vwCl[k]? = some q → u_Kn s q.1 q.2.1 q.2.2 (D.1 k) (D.2 k) := by
    refine ⟨(fun k => if k = 0 then c0 else if k = 1 then c1 else if k = 2 then c2 else c3, fun k => if k = 0 then iS0 else if k = 1 then iS1 else if k = 2 then iS2 else iS3), ?_⟩
    intro k q hq
    match k, hq with
    | 0, hq => cases hq; exact hKn0
    | 1, hq => cases hq; exact hKn1
    | 2, hq => cases hq; exact hKn2
    | 3, hq => cases hq; exact hKn3
    | k + 4, hq => simp [vwCl] at hq
  obtain ⟨cy, hcy⟩ := tys_of (hts _ big_ac.1) (hts _ big_ac.2.1) (hts _ big_ac.2.2) (htsL _ kAO.1) (htsL _ kAO.2.1)
  have hAO : va_AO RX1 s := va_AO.of (htsL _ kAO.1)
  have hAOA : va_AOA .long s := htsL _ kAO.2.1
  have hN1 : va_Nw (.methodLinkNest RX2 29 yX1_init "PullAndPush") s := va_Nw.of rfl (htsL _ kAO.2.2.1)
  have hN0 : va_Nw (.methodLinkNest RX2 32 yX0_init "PullAndPush") s := va_Nw.of rfl (htsL _ kAO.2.2.2)
  have hS : va_S (fun q : Nat => s.heap.size ≤ q) s.heap s.heap [] := va_S.rf
  have hK : va_K D vwCl (mty cy) s := ⟨hKc, hcy⟩
  have hP : va_P D vwCl [] s.heap := fun k q h => by simp at h
  have hD : va_D (fun q : Nat => s.heap.size ≤ q) [] := ⟨fun i j p q h => by simp at h, fun k q h => by simp at h⟩
  have hl := lv_entry ([.ref b]) (n := 4) (Nat.le_of_ble_eq_true rfl)
  rw [lg_entry_eq]
  generalize (lg_sl ([.ref b]) ++ List.replicate (4 - (lg_sl ([.ref b])).length) Slot.unset).toArray = ls at hl ⊢
  have hl : lv_has ls 4 [(0, .ref b)] := hl
  refine va_new (ci := 2) (fs := [.null, .null, .null, .null, .null, .int 0, .int 0, .null, .null, .int 0]) (C := RX2) (T := TX2) (N := 10) hx hb hts (lay_big (ci := 2) (by decide)) tyX2 tyX2_ok hown (hts _ kLx.1) (hts _ kB2) (hts _ kN2) hK hP hD hS hA rfl (fun j hj => by rcases (show j = 0 ∨ j = 1 ∨ j = 2 ∨ j = 3 ∨ j = 4 ∨ j = 5 ∨ j = 6 ∨ j = 7 ∨ j = 8 ∨ j = 9 by omega) with rfl | rfl | rfl | rfl | rfl | rfl | rfl | rfl | rfl | rfl <;> rfl) (Nat.le_of_ble_eq_true rfl) (Nat.le_of_ble_eq_true rfl) dL_law_0 (fun h0 H hP hD hS => ?_)
  have hP : va_P D vwCl [(h0, .inr (2, [.null, .null, .null, .null, .null, .int 0, .int 0, .null, .null, .int 0]))] H := hP
  have hD : va_D (fun q : Nat => s.heap.size ≤ q) [(h0, .inr (2, [.null, .null, .null, .null, .null, .int 0, .int 0, .null, .null, .int 0]))] := hD
  refine lv_dup hx hb dL_law_3 rfl ?_
  have hFc := va_free (wc := [(h0, .inr (2, [.null, .null, .null, .null, .null, .int 0, .int 0, .null, .null, .int 0]))]) hD hS hA [0] rfl
  refine va_callv (va_runI (As := []) (rest := [.ref h0]) ⟨hx, hb, hml, hown, hts⟩ (k2 l D cy h0 H.size) (cwI 0 hts kG2 rfl rfl rfl (hts _ kN2) (hts _ kLx.2.2.1) (hts _ kI2) rfl (by decide +kernel) ⟨Nat.le_of_ble_eq_true rfl, Nat.le_of_ble_eq_true rfl⟩) ⟨blind_k2, fun U hU hW => ⟨rfl, by rw [hU], by rw [hU]; exact hP, va_K.moved hW.alike hK, hD.weaken (fun _ _ _ _ => trivial), hAO.moved hW.alike, over_moved (a := #[]) hW.alike hAOA, va_Nw.warmM hW hN1, va_Nw.warmM hW hN0⟩⟩ rfl rfl hl.1 rfl (lv_room (Nat.le_of_ble_eq_true rfl)) dL_law_4 ⟨Nat.le_of_ble_eq_true rfl, Nat.le_of_ble_eq_true rfl⟩) hS (fun q _ h => hFc q h) hFc (fun a2 t H1 locs ht hvm hw hB hz1 hk1 hS => ?_)
  obtain ⟨f5, f30, f51, hfs, hP1, hD1⟩ := hB
  rw [ht] at hP1
  have hP : va_P D vwCl (x2W cy h0 a2 f5 f30 f51) H1 := hP1
  have hD : va_D (fun q : Nat => s.heap.size ≤ q) (x2W cy h0 a2 f5 f30 f51) := hD1.weaken (fun _ _ _ h => hFc _ h)
  generalize H1 = H at hP hS ⊢
  refine lv_astore_n (lv' := [(1, .ref h0), (0, .ref b)]) hx hb dL_law_7 rfl hl (by decide) rfl (fun ls hl => ?_)
  refine va_new (ci := 3) (fs := [.int 0, .null, .null, .null, .null, .null, .null, .null, .null, .null, .int 0, .int 0, .null, .null, .long 0, .null, .long 0, .null, .null, .int 0, .null]) (C := RX3) (T := TX3) (N := 21) hx hb hts (lay_big (ci := 3) (by decide)) tyX3 tyX3_ok hown (hts _ kLx.2.1) (hts _ kB3) (hts _ kN3) hK hP hD hS hA rfl (fun j hj => by rcases (show j = 0 ∨ j = 1 ∨ j = 2 ∨ j = 3 ∨ j = 4 ∨ j = 5 ∨ j = 6 ∨ j = 7 ∨ j = 8 ∨ j = 9 ∨ j = 10 ∨ j = 11 ∨ j = 12 ∨ j = 13 ∨ j = 14 ∨ j = 15 ∨ j = 16 ∨ j = 17 ∨ j = 18 ∨ j = 19 ∨ j = 20 by omega) with rfl | rfl | rfl | rfl | rfl | rfl | rfl | rfl | rfl | rfl | rfl | rfl | rfl | rfl | rfl | rfl | rfl | rfl | rfl | rfl | rfl <;> rfl) (Nat.le_of_ble_eq_true rfl) (Nat.le_of_ble_eq_true rfl) dL_law_8 (fun h1 H hP hD hS => ?_)
  refine lv_dup hx hb dL_law_11 rfl ?_
  have hPc := hP.sub (ws' := [(h1, .inr (3, [.int 0, .null, .null, .null, .null, .null, .null, .null, .null, .null, .int 0, .int 0, .null, .null, .long 0, .null, .long 0, .null, .null, .int 0, .null]))]) [66] rfl
  have hDc := hD.sub (ws' := [(h1, .inr (3, [.int 0, .null, .null, .null, .null, .null, .null, .null, .null, .null, .int 0, .int 0, .null, .null, .long 0, .null, .long 0, .null, .null, .int 0, .null]))]) [66] (by decide) rfl
  have hFc := va_free (wc := [(h1, .inr (3, [.int 0, .null, .null, .null, .null, .null, .null, .null, .null, .null, .int 0, .int 0, .null, .null, .long 0, .null, .long 0, .null, .null, .int 0, .null]))]) hD hS hA [66] rfl
  refine va_callv (va_runI (As := []) (rest := [.ref h1]) ⟨hx, hb, hml, hown, hts⟩ (k3 l D cy h1 H.size) (cwI 0 hts kG3 rfl rfl rfl (hts _ kN3) (hts _ kLx.2.2.2) (hts _ kI3) rfl (by decide +kernel) ⟨Nat.le_of_ble_eq_true rfl, Nat.le_of_ble_eq_true rfl⟩) ⟨blind_k, fun U hU hW => ⟨rfl, by rw [hU], by rw [hU]; exact hPc, va_K.moved hW.alike hK, hDc.weaken (fun _ _ _ _ => trivial), hAO.moved hW.alike, over_moved (a := #[]) hW.alike hAOA⟩⟩ rfl rfl hl.1 rfl (lv_room (Nat.le_of_ble_eq_true rfl)) dL_law_12 ⟨Nat.le_of_ble_eq_true rfl, Nat.le_of_ble_eq_true rfl⟩) hS (fun q _ h => hFc q h) hFc (fun a3 t H1 locs ht hvm hw hB hz1 hk1 hS => ?_)
  obtain ⟨hP1, hD1⟩ := hB
  rw [ht] at hP1
  obtain ⟨hP, hD⟩ := va_join (wr := x2W cy h0 a2 f5 f30 f51) (w1 := x3W cy h1 a3) hP hD [66] (List.range 66) rfl rfl (by decide) (by decide) hk1 hFc hP1 hD1
  generalize H1 = H at hP hS ⊢
  refine lv_astore_n (lv' := [(2, .ref h1), (1, .ref h0), (0, .ref b)]) hx hb dL_law_15 rfl hl (by decide) rfl (fun ls hl => ?_)
  refine lv_iconst (v := 0) hx hb dL_law_16 (by decide) ?_
  refine lv_istore_n (lv' := [(3, .int 0), (2, .ref h1), (1, .ref h0), (0, .ref b)]) hx hb dL_law_17 rfl hl (by decide) rfl (fun ls hl => ?_)
  refine va_forget (fun q hq => hS.2.2 q hq) ?_
  obtain ⟨hP, hD⟩ := va_setq (k := 5) (fun j => some (adF b h0 h1 a2 a3 (6 + 2 * j))) hP hD rfl (fun i hi => by rw [(hfs i hi).1]; rcases (show i = 0 ∨ i = 1 ∨ i = 2 ∨ i = 3 ∨ i = 4 ∨ i = 5 ∨ i = 6 ∨ i = 7 ∨ i = 8 by omega) with rfl | rfl | rfl | rfl | rfl | rfl | rfl | rfl | rfl <;> rfl)
  obtain ⟨hP, hD⟩ := va_setq (k := 30) (fun j => some (adF b h0 h1 a2 a3 (31 + j))) hP hD rfl (fun i hi => by rw [(hfs i hi).2.1]; rcases (show i = 0 ∨ i = 1 ∨ i = 2 ∨ i = 3 ∨ i = 4 ∨ i = 5 ∨ i = 6 ∨ i = 7 ∨ i = 8 by omega) with rfl | rfl | rfl | rfl | rfl | rfl | rfl | rfl | rfl <;> rfl)
  obtain ⟨hP, hD⟩ := va_setq (k := 51) (fun j => some (adF b h0 h1 a2 a3 (52 + j))) hP hD rfl (fun i hi => by rw [(hfs i hi).2.2]; rcases (show i = 0 ∨ i = 1 ∨ i = 2 ∨ i = 3 ∨ i = 4 ∨ i = 5 ∨ i = 6 ∨ i = 7 ∨ i = 8 by omega) with rfl | rfl | rfl | rfl | rfl | rfl | rfl | rfl | rfl <;> rfl)
  have hP : va_P D vwCl (mwl (adF b h0 h1 a2 a3) cy (iv0 L xs) (RV 24 45)) H := hP
  have hD : va_D (fun q : Nat => s.heap.size ≤ q) (mwl (adF b h0 h1 a2 a3) cy (iv0 L xs) (RV 24 45)) := hD
  generalize had : adF b h0 h1 a2 a3 = ad at hP hD
  have hge : ∀ k, k < 82 → s.heap.size ≤ ad k := fun k hk => hD.2 k _ (mwl_get hk)
  have hbA : ¬ mA ad b := fun ⟨k, hk, hk2⟩ => by have := hge k hk; omega
  obtain ⟨n, hn⟩ := hpure L xs hL
  have a0 : ad 0 = h0 := by rw [← had]; rfl
  have a1 : ad 66 = h1 := by rw [← had]; rfl
  have a9 : ad 1000000 = b := by rw [← had]; rfl
  refine snd n 104 18 _ [] _ _ _ hn p l e room_1 s m _ below meth c H [] ls _ _ _ D ad cy b L xs ⟨hx, hb, hml, hown, hts, Nat.le_of_ble_eq_true rfl, Nat.le_of_ble_eq_true rfl⟩ (Nat.le_of_ble_eq_true rfl) (Nat.le_of_ble_eq_true rfl) ⟨hK, hX, hbl, hbA, a9, hL⟩ ⟨mLo.to rfl hl ?_, fun _ h => absurd h List.not_mem_nil, hP, ⟨hD.1, fun k q hq => ?_⟩, ⟨hS.1, fun q h1 h2 => hS.2.1 q h1 (by show ¬ s.heap.size ≤ q; omega), fun _ h => absurd h List.not_mem_nil⟩, iv0_ok hL, iv0_s, iv0_l⟩ ?_
  · intro k v hk
    match k, hk with
    | 0, hk => cases hk; exact ⟨by show (0, Value.ref (ad 1000000)) ∈ _; rw [a9]; simp, trivial⟩
    | 1, hk => cases hk; exact ⟨by show (1, Value.ref (ad 0)) ∈ _; rw [a0]; simp, trivial⟩
    | 2, hk => cases hk; exact ⟨by show (2, Value.ref (ad 66)) ∈ _; rw [a1]; simp, trivial⟩
    | 3, hk => cases hk; exact ⟨by show (3, Value.int 0) ∈ _; simp, okI_0⟩
    | k + 4, hk => cases hk
  · have hk : k < 82 := by
      have := (List.getElem?_eq_some_iff.mp hq).1
      unfold mwl at this
      simpa using this
    rw [mwl_get hk] at hq
    cases hq
    exact ⟨k, hk, rfl⟩
  · intro i pc' st2 Cs v L2 iv' rv' H' locs' ls' hdg hmr hC hQ hR
    subst hQ
    have hfg : ∀ q ∈ locs', s.heap.size ≤ q.base := fun q hq => by
      obtain ⟨k, hk, e1⟩ := hR.2.2.2.2.1.2.2 q hq
      rw [← e1]; exact hge k hk
    refine va_forget hfg ?_
    refine W.widen (k := 600000) (n := 7302250) (Nat.le_of_ble_eq_true rfl) (Nat.le_of_ble_eq_true rfl) ?_
    have hst : i = .ireturn ∧ st2 = [.inl 1] := by
      unfold mrt at hmr
      split at hmr
      · cases hmr; exact ⟨rfl, rfl⟩
      · cases hmr; exact ⟨rfl, rfl⟩
      · cases hmr
      · cases hmr
      · cases hmr
    obtain ⟨rfl, rfl⟩ := hst
    exact lw_ret hx hb hr hlocks hdg
