section
-- ===== PART A: goes FIRST, ahead of the names: the tables' words, and 'selects' of the private methods out of them =====
/-- a private method of a class that the tables say can be made, by its rows of tables_1 -/
def lw_okq (q : MethodName × Nat) : Prop := (q.1.cls ≠ "java/lang/invoke/MethodHandle" ∧ q.1.cls ≠ "java/lang/invoke/VarHandle") ∧ Cond.instantiable q.1.cls q.2 ∈ tables_1 ∧ Cond.privateMethod q.1 ∈ tables_1 ∧ Cond.instanceMethod q.1 ∈ tables_1
theorem lw_p0 : lw_okq (⟨"PullAndPush", "addWish", "([IIIII)I"⟩, 10) := ⟨⟨by decide +kernel, by decide +kernel⟩, List.mem_of_getElem? (i := 10) (by decide +kernel), List.mem_of_getElem? (i := 175) (by decide +kernel), List.mem_of_getElem? (i := 176) (by decide +kernel)⟩
theorem lw_p1 : lw_okq (⟨"PullAndPush", "freeWish", "()I"⟩, 10) := ⟨⟨by decide +kernel, by decide +kernel⟩, List.mem_of_getElem? (i := 10) (by decide +kernel), List.mem_of_getElem? (i := 179) (by decide +kernel), List.mem_of_getElem? (i := 180) (by decide +kernel)⟩
theorem lw_p2 : lw_okq (⟨"PullAndPush", "clashes", "(LPullAndPush$Wish;)Z"⟩, 10) := ⟨⟨by decide +kernel, by decide +kernel⟩, List.mem_of_getElem? (i := 10) (by decide +kernel), List.mem_of_getElem? (i := 187) (by decide +kernel), List.mem_of_getElem? (i := 188) (by decide +kernel)⟩
theorem lw_p3 : lw_okq (⟨"PullAndPush", "countingWishes", "(I)I"⟩, 10) := ⟨⟨by decide +kernel, by decide +kernel⟩, List.mem_of_getElem? (i := 10) (by decide +kernel), List.mem_of_getElem? (i := 195) (by decide +kernel), List.mem_of_getElem? (i := 196) (by decide +kernel)⟩
theorem lw_p4 : lw_okq (⟨"PullAndPush$Solver", "addRow", "(ILPullAndPush$Wish;)V"⟩, 16) := ⟨⟨by decide +kernel, by decide +kernel⟩, List.mem_of_getElem? (i := 60) (by decide +kernel), List.mem_of_getElem? (i := 206) (by decide +kernel), List.mem_of_getElem? (i := 207) (by decide +kernel)⟩
theorem lw_p5 : lw_okq (⟨"PullAndPush$Solver", "findEntering", "(I)Z"⟩, 16) := ⟨⟨by decide +kernel, by decide +kernel⟩, List.mem_of_getElem? (i := 60) (by decide +kernel), List.mem_of_getElem? (i := 223) (by decide +kernel), List.mem_of_getElem? (i := 224) (by decide +kernel)⟩
theorem lw_p6 : lw_okq (⟨"PullAndPush$Solver", "findGrowth", "(I)V"⟩, 16) := ⟨⟨by decide +kernel, by decide +kernel⟩, List.mem_of_getElem? (i := 60) (by decide +kernel), List.mem_of_getElem? (i := 227) (by decide +kernel), List.mem_of_getElem? (i := 228) (by decide +kernel)⟩
theorem lw_p7 : lw_okq (⟨"PullAndPush$Solver", "slopeOf", "(I)J"⟩, 16) := ⟨⟨by decide +kernel, by decide +kernel⟩, List.mem_of_getElem? (i := 60) (by decide +kernel), List.mem_of_getElem? (i := 234) (by decide +kernel), List.mem_of_getElem? (i := 235) (by decide +kernel)⟩
theorem lw_p8 : lw_okq (⟨"PullAndPush$Solver", "lessens", "(III)Z"⟩, 16) := ⟨⟨by decide +kernel, by decide +kernel⟩, List.mem_of_getElem? (i := 60) (by decide +kernel), List.mem_of_getElem? (i := 238) (by decide +kernel), List.mem_of_getElem? (i := 239) (by decide +kernel)⟩
theorem lw_p9 : lw_okq (⟨"PullAndPush$Solver", "findLeaving", "(I)I"⟩, 16) := ⟨⟨by decide +kernel, by decide +kernel⟩, List.mem_of_getElem? (i := 60) (by decide +kernel), List.mem_of_getElem? (i := 242) (by decide +kernel), List.mem_of_getElem? (i := 243) (by decide +kernel)⟩
theorem lw_p10 : lw_okq (⟨"PullAndPush$Solver", "firstAtZero", "()I"⟩, 16) := ⟨⟨by decide +kernel, by decide +kernel⟩, List.mem_of_getElem? (i := 60) (by decide +kernel), List.mem_of_getElem? (i := 246) (by decide +kernel), List.mem_of_getElem? (i := 247) (by decide +kernel)⟩
theorem lw_p11 : lw_okq (⟨"PullAndPush$Solver", "pass", "(I)V"⟩, 16) := ⟨⟨by decide +kernel, by decide +kernel⟩, List.mem_of_getElem? (i := 60) (by decide +kernel), List.mem_of_getElem? (i := 251) (by decide +kernel), List.mem_of_getElem? (i := 252) (by decide +kernel)⟩
theorem lw_p12 : lw_okq (⟨"PullAndPush$Solver", "swap", "(I)V"⟩, 16) := ⟨⟨by decide +kernel, by decide +kernel⟩, List.mem_of_getElem? (i := 60) (by decide +kernel), List.mem_of_getElem? (i := 258) (by decide +kernel), List.mem_of_getElem? (i := 259) (by decide +kernel)⟩
theorem lw_p13 : lw_okq (⟨"PullAndPush$Solver", "putIn", "(IIJJ)V"⟩, 16) := ⟨⟨by decide +kernel, by decide +kernel⟩, List.mem_of_getElem? (i := 60) (by decide +kernel), List.mem_of_getElem? (i := 262) (by decide +kernel), List.mem_of_getElem? (i := 263) (by decide +kernel)⟩
theorem lw_p14 : lw_okq (⟨"PullAndPush", "leastQuarrel", "()I"⟩, 10) := ⟨⟨by decide +kernel, by decide +kernel⟩, List.mem_of_getElem? (i := 10) (by decide +kernel), List.mem_of_getElem? (i := 270) (by decide +kernel), List.mem_of_getElem? (i := 271) (by decide +kernel)⟩
theorem lw_p15 : lw_okq (⟨"PullAndPush", "isEdge", "(I)Z"⟩, 10) := ⟨⟨by decide +kernel, by decide +kernel⟩, List.mem_of_getElem? (i := 10) (by decide +kernel), List.mem_of_getElem? (i := 287) (by decide +kernel), List.mem_of_getElem? (i := 288) (by decide +kernel)⟩
def lw_privs_1 : List (MethodName × Nat) := [(⟨"PullAndPush", "addWish", "([IIIII)I"⟩, 10), (⟨"PullAndPush", "freeWish", "()I"⟩, 10), (⟨"PullAndPush", "clashes", "(LPullAndPush$Wish;)Z"⟩, 10), (⟨"PullAndPush", "countingWishes", "(I)I"⟩, 10), (⟨"PullAndPush$Solver", "addRow", "(ILPullAndPush$Wish;)V"⟩, 16), (⟨"PullAndPush$Solver", "findEntering", "(I)Z"⟩, 16), (⟨"PullAndPush$Solver", "findGrowth", "(I)V"⟩, 16), (⟨"PullAndPush$Solver", "slopeOf", "(I)J"⟩, 16), (⟨"PullAndPush$Solver", "lessens", "(III)Z"⟩, 16), (⟨"PullAndPush$Solver", "findLeaving", "(I)I"⟩, 16), (⟨"PullAndPush$Solver", "firstAtZero", "()I"⟩, 16), (⟨"PullAndPush$Solver", "pass", "(I)V"⟩, 16), (⟨"PullAndPush$Solver", "swap", "(I)V"⟩, 16), (⟨"PullAndPush$Solver", "putIn", "(IIJJ)V"⟩, 16), (⟨"PullAndPush", "leastQuarrel", "()I"⟩, 10), (⟨"PullAndPush", "isEdge", "(I)Z"⟩, 10)]
theorem lw_r1 : ∀ q ∈ lw_privs_1, lw_okq q := List.forall_mem_cons.mpr ⟨lw_p0, List.forall_mem_cons.mpr ⟨lw_p1, List.forall_mem_cons.mpr ⟨lw_p2, List.forall_mem_cons.mpr ⟨lw_p3, List.forall_mem_cons.mpr ⟨lw_p4, List.forall_mem_cons.mpr ⟨lw_p5, List.forall_mem_cons.mpr ⟨lw_p6, List.forall_mem_cons.mpr ⟨lw_p7, List.forall_mem_cons.mpr ⟨lw_p8, List.forall_mem_cons.mpr ⟨lw_p9, List.forall_mem_cons.mpr ⟨lw_p10, List.forall_mem_cons.mpr ⟨lw_p11, List.forall_mem_cons.mpr ⟨lw_p12, List.forall_mem_cons.mpr ⟨lw_p13, List.forall_mem_cons.mpr ⟨lw_p14, List.forall_mem_cons.mpr ⟨lw_p15, fun _ h => absurd h List.not_mem_nil⟩⟩⟩⟩⟩⟩⟩⟩⟩⟩⟩⟩⟩⟩⟩⟩
theorem lw_p16 : lw_okq (⟨"PullAndPush", "isWish", "(I)Z"⟩, 10) := ⟨⟨by decide +kernel, by decide +kernel⟩, List.mem_of_getElem? (i := 10) (by decide +kernel), List.mem_of_getElem? (i := 296) (by decide +kernel), List.mem_of_getElem? (i := 297) (by decide +kernel)⟩
theorem lw_p17 : lw_okq (⟨"PullAndPush", "countWishes", "()I"⟩, 10) := ⟨⟨by decide +kernel, by decide +kernel⟩, List.mem_of_getElem? (i := 10) (by decide +kernel), List.mem_of_getElem? (i := 300) (by decide +kernel), List.mem_of_getElem? (i := 301) (by decide +kernel)⟩
theorem lw_p18 : lw_okq (⟨"PullAndPush", "countUnmet", "()I"⟩, 10) := ⟨⟨by decide +kernel, by decide +kernel⟩, List.mem_of_getElem? (i := 10) (by decide +kernel), List.mem_of_getElem? (i := 330) (by decide +kernel), List.mem_of_getElem? (i := 331) (by decide +kernel)⟩
theorem lw_p19 : lw_okq (⟨"PullAndPush", "findSetting", "()V"⟩, 10) := ⟨⟨by decide +kernel, by decide +kernel⟩, List.mem_of_getElem? (i := 10) (by decide +kernel), List.mem_of_getElem? (i := 334) (by decide +kernel), List.mem_of_getElem? (i := 335) (by decide +kernel)⟩
theorem lw_p20 : lw_okq (⟨"PullAndPush", "pixelOf", "(I)J"⟩, 10) := ⟨⟨by decide +kernel, by decide +kernel⟩, List.mem_of_getElem? (i := 10) (by decide +kernel), List.mem_of_getElem? (i := 367) (by decide +kernel), List.mem_of_getElem? (i := 368) (by decide +kernel)⟩
theorem lw_p21 : lw_okq (⟨"PullAndPush", "isNearerWithout", "(LPullAndPush$Wish;I)Z"⟩, 10) := ⟨⟨by decide +kernel, by decide +kernel⟩, List.mem_of_getElem? (i := 10) (by decide +kernel), List.mem_of_getElem? (i := 389) (by decide +kernel), List.mem_of_getElem? (i := 390) (by decide +kernel)⟩
theorem lw_p22 : lw_okq (⟨"PullAndPushModel", "add", "(IIII)I"⟩, 21) := ⟨⟨by decide +kernel, by decide +kernel⟩, List.mem_of_getElem? (i := 418) (by decide +kernel), List.mem_of_getElem? (i := 519) (by decide +kernel), List.mem_of_getElem? (i := 520) (by decide +kernel)⟩
theorem lw_p23 : lw_okq (⟨"PullAndPushModel", "clashes", "()Z"⟩, 21) := ⟨⟨by decide +kernel, by decide +kernel⟩, List.mem_of_getElem? (i := 418) (by decide +kernel), List.mem_of_getElem? (i := 523) (by decide +kernel), List.mem_of_getElem? (i := 524) (by decide +kernel)⟩
theorem lw_p24 : lw_okq (⟨"PullAndPushModel", "allLive", "()I"⟩, 21) := ⟨⟨by decide +kernel, by decide +kernel⟩, List.mem_of_getElem? (i := 418) (by decide +kernel), List.mem_of_getElem? (i := 527) (by decide +kernel), List.mem_of_getElem? (i := 528) (by decide +kernel)⟩
theorem lw_p25 : lw_okq (⟨"PullAndPushModel", "solve", "()Z"⟩, 21) := ⟨⟨by decide +kernel, by decide +kernel⟩, List.mem_of_getElem? (i := 418) (by decide +kernel), List.mem_of_getElem? (i := 531) (by decide +kernel), List.mem_of_getElem? (i := 532) (by decide +kernel)⟩
theorem lw_p26 : lw_okq (⟨"PullAndPushModel", "isLive", "(I)Z"⟩, 21) := ⟨⟨by decide +kernel, by decide +kernel⟩, List.mem_of_getElem? (i := 418) (by decide +kernel), List.mem_of_getElem? (i := 535) (by decide +kernel), List.mem_of_getElem? (i := 536) (by decide +kernel)⟩
theorem lw_p27 : lw_okq (⟨"PullAndPushModel", "putRow", "(II)V"⟩, 21) := ⟨⟨by decide +kernel, by decide +kernel⟩, List.mem_of_getElem? (i := 418) (by decide +kernel), List.mem_of_getElem? (i := 539) (by decide +kernel), List.mem_of_getElem? (i := 540) (by decide +kernel)⟩
theorem lw_p28 : lw_okq (⟨"PullAndPushModel", "meet", "()Z"⟩, 21) := ⟨⟨by decide +kernel, by decide +kernel⟩, List.mem_of_getElem? (i := 418) (by decide +kernel), List.mem_of_getElem? (i := 543) (by decide +kernel), List.mem_of_getElem? (i := 544) (by decide +kernel)⟩
theorem lw_p29 : lw_okq (⟨"PullAndPushModel", "swapRows", "(II)V"⟩, 21) := ⟨⟨by decide +kernel, by decide +kernel⟩, List.mem_of_getElem? (i := 418) (by decide +kernel), List.mem_of_getElem? (i := 547) (by decide +kernel), List.mem_of_getElem? (i := 548) (by decide +kernel)⟩
theorem lw_p30 : lw_okq (⟨"PullAndPushModel", "weigh", "()Z"⟩, 21) := ⟨⟨by decide +kernel, by decide +kernel⟩, List.mem_of_getElem? (i := 418) (by decide +kernel), List.mem_of_getElem? (i := 554) (by decide +kernel), List.mem_of_getElem? (i := 555) (by decide +kernel)⟩
theorem lw_p31 : lw_okq (⟨"PullAndPushModel", "offBy", "(I[JJ)J"⟩, 21) := ⟨⟨by decide +kernel, by decide +kernel⟩, List.mem_of_getElem? (i := 418) (by decide +kernel), List.mem_of_getElem? (i := 558) (by decide +kernel), List.mem_of_getElem? (i := 559) (by decide +kernel)⟩
def lw_privs_2 : List (MethodName × Nat) := [(⟨"PullAndPush", "isWish", "(I)Z"⟩, 10), (⟨"PullAndPush", "countWishes", "()I"⟩, 10), (⟨"PullAndPush", "countUnmet", "()I"⟩, 10), (⟨"PullAndPush", "findSetting", "()V"⟩, 10), (⟨"PullAndPush", "pixelOf", "(I)J"⟩, 10), (⟨"PullAndPush", "isNearerWithout", "(LPullAndPush$Wish;I)Z"⟩, 10), (⟨"PullAndPushModel", "add", "(IIII)I"⟩, 21), (⟨"PullAndPushModel", "clashes", "()Z"⟩, 21), (⟨"PullAndPushModel", "allLive", "()I"⟩, 21), (⟨"PullAndPushModel", "solve", "()Z"⟩, 21), (⟨"PullAndPushModel", "isLive", "(I)Z"⟩, 21), (⟨"PullAndPushModel", "putRow", "(II)V"⟩, 21), (⟨"PullAndPushModel", "meet", "()Z"⟩, 21), (⟨"PullAndPushModel", "swapRows", "(II)V"⟩, 21), (⟨"PullAndPushModel", "weigh", "()Z"⟩, 21), (⟨"PullAndPushModel", "offBy", "(I[JJ)J"⟩, 21)]
theorem lw_r2 : ∀ q ∈ lw_privs_2, lw_okq q := List.forall_mem_cons.mpr ⟨lw_p16, List.forall_mem_cons.mpr ⟨lw_p17, List.forall_mem_cons.mpr ⟨lw_p18, List.forall_mem_cons.mpr ⟨lw_p19, List.forall_mem_cons.mpr ⟨lw_p20, List.forall_mem_cons.mpr ⟨lw_p21, List.forall_mem_cons.mpr ⟨lw_p22, List.forall_mem_cons.mpr ⟨lw_p23, List.forall_mem_cons.mpr ⟨lw_p24, List.forall_mem_cons.mpr ⟨lw_p25, List.forall_mem_cons.mpr ⟨lw_p26, List.forall_mem_cons.mpr ⟨lw_p27, List.forall_mem_cons.mpr ⟨lw_p28, List.forall_mem_cons.mpr ⟨lw_p29, List.forall_mem_cons.mpr ⟨lw_p30, List.forall_mem_cons.mpr ⟨lw_p31, fun _ h => absurd h List.not_mem_nil⟩⟩⟩⟩⟩⟩⟩⟩⟩⟩⟩⟩⟩⟩⟩⟩
theorem lw_p32 : lw_okq (⟨"PullAndPushModel", "isLess", "()Z"⟩, 21) := ⟨⟨by decide +kernel, by decide +kernel⟩, List.mem_of_getElem? (i := 418) (by decide +kernel), List.mem_of_getElem? (i := 562) (by decide +kernel), List.mem_of_getElem? (i := 563) (by decide +kernel)⟩
theorem lw_p33 : lw_okq (⟨"PullAndPushModel", "noEdge", "(I)Z"⟩, 21) := ⟨⟨by decide +kernel, by decide +kernel⟩, List.mem_of_getElem? (i := 418) (by decide +kernel), List.mem_of_getElem? (i := 571) (by decide +kernel), List.mem_of_getElem? (i := 572) (by decide +kernel)⟩
theorem lw_p34 : lw_okq (⟨"PullAndPushModel", "noWish", "(I)Z"⟩, 21) := ⟨⟨by decide +kernel, by decide +kernel⟩, List.mem_of_getElem? (i := 418) (by decide +kernel), List.mem_of_getElem? (i := 580) (by decide +kernel), List.mem_of_getElem? (i := 581) (by decide +kernel)⟩
theorem lw_p35 : lw_okq (⟨"PullAndPushModel", "set", "()V"⟩, 21) := ⟨⟨by decide +kernel, by decide +kernel⟩, List.mem_of_getElem? (i := 418) (by decide +kernel), List.mem_of_getElem? (i := 606) (by decide +kernel), List.mem_of_getElem? (i := 607) (by decide +kernel)⟩
theorem lw_p36 : lw_okq (⟨"PullAndPushModel", "pixelOf", "(I)J"⟩, 21) := ⟨⟨by decide +kernel, by decide +kernel⟩, List.mem_of_getElem? (i := 418) (by decide +kernel), List.mem_of_getElem? (i := 625) (by decide +kernel), List.mem_of_getElem? (i := 626) (by decide +kernel)⟩
def lw_privs_3 : List (MethodName × Nat) := [(⟨"PullAndPushModel", "isLess", "()Z"⟩, 21), (⟨"PullAndPushModel", "noEdge", "(I)Z"⟩, 21), (⟨"PullAndPushModel", "noWish", "(I)Z"⟩, 21), (⟨"PullAndPushModel", "set", "()V"⟩, 21), (⟨"PullAndPushModel", "pixelOf", "(I)J"⟩, 21)]
theorem lw_r3 : ∀ q ∈ lw_privs_3, lw_okq q := List.forall_mem_cons.mpr ⟨lw_p32, List.forall_mem_cons.mpr ⟨lw_p33, List.forall_mem_cons.mpr ⟨lw_p34, List.forall_mem_cons.mpr ⟨lw_p35, List.forall_mem_cons.mpr ⟨lw_p36, fun _ h => absurd h List.not_mem_nil⟩⟩⟩⟩⟩
def lw_privs : List (MethodName × Nat) := lw_privs_1 ++ (lw_privs_2 ++ (lw_privs_3))
def lw_tbl : List Cond := k2_sels lw_privs ++ tables_1
theorem lw_privs_ok : ∀ q ∈ lw_privs, lw_okq q := by
  show ∀ q ∈ lw_privs_1 ++ (lw_privs_2 ++ (lw_privs_3)), lw_okq q
  exact List.forall_mem_append.mpr ⟨lw_r1, List.forall_mem_append.mpr ⟨lw_r2, lw_r3⟩⟩
end
section
/-! ===== BEGIN words of one list among another's, by their places ===== -/
theorem goodIn_r {big : List Cond} (ws : List Cond) (ps : List Nat) (hp : ws = ps.filterMap (fun i => big[i]?)) (h : ws.all goodWord = true) : GoodIn big ws := by
  intro w hw
  have h1 := List.all_eq_true.mp h w hw
  rw [hp] at hw
  obtain ⟨i, -, hi⟩ := List.mem_filterMap.mp hw
  have hm : w ∈ big := by first | exact List.mem_of_getElem? hi | exact List.getElem?_mem hi
  exact ⟨hm, good_of_word h1⟩
theorem goodIn_app {big a b : List Cond} (ha : GoodIn big a) (hb : GoodIn big b) : GoodIn big (a ++ b) := fun w h => (List.mem_append.mp h).elim (ha w) (hb w)
theorem goodIn_ca {big a b : List Cond} {c : Cond} (ha : GoodIn big (c :: a)) (hb : GoodIn big b) : GoodIn big (c :: (a ++ b)) := fun w h => (List.mem_cons.mp h).elim (fun e => ha w (List.mem_cons.mpr (Or.inl e))) (fun h => (List.mem_append.mp h).elim (fun h => ha w (List.mem_cons.mpr (Or.inr h))) (hb w))
theorem goodIn_sub {big ws : List Cond} (hm : ∀ w ∈ ws, w ∈ big) (h : ws.all goodWord = true) : GoodIn big ws := fun w hw => ⟨hm w hw, good_of_word (List.all_eq_true.mp h w hw)⟩
/-! ===== END ===== -/

/-! ===== BEGIN new T[n][m]: the outer array a place, the inner ones among the pooled ===== -/
/-- f, but v at every address of l -/
def vr_up {α : Type} (f : Nat → α) (l : List Nat) (v : α) : Nat → α := fun a => if a ∈ l then v else f a
theorem vr_up_in {α : Type} {f : Nat → α} {l : List Nat} {v : α} {a : Nat} (h : a ∈ l) : vr_up f l v a = v := if_pos h
theorem vr_up_ne {α : Type} {f : Nat → α} {l : List Nat} {v : α} {a : Nat} (h : a ∉ l) : vr_up f l v a = f a := if_neg h
theorem vr_rows {L l : List Nat} {f : Nat → va_E} {e : va_E} (h : ∀ a, a ∈ l → a ∉ L) : va_pl L f ++ l.map (fun a => (a, e)) = va_pl (L ++ l) (vr_up f l e) := by
  unfold va_pl
  rw [List.map_append]
  congr 1
  · apply List.map_congr_left
    intro a ha
    rw [vr_up_ne (fun q => h a q ha)]
  · apply List.map_congr_left
    intro a ha
    rw [vr_up_in ha]
theorem vr_lay {X rows : va_W} {x : Nat × va_E} {pl : va_W} {D : va_G} {cl : List vw_C} {H : Heap} (hP : va_P D cl (((X ++ pl) ++ [x]) ++ rows) H) : va_P D cl ((X ++ [x]) ++ (pl ++ rows)) H := by
  rw [List.append_assoc (X ++ pl)] at hP
  have h := va_P.swap hP
  rw [← List.append_assoc X] at h
  have h2 := va_P.swap h
  rw [List.append_assoc (X ++ [x])] at h2
  exact h2
theorem vr_layD {X rows : va_W} {x : Nat × va_E} {pl : va_W} {A : Nat → Prop} (hD : va_D A (((X ++ pl) ++ [x]) ++ rows)) : va_D A ((X ++ [x]) ++ (pl ++ rows)) := by
  rw [List.append_assoc (X ++ pl)] at hD
  have h := va_D.swap hD
  rw [← List.append_assoc X] at h
  have h2 := va_D.swap h
  rw [List.append_assoc (X ++ [x])] at h2
  exact h2
theorem vr_outer (c : ClassId) (N h0 : Nat) : ∀ i : Nat, Jvm.Free.Multi.outerC c N h0 i = arrV c N (fun j => va_rf (if j < i then some (h0 + 1 + j) else none))
  | 0 => by
    show ({ cls := c, slots := Array.replicate N .null, vm := .none } : Cell) = _
    rw [arrV_new]
    refine congrArg (arrV c N) (funext fun j => ?_)
    simp [va_rf]
  | i + 1 => by
    show (Jvm.Free.Multi.outerC c N h0 i).setSlot i (.ref (h0 + 1 + i)) = _
    rw [vr_outer c N h0 i, arrV_store]
    refine congrArg (arrV c N) (funext fun j => ?_)
    by_cases e : j = i
    · subst e
      simp [updV, va_rf]
    · by_cases h : j < i
      · simp [updV, e, h, Nat.lt_succ_of_lt h]
      · simp [updV, e, h, show ¬ j < i + 1 by omega]
def va_AOA (ty : FieldType) (U : State) : Prop := (Cond.arrayOver (.array ty)).before #[] U = true
theorem va_AOA.use {ty : FieldType} {A : Array Value} {U : State} (h : va_AOA ty U) : (Cond.arrayOver (.array ty)).before A U = true := h
section VGM
variable {p : Program} {l : Launch} {e : Env} {R : Room} {s : State} {m : MethodId} {args : Array Value} {below : List Frame} {meth : Method} {c : Code} {H : Heap} {locs : List Loc} {cells slots : Nat} {Q : State → Prop}
variable {cc : ByteArray} {pc : Nat} {ls : Array Slot} {rest : List Value} {D : va_G} {cl : List vw_C} {A : Nat → Prop} {a : Nat} {tys : List (ClassId × FieldType)} {ws : va_W} {H0 : Heap}
theorem va_mna {X : va_W} {L : List Nat} {f : Nat → va_E} {cc : ByteArray} (hexec : p.tables.exec = Jvm.exec) (hb : c.code = cc) {own : String} {index : Nat} {ty : FieldType} {cy : ClassId} (hown : s.vm.findClass own = some m.cls) (hclink : (Cond.classLink own index ("[" ++ (FieldType.array ty).toString)).before args s = true) (hover : va_AOA ty s) (harr : (Cond.arrayClass ty).before args s = true) (hcy : s.vm.findClass (FieldType.array ty).toString = some cy)
    (hK : va_K D cl tys s) (hP : va_P D cl (X ++ va_pl L f) H) (hD : va_D A (X ++ va_pl L f)) (hS : va_S A H0 H locs) (hA : ∀ q, H0.size ≤ q → A q) {n k : Int32} {N' K' : Nat} {z : vp_A} (hn : ¬ n < 0) (hk : ¬ k < 0) (hN : n.toNatClampNeg = N') (hM : k.toNatClampNeg = K')
    (hb1 : N' * 4 ≤ 536870912) (hb2 : K' * componentBytes ty ≤ 536870912) (hb3 : K' ≤ 536870912) (hdf : fits ty (defaultValue ty) = true) (hdd : (defaultValue ty).isDefault = true) (hcells : cells + (1 + N') ≤ R.cells) (hslots : slots + (N' + N' * K') ≤ R.slots) (hz : ∀ c : ClassId, Jvm.Free.Multi.innerC c K' (defaultValue ty) = vp_cell c z) (hdg : decode cc pc = .ok (.multianewarray index 2, 4))
    (kk : ∀ (q : Nat) (r : Nat → Nat) (cA : ClassId) (H1 : Heap), (∀ i j : Nat, i < N' → j < N' → r i = r j → i = j) → (∀ i : Nat, i < N' → r i ∉ L) → va_K D cl (tys ++ [(cA, .array ty)]) s →
      va_P D cl ((X ++ [(q, .inl (cA, N', .inr (.inr (.inr (.inr (fun i => if i < N' then some (r i) else none))))))]) ++ va_pl (L ++ (List.range N').map r) (vr_up f ((List.range N').map r) (.inl (cy, z)))) H1 → va_D A ((X ++ [(q, .inl (cA, N', .inr (.inr (.inr (.inr (fun i => if i < N' then some (r i) else none))))))]) ++ va_pl (L ++ (List.range N').map r) (vr_up f ((List.range N').map r) (.inl (cy, z)))) → va_S A H0 H1 locs →
      W p l e R s m args below meth c H1 locs (cells + 1 + N') (slots + N' + N' * K') Q (F0 m (pc + 4) ls (.ref q :: rest))) : W p l e R s m args below meth c H locs cells slots Q (F0 m pc ls (.int k :: .int n :: rest)) := by
  subst hN
  subst hM
  intro T hT Xs
  obtain ⟨vm₁, cA, comp, -, fA, fC, hO, -, X', step⟩ := Xs.multianewarray2F hexec hown hclink (va_AOA.use hover) harr (g := F0 m pc ls (.int k :: .int n :: rest)) rfl (by rw [hb]; exact hdg) rfl hn hk hb1 hb2 hb3 hdf hdd hcells hslots
  have ec : some cy = some comp := hcy.symm.trans fC
  cases ec
  generalize hF : Jvm.Free.Multi.fill (T.setVm vm₁) cA cy n.toNatClampNeg k.toNatClampNeg (defaultValue ty) n.toNatClampNeg = F at X' step
  have hTh : (T.setVm vm₁).heap = H := hT
  obtain ⟨f1, f2, -, -⟩ := Jvm.Free.Multi.fill_facts (T.setVm vm₁) cA cy n.toNatClampNeg k.toNatClampNeg (defaultValue ty) n.toNatClampNeg
  rw [hF, hTh] at f1 f2
  have hold : ∀ x : Nat, x < H.size → F.heap[x]? = H[x]? := fun x hx => by
    have := Jvm.Free.Multi.fill_old (T.setVm vm₁) cA cy n.toNatClampNeg k.toNatClampNeg (defaultValue ty) (a := x) (by rw [hTh]; exact hx) n.toNatClampNeg
    rw [hF, hTh] at this
    exact this
  have hrow : ∀ j : Nat, j < n.toNatClampNeg → F.heap[H.size + 1 + j]? = some (vp_cell cy z) := fun j hj => by
    have := Jvm.Free.Multi.fill_inner (T.setVm vm₁) cA cy n.toNatClampNeg k.toNatClampNeg (defaultValue ty) n.toNatClampNeg j hj
    rw [hF, hTh, hz] at this
    exact this
  have hout : Jvm.Free.Multi.outerC cA n.toNatClampNeg H.size n.toNatClampNeg = vp_cell cA (n.toNatClampNeg, .inr (.inr (.inr (.inr (fun i => if i < n.toNatClampNeg then some (H.size + 1 + i) else none))))) := by
    rw [vp_cell_q]
    exact vr_outer cA n.toNatClampNeg H.size n.toNatClampNeg
  rw [hout] at f2
  have hlt : ∀ a, a ∈ L → a < H.size := fun a ha => by
    obtain ⟨k9, hk9⟩ := va_pl_get (X := X) (f := f) ha
    exact (hP k9 _ hk9).lt
  have hnl : ∀ i : Nat, i < n.toNatClampNeg → H.size + 1 + i ∉ L := fun i _ h => by
    have := hlt _ h
    omega
  have hnm : ∀ a, a ∈ (List.range n.toNatClampNeg).map (fun i => H.size + 1 + i) → a ∉ L := fun a ha h => by
    obtain ⟨i, -, rfl⟩ := List.mem_map.mp ha
    have := hlt _ h
    omega
  have hP0 : va_P D cl (X ++ va_pl L f) F.heap := hP.kept (fun k9 x hx => hold x.1 ((hP k9 x hx).lt))
  have hP1 : va_P D cl ((X ++ va_pl L f) ++ [(H.size, .inl (cA, n.toNatClampNeg, .inr (.inr (.inr (.inr (fun i => if i < n.toNatClampNeg then some (H.size + 1 + i) else none))))))]) F.heap := hP0.app (fun k9 x hx => by
    have h0 : k9 < 1 := (List.getElem?_eq_some_iff.mp hx).1
    rw [show k9 = 0 by omega] at hx
    cases hx
    exact f2)
  have hP2 : va_P D cl (((X ++ va_pl L f) ++ [(H.size, .inl (cA, n.toNatClampNeg, .inr (.inr (.inr (.inr (fun i => if i < n.toNatClampNeg then some (H.size + 1 + i) else none))))))]) ++ ((List.range n.toNatClampNeg).map (fun i => H.size + 1 + i)).map (fun a => (a, .inl (cy, z)))) F.heap := hP1.app (fun k9 x hx => by
    obtain ⟨a, ha, rfl⟩ := List.mem_map.mp (List.mem_of_getElem? hx)
    obtain ⟨i, hi, rfl⟩ := List.mem_map.mp ha
    exact hrow i (List.mem_range.mp hi))
  have hD2 : va_D A (((X ++ va_pl L f) ++ [(H.size, .inl (cA, n.toNatClampNeg, .inr (.inr (.inr (.inr (fun i => if i < n.toNatClampNeg then some (H.size + 1 + i) else none))))))]) ++ ((List.range n.toNatClampNeg).map (fun i => H.size + 1 + i)).map (fun a => (a, .inl (cy, z)))) := by
    have hD1 := hD.push (e := .inl (cA, n.toNatClampNeg, .inr (.inr (.inr (.inr (fun i => if i < n.toNatClampNeg then some (H.size + 1 + i) else none)))))) hP rfl (hA _ hS.1)
    generalize hW1 : (X ++ va_pl L f) ++ [(H.size, .inl (cA, n.toNatClampNeg, .inr (.inr (.inr (.inr (fun i => if i < n.toNatClampNeg then some (H.size + 1 + i) else none))))))] = W1 at hD1 hP1 ⊢
    have hle : ∀ (k9 : Nat) (x : Nat × va_E), W1[k9]? = some x → x.1 ≤ H.size := fun k9 x hx => by
      rw [← hW1] at hx
      by_cases hl : k9 < (X ++ va_pl L f).length
      · rw [List.getElem?_append_left hl] at hx
        exact Nat.le_of_lt ((hP k9 x hx).lt)
      · rw [List.getElem?_append_right (by omega)] at hx
        have h0 : k9 - (X ++ va_pl L f).length < 1 := (List.getElem?_eq_some_iff.mp hx).1
        rw [show k9 - (X ++ va_pl L f).length = 0 by omega] at hx
        cases hx
        exact Nat.le_refl _
    have hr : ∀ (k9 : Nat) (x : Nat × va_E), (((List.range n.toNatClampNeg).map (fun i => H.size + 1 + i)).map (fun a => ((a, .inl (cy, z)) : Nat × va_E)))[k9]? = some x → x.1 = H.size + 1 + k9 := fun k9 x hx => by
      rw [List.getElem?_map, List.getElem?_map] at hx
      by_cases h9 : k9 < n.toNatClampNeg
      · rw [List.getElem?_range h9] at hx
        cases hx
        rfl
      · have hn0 : (List.range n.toNatClampNeg)[k9]? = none := List.getElem?_eq_none (by rw [List.length_range]; omega)
        rw [hn0] at hx
        cases hx
    refine ⟨fun i j x y hi hj hxy => ?_, fun k9 x hx => ?_⟩
    · by_cases h1 : i < W1.length <;> by_cases h2 : j < W1.length
      · rw [List.getElem?_append_left h1] at hi
        rw [List.getElem?_append_left h2] at hj
        exact hD1.1 i j x y hi hj hxy
      · rw [List.getElem?_append_left h1] at hi
        rw [List.getElem?_append_right (by omega)] at hj
        have := hle _ _ hi
        have := hr _ _ hj
        omega
      · rw [List.getElem?_append_right (by omega)] at hi
        rw [List.getElem?_append_left h2] at hj
        have := hle _ _ hj
        have := hr _ _ hi
        omega
      · rw [List.getElem?_append_right (by omega)] at hi hj
        have := hr _ _ hi
        have := hr _ _ hj
        omega
    · by_cases h1 : k9 < W1.length
      · rw [List.getElem?_append_left h1] at hx
        exact hD1.2 k9 x hx
      · rw [List.getElem?_append_right (by omega)] at hx
        have := hr _ _ hx
        exact hA _ (by have := hS.1; omega)
  have hAr : ArrOfT s cA (.array ty) := fun N9 z9 => by
    obtain ⟨-, k9, hk9, cm9, hkk9⟩ := (hO 0 0 0).1
    exact ⟨(fun q hq => by cases hq), k9, hk9, cm9, hkk9⟩
  have hK2 : va_K D cl (tys ++ [(cA, .array ty)]) s := ⟨hK.1, fun k9 x hx => by
    by_cases hl : k9 < tys.length
    · rw [List.getElem?_append_left hl] at hx
      exact hK.2 k9 x hx
    · rw [List.getElem?_append_right (by omega)] at hx
      have h0 : k9 - tys.length < 1 := (List.getElem?_eq_some_iff.mp hx).1
      rw [show k9 - tys.length = 0 by omega] at hx
      cases hx
      exact ⟨hAr, fA⟩⟩
  obtain ⟨t, a1, b1⟩ := kk H.size (fun i => H.size + 1 + i) cA F.heap (fun i j _ _ h => by have h9 : H.size + 1 + i = H.size + 1 + j := h; omega) hnl hK2 (by rw [← vr_rows hnm]; exact vr_lay hP2) (by rw [← vr_rows hnm]; exact vr_layD hD2) ⟨by rw [f1]; have := hS.1; omega, fun x h1 h2 => (hold x (Nat.lt_of_lt_of_le h1 hS.1)).trans (hS.2.1 x h1 h2), hS.2.2⟩ F rfl X'
  refine ⟨t, step t ?_, b1⟩
  have e : T.heap.size = H.size := by rw [hT]
  rw [e]
  exact a1
end VGM
/-! ===== END ===== -/

/-! ===== BEGIN printed: names, fields, word lists, decode rows ===== -/
def RX0 : String := "PullAndPush$Solver"
def TX0 : u_T := fun k => match k with
  | 0 => ("PullAndPush$Solver", "lower", "J", false)
  | 1 => ("PullAndPush$Solver", "places", "[J", true)
  | 2 => ("PullAndPush$Solver", "rows", "I", false)
  | 3 => ("PullAndPush$Solver", "columns", "I", false)
  | 4 => ("PullAndPush$Solver", "rowLine", "[I", true)
  | 5 => ("PullAndPush$Solver", "rowSide", "[I", true)
  | 6 => ("PullAndPush$Solver", "columnLine", "[I", true)
  | 7 => ("PullAndPush$Solver", "rest", "[J", true)
  | 8 => ("PullAndPush$Solver", "cell", "[[J", true)
  | 9 => ("PullAndPush$Solver", "stayOf", "[I", true)
  | 10 => ("PullAndPush$Solver", "level", "[I", true)
  | 11 => ("PullAndPush$Solver", "above", "[I", true)
  | 12 => ("PullAndPush$Solver", "below", "[I", true)
  | 13 => ("PullAndPush$Solver", "growth", "[J", true)
  | 14 => ("PullAndPush$Solver", "enteringColumn", "I", false)
  | _ => ("PullAndPush$Solver", "enteringWay", "I", false)
def tyX0 : Nat → FieldType := fun k => match k with
  | 0 => .long
  | 1 => .array .long
  | 2 => .int
  | 3 => .int
  | 4 => .array .int
  | 5 => .array .int
  | 6 => .array .int
  | 7 => .array .long
  | 8 => .array (.array .long)
  | 9 => .array .int
  | 10 => .array .int
  | 11 => .array .int
  | 12 => .array .int
  | 13 => .array .long
  | 14 => .int
  | _ => .int
abbrev wsX00 : List Cond := u_ws RX0 TX0 16
theorem nmX0 : ∀ a, a < 16 → ∀ b, b < 16 → a ≠ b → (TX0 a).2.1 ≠ (TX0 b).2.1 := by decide +kernel
theorem tyX0_ok : ∀ k, k < 16 → parseFieldDescriptor (TX0 k).2.2.1 = some (tyX0 k) := by decide +kernel
abbrev cX0_init : ByteArray := prog_2_method_1_code
def yX0_init : MethodName := ⟨RX0, "<init>", "()V"⟩
abbrev cX0_load : ByteArray := prog_2_method_2_code
def yX0_load : MethodName := ⟨RX0, "load", "([LPullAndPush$Wish;I[II)V"⟩
abbrev cX0_addRow : ByteArray := prog_2_method_3_code
def yX0_addRow : MethodName := ⟨RX0, "addRow", "(ILPullAndPush$Wish;)V"⟩
abbrev cX0_copy : ByteArray := prog_2_method_4_code
def yX0_copy : MethodName := ⟨RX0, "copy", "(LPullAndPush$Solver;)V"⟩
abbrev cX0_drop : ByteArray := prog_2_method_5_code
def yX0_drop : MethodName := ⟨RX0, "drop", "(I)V"⟩
abbrev cX0_areMustsMet : ByteArray := prog_2_method_6_code
def yX0_areMustsMet : MethodName := ⟨RX0, "areMustsMet", "()Z"⟩
abbrev cX0_solve : ByteArray := prog_2_method_7_code
def yX0_solve : MethodName := ⟨RX0, "solve", "()V"⟩
abbrev cX0_missOf : ByteArray := prog_2_method_8_code
def yX0_missOf : MethodName := ⟨RX0, "missOf", "(LPullAndPush$Wish;)J"⟩
abbrev cX0_lessenCost : ByteArray := prog_2_method_9_code
def yX0_lessenCost : MethodName := ⟨RX0, "lessenCost", "(I)V"⟩
abbrev cX0_findEntering : ByteArray := prog_2_method_10_code
def yX0_findEntering : MethodName := ⟨RX0, "findEntering", "(I)Z"⟩
abbrev cX0_findGrowth : ByteArray := prog_2_method_11_code
def yX0_findGrowth : MethodName := ⟨RX0, "findGrowth", "(I)V"⟩
abbrev cX0_slopeOf : ByteArray := prog_2_method_12_code
def yX0_slopeOf : MethodName := ⟨RX0, "slopeOf", "(I)J"⟩
abbrev cX0_lessens : ByteArray := prog_2_method_13_code
def yX0_lessens : MethodName := ⟨RX0, "lessens", "(III)Z"⟩
abbrev cX0_findLeaving : ByteArray := prog_2_method_14_code
def yX0_findLeaving : MethodName := ⟨RX0, "findLeaving", "(I)I"⟩
abbrev cX0_firstAtZero : ByteArray := prog_2_method_15_code
def yX0_firstAtZero : MethodName := ⟨RX0, "firstAtZero", "()I"⟩
abbrev cX0_pass : ByteArray := prog_2_method_16_code
def yX0_pass : MethodName := ⟨RX0, "pass", "(I)V"⟩
abbrev cX0_swap : ByteArray := prog_2_method_17_code
def yX0_swap : MethodName := ⟨RX0, "swap", "(I)V"⟩
abbrev cX0_putIn : ByteArray := prog_2_method_18_code
def yX0_putIn : MethodName := ⟨RX0, "putIn", "(IIJJ)V"⟩
def RX1 : String := "PullAndPush$Wish"
def TX1 : u_T := fun k => match k with
  | 0 => ("PullAndPush$Wish", "there", "Z", false)
  | 1 => ("PullAndPush$Wish", "hidden", "Z", false)
  | 2 => ("PullAndPush$Wish", "relation", "I", false)
  | 3 => ("PullAndPush$Wish", "level", "I", false)
  | 4 => ("PullAndPush$Wish", "weight", "I", false)
  | 5 => ("PullAndPush$Wish", "number", "I", false)
  | _ => ("PullAndPush$Wish", "factors", "[I", true)
def tyX1 : Nat → FieldType := fun k => match k with
  | 0 => .boolean
  | 1 => .boolean
  | 2 => .int
  | 3 => .int
  | 4 => .int
  | 5 => .int
  | _ => .array .int
abbrev wsX10 : List Cond := u_ws RX1 TX1 7
theorem nmX1 : ∀ a, a < 7 → ∀ b, b < 7 → a ≠ b → (TX1 a).2.1 ≠ (TX1 b).2.1 := by decide +kernel
theorem tyX1_ok : ∀ k, k < 7 → parseFieldDescriptor (TX1 k).2.2.1 = some (tyX1 k) := by decide +kernel
abbrev cX1_init : ByteArray := prog_3_method_1_code
def yX1_init : MethodName := ⟨RX1, "<init>", "()V"⟩
abbrev cX1_become : ByteArray := prog_3_method_2_code
def yX1_become : MethodName := ⟨RX1, "become", "([IIIII)V"⟩
abbrev cX1_counts : ByteArray := prog_3_method_3_code
def yX1_counts : MethodName := ⟨RX1, "counts", "()Z"⟩
abbrev cX1_costAbove : ByteArray := prog_3_method_4_code
def yX1_costAbove : MethodName := ⟨RX1, "costAbove", "()I"⟩
abbrev cX1_costBelow : ByteArray := prog_3_method_5_code
def yX1_costBelow : MethodName := ⟨RX1, "costBelow", "()I"⟩
def RX2 : String := "PullAndPush"
def TX2 : u_T := fun k => match k with
  | 0 => ("PullAndPush", "stays", "[I", true)
  | 1 => ("PullAndPush", "nextFactors", "[I", true)
  | 2 => ("PullAndPush", "sideFactors", "[I", true)
  | 3 => ("PullAndPush", "pixels", "[J", true)
  | 4 => ("PullAndPush", "wishes", "[LPullAndPush$Wish;", true)
  | 5 => ("PullAndPush", "edges", "I", false)
  | 6 => ("PullAndPush", "latestQuarrel", "I", false)
  | 7 => ("PullAndPush", "setting", "LPullAndPush$Solver;", false)
  | 8 => ("PullAndPush", "trial", "LPullAndPush$Solver;", false)
  | _ => ("PullAndPush", "isSet", "Z", false)
def tyX2 : Nat → FieldType := fun k => match k with
  | 0 => .array .int
  | 1 => .array .int
  | 2 => .array .int
  | 3 => .array .long
  | 4 => .array (.object "PullAndPush$Wish")
  | 5 => .int
  | 6 => .int
  | 7 => .object "PullAndPush$Solver"
  | 8 => .object "PullAndPush$Solver"
  | _ => .boolean
abbrev wsX20 : List Cond := u_ws RX2 TX2 10
theorem nmX2 : ∀ a, a < 10 → ∀ b, b < 10 → a ≠ b → (TX2 a).2.1 ≠ (TX2 b).2.1 := by decide +kernel
theorem tyX2_ok : ∀ k, k < 10 → parseFieldDescriptor (TX2 k).2.2.1 = some (tyX2 k) := by decide +kernel
abbrev cX2_init : ByteArray := prog_1_method_1_code
def yX2_init : MethodName := ⟨RX2, "<init>", "()V"⟩
abbrev cX2_edge : ByteArray := prog_1_method_2_code
def yX2_edge : MethodName := ⟨RX2, "edge", "(I)I"⟩
abbrev cX2_factor : ByteArray := prog_1_method_3_code
def yX2_factor : MethodName := ⟨RX2, "factor", "(II)I"⟩
abbrev cX2_wish : ByteArray := prog_1_method_4_code
def yX2_wish : MethodName := ⟨RX2, "wish", "(IIII)I"⟩
abbrev cX2_side : ByteArray := prog_1_method_5_code
def yX2_side : MethodName := ⟨RX2, "side", "(IIIIII)I"⟩
abbrev cX2_take : ByteArray := prog_1_method_6_code
def yX2_take : MethodName := ⟨RX2, "take", "(I)I"⟩
abbrev cX2_hide : ByteArray := prog_1_method_7_code
def yX2_hide : MethodName := ⟨RX2, "hide", "(IZ)I"⟩
abbrev cX2_drag : ByteArray := prog_1_method_8_code
def yX2_drag : MethodName := ⟨RX2, "drag", "(II)I"⟩
abbrev cX2_strength : ByteArray := prog_1_method_9_code
def yX2_strength : MethodName := ⟨RX2, "strength", "(III)I"⟩
abbrev cX2_told : ByteArray := prog_1_method_10_code
def yX2_told : MethodName := ⟨RX2, "told", "(II)I"⟩
abbrev cX2_count : ByteArray := prog_1_method_11_code
def yX2_count : MethodName := ⟨RX2, "count", "(I)I"⟩
abbrev cX2_quarrel : ByteArray := prog_1_method_12_code
def yX2_quarrel : MethodName := ⟨RX2, "quarrel", "()I"⟩
abbrev cX2_at : ByteArray := prog_1_method_13_code
def yX2_at : MethodName := ⟨RX2, "at", "(II)I"⟩
abbrev cX2_pixel : ByteArray := prog_1_method_14_code
def yX2_pixel : MethodName := ⟨RX2, "pixel", "(I)I"⟩
abbrev cX2_off : ByteArray := prog_1_method_15_code
def yX2_off : MethodName := ⟨RX2, "off", "(II)J"⟩
abbrev cX2_cost : ByteArray := prog_1_method_16_code
def yX2_cost : MethodName := ⟨RX2, "cost", "(II)J"⟩
abbrev cX2_why : ByteArray := prog_1_method_17_code
def yX2_why : MethodName := ⟨RX2, "why", "(I)I"⟩
abbrev cX2_stay : ByteArray := prog_1_method_18_code
def yX2_stay : MethodName := ⟨RX2, "stay", "(I)I"⟩
abbrev cX2_move : ByteArray := prog_1_method_19_code
def yX2_move : MethodName := ⟨RX2, "move", "(II)I"⟩
abbrev cX2_settle : ByteArray := prog_1_method_20_code
def yX2_settle : MethodName := ⟨RX2, "settle", "()I"⟩
abbrev cX2_isWithin : ByteArray := prog_1_method_21_code
def yX2_isWithin : MethodName := ⟨RX2, "isWithin", "(II)Z"⟩
abbrev cX2_isStrength : ByteArray := prog_1_method_22_code
def yX2_isStrength : MethodName := ⟨RX2, "isStrength", "(II)Z"⟩
abbrev cX2_isPart : ByteArray := prog_1_method_23_code
def yX2_isPart : MethodName := ⟨RX2, "isPart", "(I)Z"⟩
abbrev cX2_isEdge : ByteArray := prog_1_method_24_code
def yX2_isEdge : MethodName := ⟨RX2, "isEdge", "(I)Z"⟩
abbrev cX2_isWish : ByteArray := prog_1_method_25_code
def yX2_isWish : MethodName := ⟨RX2, "isWish", "(I)Z"⟩
abbrev cX2_areAllZero : ByteArray := prog_1_method_26_code
def yX2_areAllZero : MethodName := ⟨RX2, "areAllZero", "([II)Z"⟩
abbrev cX2_addWish : ByteArray := prog_1_method_27_code
def yX2_addWish : MethodName := ⟨RX2, "addWish", "([IIIII)I"⟩
abbrev cX2_freeWish : ByteArray := prog_1_method_28_code
def yX2_freeWish : MethodName := ⟨RX2, "freeWish", "()I"⟩
abbrev cX2_countWishes : ByteArray := prog_1_method_29_code
def yX2_countWishes : MethodName := ⟨RX2, "countWishes", "()I"⟩
abbrev cX2_countUnmet : ByteArray := prog_1_method_30_code
def yX2_countUnmet : MethodName := ⟨RX2, "countUnmet", "()I"⟩
abbrev cX2_countingWishes : ByteArray := prog_1_method_31_code
def yX2_countingWishes : MethodName := ⟨RX2, "countingWishes", "(I)I"⟩
abbrev cX2_findSetting : ByteArray := prog_1_method_32_code
def yX2_findSetting : MethodName := ⟨RX2, "findSetting", "()V"⟩
abbrev cX2_clashes : ByteArray := prog_1_method_33_code
def yX2_clashes : MethodName := ⟨RX2, "clashes", "(LPullAndPush$Wish;)Z"⟩
abbrev cX2_leastQuarrel : ByteArray := prog_1_method_34_code
def yX2_leastQuarrel : MethodName := ⟨RX2, "leastQuarrel", "()I"⟩
abbrev cX2_isNearerWithout : ByteArray := prog_1_method_35_code
def yX2_isNearerWithout : MethodName := ⟨RX2, "isNearerWithout", "(LPullAndPush$Wish;I)Z"⟩
abbrev cX2_pixelOf : ByteArray := prog_1_method_36_code
def yX2_pixelOf : MethodName := ⟨RX2, "pixelOf", "(I)J"⟩
abbrev cX2_inLeastTerms : ByteArray := prog_1_method_37_code
def yX2_inLeastTerms : MethodName := ⟨RX2, "inLeastTerms", "(JJI)J"⟩
abbrev cX2_greatestDivisor : ByteArray := prog_1_method_38_code
def yX2_greatestDivisor : MethodName := ⟨RX2, "greatestDivisor", "(JJ)J"⟩
def RX3 : String := "PullAndPushModel"
def TX3 : u_T := fun k => match k with
  | 0 => ("PullAndPushModel", "edges", "I", false)
  | 1 => ("PullAndPushModel", "stays", "[I", true)
  | 2 => ("PullAndPushModel", "factors", "[I", true)
  | 3 => ("PullAndPushModel", "isThere", "[Z", true)
  | 4 => ("PullAndPushModel", "relation", "[I", true)
  | 5 => ("PullAndPushModel", "level", "[I", true)
  | 6 => ("PullAndPushModel", "weight", "[I", true)
  | 7 => ("PullAndPushModel", "number", "[I", true)
  | 8 => ("PullAndPushModel", "isHidden", "[Z", true)
  | 9 => ("PullAndPushModel", "factorOf", "[I", true)
  | 10 => ("PullAndPushModel", "wishes", "I", false)
  | 11 => ("PullAndPushModel", "quarrel", "I", false)
  | 12 => ("PullAndPushModel", "rows", "[J", true)
  | 13 => ("PullAndPushModel", "point", "[J", true)
  | 14 => ("PullAndPushModel", "under", "J", false)
  | 15 => ("PullAndPushModel", "best", "[J", true)
  | 16 => ("PullAndPushModel", "bestUnder", "J", false)
  | 17 => ("PullAndPushModel", "costs", "[J", true)
  | 18 => ("PullAndPushModel", "bestCosts", "[J", true)
  | 19 => ("PullAndPushModel", "live", "I", false)
  | _ => ("PullAndPushModel", "sums", "[I", true)
def tyX3 : Nat → FieldType := fun k => match k with
  | 0 => .int
  | 1 => .array .int
  | 2 => .array .int
  | 3 => .array .boolean
  | 4 => .array .int
  | 5 => .array .int
  | 6 => .array .int
  | 7 => .array .int
  | 8 => .array .boolean
  | 9 => .array .int
  | 10 => .int
  | 11 => .int
  | 12 => .array .long
  | 13 => .array .long
  | 14 => .long
  | 15 => .array .long
  | 16 => .long
  | 17 => .array .long
  | 18 => .array .long
  | 19 => .int
  | _ => .array .int
abbrev wsX30 : List Cond := u_ws RX3 TX3 21
theorem nmX3 : ∀ a, a < 21 → ∀ b, b < 21 → a ≠ b → (TX3 a).2.1 ≠ (TX3 b).2.1 := by decide +kernel
theorem tyX3_ok : ∀ k, k < 21 → parseFieldDescriptor (TX3 k).2.2.1 = some (tyX3 k) := by decide +kernel
abbrev cX3_init : ByteArray := prog_5_method_1_code
def yX3_init : MethodName := ⟨RX3, "<init>", "()V"⟩
abbrev cX3_in : ByteArray := prog_5_method_3_code
def yX3_in : MethodName := ⟨RX3, "in", "(JJJ)Z"⟩
abbrev cX3_size : ByteArray := prog_5_method_4_code
def yX3_size : MethodName := ⟨RX3, "size", "(J)J"⟩
abbrev cX3_divisor : ByteArray := prog_5_method_5_code
def yX3_divisor : MethodName := ⟨RX3, "divisor", "(JJ)J"⟩
abbrev cX3_putRow : ByteArray := prog_5_method_6_code
def yX3_putRow : MethodName := ⟨RX3, "putRow", "(II)V"⟩
abbrev cX3_swapRows : ByteArray := prog_5_method_7_code
def yX3_swapRows : MethodName := ⟨RX3, "swapRows", "(II)V"⟩
abbrev cX3_meet : ByteArray := prog_5_method_8_code
def yX3_meet : MethodName := ⟨RX3, "meet", "()Z"⟩
abbrev cX3_offBy : ByteArray := prog_5_method_9_code
def yX3_offBy : MethodName := ⟨RX3, "offBy", "(I[JJ)J"⟩
abbrev cX3_isLive : ByteArray := prog_5_method_10_code
def yX3_isLive : MethodName := ⟨RX3, "isLive", "(I)Z"⟩
abbrev cX3_weigh : ByteArray := prog_5_method_11_code
def yX3_weigh : MethodName := ⟨RX3, "weigh", "()Z"⟩
abbrev cX3_isLess : ByteArray := prog_5_method_12_code
def yX3_isLess : MethodName := ⟨RX3, "isLess", "()Z"⟩
abbrev cX3_solve : ByteArray := prog_5_method_13_code
def yX3_solve : MethodName := ⟨RX3, "solve", "()Z"⟩
abbrev cX3_allLive : ByteArray := prog_5_method_14_code
def yX3_allLive : MethodName := ⟨RX3, "allLive", "()I"⟩
abbrev cX3_set : ByteArray := prog_5_method_15_code
def yX3_set : MethodName := ⟨RX3, "set", "()V"⟩
abbrev cX3_clashes : ByteArray := prog_5_method_16_code
def yX3_clashes : MethodName := ⟨RX3, "clashes", "()Z"⟩
abbrev cX3_noEdge : ByteArray := prog_5_method_17_code
def yX3_noEdge : MethodName := ⟨RX3, "noEdge", "(I)Z"⟩
abbrev cX3_noWish : ByteArray := prog_5_method_18_code
def yX3_noWish : MethodName := ⟨RX3, "noWish", "(I)Z"⟩
abbrev cX3_edge : ByteArray := prog_5_method_19_code
def yX3_edge : MethodName := ⟨RX3, "edge", "(I)I"⟩
abbrev cX3_factor : ByteArray := prog_5_method_20_code
def yX3_factor : MethodName := ⟨RX3, "factor", "(II)I"⟩
abbrev cX3_add : ByteArray := prog_5_method_21_code
def yX3_add : MethodName := ⟨RX3, "add", "(IIII)I"⟩
abbrev cX3_isStrength : ByteArray := prog_5_method_22_code
def yX3_isStrength : MethodName := ⟨RX3, "isStrength", "(II)Z"⟩
abbrev cX3_wish : ByteArray := prog_5_method_23_code
def yX3_wish : MethodName := ⟨RX3, "wish", "(IIII)I"⟩
abbrev cX3_side : ByteArray := prog_5_method_24_code
def yX3_side : MethodName := ⟨RX3, "side", "(IIIIII)I"⟩
abbrev cX3_take : ByteArray := prog_5_method_25_code
def yX3_take : MethodName := ⟨RX3, "take", "(I)I"⟩
abbrev cX3_hide : ByteArray := prog_5_method_26_code
def yX3_hide : MethodName := ⟨RX3, "hide", "(IZ)I"⟩
abbrev cX3_drag : ByteArray := prog_5_method_27_code
def yX3_drag : MethodName := ⟨RX3, "drag", "(II)I"⟩
abbrev cX3_strength : ByteArray := prog_5_method_28_code
def yX3_strength : MethodName := ⟨RX3, "strength", "(III)I"⟩
abbrev cX3_told : ByteArray := prog_5_method_29_code
def yX3_told : MethodName := ⟨RX3, "told", "(II)I"⟩
abbrev cX3_count : ByteArray := prog_5_method_30_code
def yX3_count : MethodName := ⟨RX3, "count", "(I)I"⟩
abbrev cX3_quarrel : ByteArray := prog_5_method_31_code
def yX3_quarrel : MethodName := ⟨RX3, "quarrel", "()I"⟩
abbrev cX3_at : ByteArray := prog_5_method_32_code
def yX3_at : MethodName := ⟨RX3, "at", "(II)I"⟩
abbrev cX3_floor : ByteArray := prog_5_method_33_code
def yX3_floor : MethodName := ⟨RX3, "floor", "(JJ)J"⟩
abbrev cX3_pixelOf : ByteArray := prog_5_method_34_code
def yX3_pixelOf : MethodName := ⟨RX3, "pixelOf", "(I)J"⟩
abbrev cX3_pixel : ByteArray := prog_5_method_35_code
def yX3_pixel : MethodName := ⟨RX3, "pixel", "(I)I"⟩
abbrev cX3_off : ByteArray := prog_5_method_36_code
def yX3_off : MethodName := ⟨RX3, "off", "(II)J"⟩
abbrev cX3_cost : ByteArray := prog_5_method_37_code
def yX3_cost : MethodName := ⟨RX3, "cost", "(II)J"⟩
abbrev cX3_why : ByteArray := prog_5_method_38_code
def yX3_why : MethodName := ⟨RX3, "why", "(I)I"⟩
abbrev cX3_stay : ByteArray := prog_5_method_39_code
def yX3_stay : MethodName := ⟨RX3, "stay", "(I)I"⟩
abbrev cX3_move : ByteArray := prog_5_method_40_code
def yX3_move : MethodName := ⟨RX3, "move", "(II)I"⟩
abbrev cX3_settle : ByteArray := prog_5_method_41_code
def yX3_settle : MethodName := ⟨RX3, "settle", "()I"⟩
def RJ6 : String := "java/lang/Integer"
def TJ6 : u_T := fun k => match k with
  | _ => ("", "", "", false)
def tyJ6 : Nat → FieldType := fun k => match k with
  | _ => .int
abbrev wsJ60 : List Cond := u_ws RJ6 TJ6 0
theorem nmJ6 : ∀ a, a < 0 → ∀ b, b < 0 → a ≠ b → (TJ6 a).2.1 ≠ (TJ6 b).2.1 := by decide +kernel
theorem tyJ6_ok : ∀ k, k < 0 → parseFieldDescriptor (TJ6 k).2.2.1 = some (tyJ6 k) := by decide +kernel
abbrev cJ6_bitCount_0f7a4 : ByteArray := prog_6_method_49_code
def yJ6_bitCount_0f7a4 : MethodName := ⟨RJ6, "bitCount", "(I)I"⟩
def RJ9 : String := "java/lang/Math"
def TJ9 : u_T := fun k => match k with
  | _ => ("", "", "", false)
def tyJ9 : Nat → FieldType := fun k => match k with
  | _ => .int
abbrev wsJ90 : List Cond := u_ws RJ9 TJ9 0
theorem nmJ9 : ∀ a, a < 0 → ∀ b, b < 0 → a ≠ b → (TJ9 a).2.1 ≠ (TJ9 b).2.1 := by decide +kernel
theorem tyJ9_ok : ∀ k, k < 0 → parseFieldDescriptor (TJ9 k).2.2.1 = some (tyJ9 k) := by decide +kernel
abbrev cJ9_floorDiv_f86c9 : ByteArray := prog_7_method_49_code
def yJ9_floorDiv_f86c9 : MethodName := ⟨RJ9, "floorDiv", "(JJ)J"⟩
abbrev cJ9_abs_067f4 : ByteArray := prog_7_method_61_code
def yJ9_abs_067f4 : MethodName := ⟨RJ9, "abs", "(J)J"⟩
abbrev cJ9_max_f86c9 : ByteArray := prog_7_method_66_code
def yJ9_max_f86c9 : MethodName := ⟨RJ9, "max", "(JJ)J"⟩
abbrev cJ9_min_7cf53 : ByteArray := prog_7_method_69_code
def yJ9_min_7cf53 : MethodName := ⟨RJ9, "min", "(II)I"⟩
def RJ10 : String := "java/lang/System"
def TJ10 : u_T := fun k => match k with
  | _ => ("", "", "", false)
def tyJ10 : Nat → FieldType := fun k => match k with
  | _ => .int
abbrev wsJ100 : List Cond := u_ws RJ10 TJ10 0
theorem nmJ10 : ∀ a, a < 0 → ∀ b, b < 0 → a ≠ b → (TJ10 a).2.1 ≠ (TJ10 b).2.1 := by decide +kernel
theorem tyJ10_ok : ∀ k, k < 0 → parseFieldDescriptor (TJ10 k).2.2.1 = some (tyJ10 k) := by decide +kernel
def RJ7 : String := "java/util/Arrays"
def TJ7 : u_T := fun k => match k with
  | _ => ("", "", "", false)
def tyJ7 : Nat → FieldType := fun k => match k with
  | _ => .int
abbrev wsJ70 : List Cond := u_ws RJ7 TJ7 0
theorem nmJ7 : ∀ a, a < 0 → ∀ b, b < 0 → a ≠ b → (TJ7 a).2.1 ≠ (TJ7 b).2.1 := by decide +kernel
theorem tyJ7_ok : ∀ k, k < 0 → parseFieldDescriptor (TJ7 k).2.2.1 = some (tyJ7 k) := by decide +kernel
abbrev cJ7_fill_d0a16 : ByteArray := prog_9_method_101_code
def yJ7_fill_d0a16 : MethodName := ⟨RJ7, "fill", "([JJ)V"⟩
abbrev cJ7_fill_53178 : ByteArray := prog_9_method_103_code
def yJ7_fill_53178 : MethodName := ⟨RJ7, "fill", "([II)V"⟩
def RL : String := "PullAndPushLaw"
abbrev cL_law : ByteArray := code
def yL_law : MethodName := ⟨RL, "law", "([I)Z"⟩
theorem inX0 : ∀ w ∈ wsX00, w ∈ lw_tbl := by decide +kernel
theorem inX1 : ∀ w ∈ wsX10, w ∈ lw_tbl := by decide +kernel
theorem inX2 : ∀ w ∈ wsX20, w ∈ lw_tbl := by decide +kernel
theorem inX3 : ∀ w ∈ wsX30, w ∈ lw_tbl := by decide +kernel
theorem inJ6 : ∀ w ∈ wsJ60, w ∈ lw_tbl := by decide +kernel
theorem inJ9 : ∀ w ∈ wsJ90, w ∈ lw_tbl := by decide +kernel
theorem inJ10 : ∀ w ∈ wsJ100, w ∈ lw_tbl := by decide +kernel
theorem inJ7 : ∀ w ∈ wsJ70, w ∈ lw_tbl := by decide +kernel
abbrev vwCl : List vw_C := [(RX0, TX0, 16), (RX1, TX1, 7), (RX2, TX2, 10), (RX3, TX3, 21)]
end
section
def iX0_load : List (Nat × Instr × Nat) := [(0, .aload_n 0, 1), (1, .lconst 1, 1), (2, .putfield 9, 3), (5, .aload_n 0, 1), (6, .iload 4, 2), (8, .iconst 5, 1), (9, .invokestatic 52, 3), (12, .putfield 58, 3), (15, .iconst 0, 1), (16, .istore 5, 2), (18, .iload 5, 2), (20, .aload_n 0, 1), (21, .getfield 58, 3), (24, .if_icmp .ge 68, 3), (27, .aload_n 0, 1), (28, .getfield 37, 3), (31, .iload 5, 2), (33, .aload_n 3, 1), (34, .iload 5, 2), (36, .iaload, 1), (37, .iastore, 1), (38, .aload_n 0, 1), (39, .getfield 26, 3), (42, .iload 5, 2), (44, .bipush 9, 2), (46, .iload 5, 2), (48, .iadd, 1), (49, .iastore, 1), (50, .aload_n 0, 1), (51, .getfield 40, 3), (54, .bipush 9, 2), (56, .iload 5, 2), (58, .iadd, 1), (59, .iconst 4, 1), (60, .iload 5, 2), (62, .iadd, 1), (63, .iastore, 1), (64, .aload_n 0, 1), (65, .getfield 43, 3), (68, .bipush 9, 2), (70, .iload 5, 2), (72, .iadd, 1), (73, .iconst 1, 1), (74, .iastore, 1), (75, .aload_n 0, 1), (76, .getfield 46, 3), (79, .bipush 9, 2), (81, .iload 5, 2), (83, .iadd, 1), (84, .iconst 1, 1), (85, .iastore, 1), (86, .iinc 5 1, 3), (89, .goto (-71), 3), (92, .aload_n 0, 1), (93, .iconst 0, 1), (94, .putfield 62, 3), (97, .iconst 0, 1), (98, .istore 5, 2), (100, .iload 5, 2), (102, .bipush 9, 2), (104, .if_icmp .ge 36, 3), (107, .iload 5, 2), (109, .aload_n 1, 1), (110, .arraylength, 1), (111, .if_icmp .ge 29, 3), (114, .iload_n 2, 1), (115, .iload 5, 2), (117, .ishr, 1), (118, .iconst 1, 1), (119, .iand, 1), (120, .iconst 1, 1), (121, .if_icmp .ne 13, 3), (124, .aload_n 0, 1), (125, .iload 5, 2), (127, .aload_n 1, 1), (128, .iload 5, 2), (130, .aaload, 1), (131, .invokevirtual 65, 3), (134, .iinc 5 1, 3), (137, .goto (-37), 3), (140, .return_, 1)]
def iX0_addRow : List (Nat × Instr × Nat) := [(0, .aload_n 0, 1), (1, .getfield 40, 3), (4, .iload_n 1, 1), (5, .aload_n 2, 1), (6, .getfield 69, 3), (9, .iastore, 1), (10, .aload_n 0, 1), (11, .getfield 43, 3), (14, .iload_n 1, 1), (15, .aload_n 2, 1), (16, .invokevirtual 73, 3), (19, .iastore, 1), (20, .aload_n 0, 1), (21, .getfield 46, 3), (24, .iload_n 1, 1), (25, .aload_n 2, 1), (26, .invokevirtual 77, 3), (29, .iastore, 1), (30, .aload_n 2, 1), (31, .getfield 80, 3), (34, .ineg, 1), (35, .i2l, 1), (36, .lstore_n 3, 1), (37, .iconst 0, 1), (38, .istore 5, 2), (40, .iload 5, 2), (42, .aload_n 0, 1), (43, .getfield 58, 3), (46, .if_icmp .ge 49, 3), (49, .aload_n 0, 1), (50, .getfield 34, 3), (53, .aload_n 0, 1), (54, .getfield 62, 3), (57, .aaload, 1), (58, .iload 5, 2), (60, .aload_n 2, 1), (61, .getfield 83, 3), (64, .iload 5, 2), (66, .iaload, 1), (67, .i2l, 1), (68, .lastore, 1), (69, .lload_n 3, 1), (70, .aload_n 2, 1), (71, .getfield 83, 3), (74, .iload 5, 2), (76, .iaload, 1), (77, .i2l, 1), (78, .aload_n 0, 1), (79, .getfield 37, 3), (82, .iload 5, 2), (84, .iaload, 1), (85, .i2l, 1), (86, .lmul, 1), (87, .ladd, 1), (88, .lstore_n 3, 1), (89, .iinc 5 1, 3), (92, .goto (-52), 3), (95, .aload_n 0, 1), (96, .getfield 29, 3), (99, .aload_n 0, 1), (100, .getfield 62, 3), (103, .lload_n 3, 1), (104, .lastore, 1), (105, .aload_n 0, 1), (106, .getfield 23, 3), (109, .aload_n 0, 1), (110, .getfield 62, 3), (113, .lload_n 3, 1), (114, .lconst 0, 1), (115, .lcmp, 1), (116, .ifCond .ge 7, 3), (119, .iconst (-1), 1), (120, .goto 4, 3), (123, .iconst 1, 1), (124, .iastore, 1), (125, .aload_n 0, 1), (126, .getfield 19, 3), (129, .aload_n 0, 1), (130, .getfield 62, 3), (133, .iload_n 1, 1), (134, .iastore, 1), (135, .aload_n 0, 1), (136, .dup, 1), (137, .getfield 62, 3), (140, .iconst 1, 1), (141, .iadd, 1), (142, .putfield 62, 3), (145, .return_, 1)]
def iX0_copy : List (Nat × Instr × Nat) := [(0, .aload_n 0, 1), (1, .aload_n 1, 1), (2, .getfield 9, 3), (5, .putfield 9, 3), (8, .aload_n 0, 1), (9, .aload_n 1, 1), (10, .getfield 62, 3), (13, .putfield 62, 3), (16, .aload_n 0, 1), (17, .aload_n 1, 1), (18, .getfield 58, 3), (21, .putfield 58, 3), (24, .aload_n 1, 1), (25, .getfield 19, 3), (28, .iconst 0, 1), (29, .aload_n 0, 1), (30, .getfield 19, 3), (33, .iconst 0, 1), (34, .bipush 9, 2), (36, .invokestatic 86, 3), (39, .aload_n 1, 1), (40, .getfield 23, 3), (43, .iconst 0, 1), (44, .aload_n 0, 1), (45, .getfield 23, 3), (48, .iconst 0, 1), (49, .bipush 9, 2), (51, .invokestatic 86, 3), (54, .aload_n 1, 1), (55, .getfield 26, 3), (58, .iconst 0, 1), (59, .aload_n 0, 1), (60, .getfield 26, 3), (63, .iconst 0, 1), (64, .iconst 5, 1), (65, .invokestatic 86, 3), (68, .aload_n 1, 1), (69, .getfield 29, 3), (72, .iconst 0, 1), (73, .aload_n 0, 1), (74, .getfield 29, 3), (77, .iconst 0, 1), (78, .bipush 9, 2), (80, .invokestatic 86, 3), (83, .aload_n 1, 1), (84, .getfield 37, 3), (87, .iconst 0, 1), (88, .aload_n 0, 1), (89, .getfield 37, 3), (92, .iconst 0, 1), (93, .iconst 5, 1), (94, .invokestatic 86, 3), (97, .aload_n 1, 1), (98, .getfield 40, 3), (101, .iconst 0, 1), (102, .aload_n 0, 1), (103, .getfield 40, 3), (106, .iconst 0, 1), (107, .bipush 14, 2), (109, .invokestatic 86, 3), (112, .aload_n 1, 1), (113, .getfield 43, 3), (116, .iconst 0, 1), (117, .aload_n 0, 1), (118, .getfield 43, 3), (121, .iconst 0, 1), (122, .bipush 14, 2), (124, .invokestatic 86, 3), (127, .aload_n 1, 1), (128, .getfield 46, 3), (131, .iconst 0, 1), (132, .aload_n 0, 1), (133, .getfield 46, 3), (136, .iconst 0, 1), (137, .bipush 14, 2), (139, .invokestatic 86, 3), (142, .iconst 0, 1), (143, .istore_n 2, 1), (144, .iload_n 2, 1), (145, .aload_n 0, 1), (146, .getfield 62, 3), (149, .if_icmp .ge 27, 3), (152, .aload_n 1, 1), (153, .getfield 34, 3), (156, .iload_n 2, 1), (157, .aaload, 1), (158, .iconst 0, 1), (159, .aload_n 0, 1), (160, .getfield 34, 3), (163, .iload_n 2, 1), (164, .aaload, 1), (165, .iconst 0, 1), (166, .iconst 5, 1), (167, .invokestatic 86, 3), (170, .iinc 2 1, 3), (173, .goto (-29), 3), (176, .return_, 1)]
def iX0_drop : List (Nat × Instr × Nat) := [(0, .aload_n 0, 1), (1, .getfield 43, 3), (4, .iload_n 1, 1), (5, .iconst 0, 1), (6, .iastore, 1), (7, .aload_n 0, 1), (8, .getfield 46, 3), (11, .iload_n 1, 1), (12, .iconst 0, 1), (13, .iastore, 1), (14, .return_, 1)]
def iX0_areMustsMet : List (Nat × Instr × Nat) := [(0, .iconst 0, 1), (1, .istore_n 1, 1), (2, .iload_n 1, 1), (3, .aload_n 0, 1), (4, .getfield 62, 3), (7, .if_icmp .ge 46, 3), (10, .aload_n 0, 1), (11, .getfield 40, 3), (14, .aload_n 0, 1), (15, .getfield 19, 3), (18, .iload_n 1, 1), (19, .iaload, 1), (20, .iaload, 1), (21, .ifCond .ne 26, 3), (24, .aload_n 0, 1), (25, .getfield 29, 3), (28, .iload_n 1, 1), (29, .laload, 1), (30, .lconst 0, 1), (31, .lcmp, 1), (32, .ifCond .eq 15, 3), (35, .aload_n 0, 1), (36, .iload_n 1, 1), (37, .invokevirtual 92, 3), (40, .lconst 0, 1), (41, .lcmp, 1), (42, .ifCond .eq 5, 3), (45, .iconst 0, 1), (46, .ireturn, 1), (47, .iinc 1 1, 3), (50, .goto (-48), 3), (53, .iconst 1, 1), (54, .ireturn, 1)]
def iX0_solve : List (Nat × Instr × Nat) := [(0, .aload_n 0, 1), (1, .iconst 4, 1), (2, .aload_n 0, 1), (3, .getfield 58, 3), (6, .iadd, 1), (7, .invokevirtual 96, 3), (10, .iconst 0, 1), (11, .istore_n 1, 1), (12, .iload_n 1, 1), (13, .aload_n 0, 1), (14, .getfield 58, 3), (17, .if_icmp .ge 27, 3), (20, .aload_n 0, 1), (21, .getfield 15, 3), (24, .iload_n 1, 1), (25, .aload_n 0, 1), (26, .getfield 37, 3), (29, .iload_n 1, 1), (30, .iaload, 1), (31, .i2l, 1), (32, .aload_n 0, 1), (33, .getfield 9, 3), (36, .lmul, 1), (37, .lastore, 1), (38, .iinc 1 1, 3), (41, .goto (-29), 3), (44, .iconst 0, 1), (45, .istore_n 1, 1), (46, .iload_n 1, 1), (47, .aload_n 0, 1), (48, .getfield 62, 3), (51, .if_icmp .ge 43, 3), (54, .aload_n 0, 1), (55, .getfield 19, 3), (58, .iload_n 1, 1), (59, .iaload, 1), (60, .bipush 9, 2), (62, .if_icmp .lt 26, 3), (65, .aload_n 0, 1), (66, .getfield 15, 3), (69, .aload_n 0, 1), (70, .getfield 19, 3), (73, .iload_n 1, 1), (74, .iaload, 1), (75, .bipush 9, 2), (77, .isub, 1), (78, .dup2, 1), (79, .laload, 1), (80, .aload_n 0, 1), (81, .getfield 29, 3), (84, .iload_n 1, 1), (85, .laload, 1), (86, .ladd, 1), (87, .lastore, 1), (88, .iinc 1 1, 3), (91, .goto (-45), 3), (94, .return_, 1)]
def iX0_missOf : List (Nat × Instr × Nat) := [(0, .aload_n 1, 1), (1, .getfield 80, 3), (4, .ineg, 1), (5, .i2l, 1), (6, .aload_n 0, 1), (7, .getfield 9, 3), (10, .lmul, 1), (11, .lstore_n 2, 1), (12, .iconst 0, 1), (13, .istore 4, 2), (15, .iload 4, 2), (17, .aload_n 0, 1), (18, .getfield 58, 3), (21, .if_icmp .ge 28, 3), (24, .lload_n 2, 1), (25, .aload_n 1, 1), (26, .getfield 83, 3), (29, .iload 4, 2), (31, .iaload, 1), (32, .i2l, 1), (33, .aload_n 0, 1), (34, .getfield 15, 3), (37, .iload 4, 2), (39, .laload, 1), (40, .lmul, 1), (41, .ladd, 1), (42, .lstore_n 2, 1), (43, .iinc 4 1, 3), (46, .goto (-31), 3), (49, .aload_n 1, 1), (50, .getfield 100, 3), (53, .iconst 1, 1), (54, .if_icmp .ne 9, 3), (57, .lload_n 2, 1), (58, .lconst 0, 1), (59, .invokestatic 103, 3), (62, .lreturn, 1), (63, .aload_n 1, 1), (64, .getfield 100, 3), (67, .iconst 2, 1), (68, .if_icmp .ne 12, 3), (71, .lload_n 2, 1), (72, .lneg, 1), (73, .lconst 0, 1), (74, .invokestatic 103, 3), (77, .goto 7, 3), (80, .lload_n 2, 1), (81, .invokestatic 107, 3), (84, .lreturn, 1)]
def iX0_lessenCost : List (Nat × Instr × Nat) := [(0, .iconst 0, 1), (1, .istore_n 2, 1), (2, .iload_n 2, 1), (3, .ldc 111, 2), (5, .if_icmp .ge 35, 3), (8, .aload_n 0, 1), (9, .iload_n 1, 1), (10, .invokevirtual 112, 3), (13, .ifCond .ne 4, 3), (16, .return_, 1), (17, .aload_n 0, 1), (18, .iload_n 1, 1), (19, .invokevirtual 116, 3), (22, .istore_n 3, 1), (23, .iload_n 3, 1), (24, .iconst (-1), 1), (25, .if_icmp .ne 4, 3), (28, .return_, 1), (29, .aload_n 0, 1), (30, .iload_n 3, 1), (31, .invokevirtual 120, 3), (34, .iinc 2 1, 3), (37, .goto (-35), 3), (40, .return_, 1)]
def iX0_findEntering : List (Nat × Instr × Nat) := [(0, .aload_n 0, 1), (1, .iload_n 1, 1), (2, .invokevirtual 123, 3), (5, .bipush 28, 2), (7, .istore_n 2, 1), (8, .iconst 0, 1), (9, .istore_n 3, 1), (10, .iload_n 3, 1), (11, .aload_n 0, 1), (12, .getfield 58, 3), (15, .if_icmp .ge 90, 3), (18, .aload_n 0, 1), (19, .getfield 26, 3), (22, .iload_n 3, 1), (23, .iaload, 1), (24, .istore 4, 2), (26, .iconst 2, 1), (27, .iload 4, 2), (29, .imul, 1), (30, .iload_n 2, 1), (31, .if_icmp .ge 31, 3), (34, .aload_n 0, 1), (35, .iload_n 3, 1), (36, .iconst 1, 1), (37, .iload_n 1, 1), (38, .invokevirtual 126, 3), (41, .ifCond .eq 21, 3), (44, .iconst 2, 1), (45, .iload 4, 2), (47, .imul, 1), (48, .istore_n 2, 1), (49, .aload_n 0, 1), (50, .iload_n 3, 1), (51, .putfield 130, 3), (54, .aload_n 0, 1), (55, .iconst 1, 1), (56, .putfield 133, 3), (59, .goto 40, 3), (62, .iconst 2, 1), (63, .iload 4, 2), (65, .imul, 1), (66, .iconst 1, 1), (67, .iadd, 1), (68, .iload_n 2, 1), (69, .if_icmp .ge 30, 3), (72, .aload_n 0, 1), (73, .iload_n 3, 1), (74, .iconst (-1), 1), (75, .iload_n 1, 1), (76, .invokevirtual 126, 3), (79, .ifCond .eq 20, 3), (82, .iconst 2, 1), (83, .iload 4, 2), (85, .imul, 1), (86, .iconst 1, 1), (87, .iadd, 1), (88, .istore_n 2, 1), (89, .aload_n 0, 1), (90, .iload_n 3, 1), (91, .putfield 130, 3), (94, .aload_n 0, 1), (95, .iconst (-1), 1), (96, .putfield 133, 3), (99, .iinc 3 1, 3), (102, .goto (-92), 3), (105, .iload_n 2, 1), (106, .bipush 28, 2), (108, .if_icmp .ge 7, 3), (111, .iconst 1, 1), (112, .goto 4, 3), (115, .iconst 0, 1), (116, .ireturn, 1)]
def iX0_findGrowth : List (Nat × Instr × Nat) := [(0, .aload_n 0, 1), (1, .getfield 49, 3), (4, .lconst 0, 1), (5, .invokestatic 136, 3), (8, .iconst 0, 1), (9, .istore_n 2, 1), (10, .iload_n 2, 1), (11, .aload_n 0, 1), (12, .getfield 62, 3), (15, .if_icmp .ge 84, 3), (18, .aload_n 0, 1), (19, .getfield 40, 3), (22, .aload_n 0, 1), (23, .getfield 19, 3), (26, .iload_n 2, 1), (27, .iaload, 1), (28, .iaload, 1), (29, .istore_n 3, 1), (30, .aload_n 0, 1), (31, .iload_n 2, 1), (32, .invokevirtual 92, 3), (35, .lstore 4, 2), (37, .lload 4, 2), (39, .lconst 0, 1), (40, .lcmp, 1), (41, .ifCond .eq 52, 3), (44, .iload_n 3, 1), (45, .iload_n 1, 1), (46, .if_icmp .ge 47, 3), (49, .iconst 0, 1), (50, .istore 6, 2), (52, .iload 6, 2), (54, .aload_n 0, 1), (55, .getfield 58, 3), (58, .if_icmp .ge 35, 3), (61, .aload_n 0, 1), (62, .getfield 49, 3), (65, .iload_n 3, 1), (66, .iconst 5, 1), (67, .imul, 1), (68, .iload 6, 2), (70, .iadd, 1), (71, .dup2, 1), (72, .laload, 1), (73, .lload 4, 2), (75, .aload_n 0, 1), (76, .getfield 34, 3), (79, .iload_n 2, 1), (80, .aaload, 1), (81, .iload 6, 2), (83, .laload, 1), (84, .lmul, 1), (85, .ladd, 1), (86, .lastore, 1), (87, .iinc 6 1, 3), (90, .goto (-38), 3), (93, .iinc 2 1, 3), (96, .goto (-86), 3), (99, .return_, 1)]
def iX0_slopeOf : List (Nat × Instr × Nat) := [(0, .aload_n 0, 1), (1, .getfield 23, 3), (4, .iload_n 1, 1), (5, .iaload, 1), (6, .ifCond .le 18, 3), (9, .aload_n 0, 1), (10, .getfield 43, 3), (13, .aload_n 0, 1), (14, .getfield 19, 3), (17, .iload_n 1, 1), (18, .iaload, 1), (19, .iaload, 1), (20, .i2l, 1), (21, .goto 16, 3), (24, .aload_n 0, 1), (25, .getfield 46, 3), (28, .aload_n 0, 1), (29, .getfield 19, 3), (32, .iload_n 1, 1), (33, .iaload, 1), (34, .iaload, 1), (35, .ineg, 1), (36, .i2l, 1), (37, .lreturn, 1)]
def iX0_lessens : List (Nat × Instr × Nat) := [(0, .aload_n 0, 1), (1, .getfield 26, 3), (4, .iload_n 1, 1), (5, .iaload, 1), (6, .istore 4, 2), (8, .iconst 0, 1), (9, .istore 5, 2), (11, .iload 5, 2), (13, .iload_n 3, 1), (14, .if_icmp .ge 89, 3), (17, .iload_n 2, 1), (18, .i2l, 1), (19, .aload_n 0, 1), (20, .getfield 49, 3), (23, .iload 5, 2), (25, .iconst 5, 1), (26, .imul, 1), (27, .iload_n 1, 1), (28, .iadd, 1), (29, .laload, 1), (30, .lmul, 1), (31, .lstore 6, 2), (33, .iload 5, 2), (35, .aload_n 0, 1), (36, .getfield 40, 3), (39, .iload 4, 2), (41, .iaload, 1), (42, .if_icmp .ne 35, 3), (45, .lload 6, 2), (47, .aload_n 0, 1), (48, .getfield 9, 3), (51, .iload_n 2, 1), (52, .ifCond .le 13, 3), (55, .aload_n 0, 1), (56, .getfield 43, 3), (59, .iload 4, 2), (61, .iaload, 1), (62, .goto 10, 3), (65, .aload_n 0, 1), (66, .getfield 46, 3), (69, .iload 4, 2), (71, .iaload, 1), (72, .i2l, 1), (73, .lmul, 1), (74, .ladd, 1), (75, .lstore 6, 2), (77, .lload 6, 2), (79, .lconst 0, 1), (80, .lcmp, 1), (81, .ifCond .eq 16, 3), (84, .lload 6, 2), (86, .lconst 0, 1), (87, .lcmp, 1), (88, .ifCond .ge 7, 3), (91, .iconst 1, 1), (92, .goto 4, 3), (95, .iconst 0, 1), (96, .ireturn, 1), (97, .iinc 5 1, 3), (100, .goto (-89), 3), (103, .iconst 0, 1), (104, .ireturn, 1)]
def iX0_findLeaving : List (Nat × Instr × Nat) := [(0, .aload_n 0, 1), (1, .invokevirtual 142, 3), (4, .istore_n 2, 1), (5, .iload_n 2, 1), (6, .iconst (-1), 1), (7, .if_icmp .eq 14, 3), (10, .aload_n 0, 1), (11, .getfield 29, 3), (14, .iload_n 2, 1), (15, .laload, 1), (16, .lconst 0, 1), (17, .lcmp, 1), (18, .ifCond .ne 5, 3), (21, .iload_n 2, 1), (22, .ireturn, 1), (23, .iconst 0, 1), (24, .istore_n 3, 1), (25, .iload_n 3, 1), (26, .aload_n 0, 1), (27, .getfield 62, 3), (30, .if_icmp .ge 47, 3), (33, .aload_n 0, 1), (34, .iload_n 2, 1), (35, .invokevirtual 145, 3), (38, .aload_n 0, 1), (39, .invokevirtual 142, 3), (42, .istore 4, 2), (44, .iload 4, 2), (46, .iconst (-1), 1), (47, .if_icmp .eq 19, 3), (50, .aload_n 0, 1), (51, .aload_n 0, 1), (52, .getfield 130, 3), (55, .aload_n 0, 1), (56, .getfield 133, 3), (59, .iload_n 1, 1), (60, .invokevirtual 126, 3), (63, .ifCond .ne 5, 3), (66, .iload_n 2, 1), (67, .ireturn, 1), (68, .iload 4, 2), (70, .istore_n 2, 1), (71, .iinc 3 1, 3), (74, .goto (-49), 3), (77, .iload_n 2, 1), (78, .ireturn, 1)]
def iX0_firstAtZero : List (Nat × Instr × Nat) := [(0, .iconst (-1), 1), (1, .istore_n 1, 1), (2, .lconst 0, 1), (3, .lstore_n 2, 1), (4, .lconst 0, 1), (5, .lstore 4, 2), (7, .iconst 0, 1), (8, .istore 6, 2), (10, .iload 6, 2), (12, .aload_n 0, 1), (13, .getfield 62, 3), (16, .if_icmp .ge 126, 3), (19, .aload_n 0, 1), (20, .getfield 23, 3), (23, .iload 6, 2), (25, .iaload, 1), (26, .i2l, 1), (27, .aload_n 0, 1), (28, .getfield 29, 3), (31, .iload 6, 2), (33, .laload, 1), (34, .lmul, 1), (35, .lstore 7, 2), (37, .aload_n 0, 1), (38, .getfield 23, 3), (41, .iload 6, 2), (43, .iaload, 1), (44, .ineg, 1), (45, .aload_n 0, 1), (46, .getfield 133, 3), (49, .imul, 1), (50, .i2l, 1), (51, .aload_n 0, 1), (52, .getfield 34, 3), (55, .iload 6, 2), (57, .aaload, 1), (58, .aload_n 0, 1), (59, .getfield 130, 3), (62, .laload, 1), (63, .lmul, 1), (64, .lstore 9, 2), (66, .lload 9, 2), (68, .lconst 0, 1), (69, .lcmp, 1), (70, .ifCond .le 66, 3), (73, .iload_n 1, 1), (74, .iconst (-1), 1), (75, .if_icmp .ne 9, 3), (78, .ldc2_w 148, 3), (81, .goto 13, 3), (84, .lload 7, 2), (86, .lload 4, 2), (88, .lmul, 1), (89, .lload_n 2, 1), (90, .lload 9, 2), (92, .lmul, 1), (93, .lsub, 1), (94, .lstore 11, 2), (96, .lload 11, 2), (98, .lconst 0, 1), (99, .lcmp, 1), (100, .ifCond .lt 26, 3), (103, .lload 11, 2), (105, .lconst 0, 1), (106, .lcmp, 1), (107, .ifCond .ne 29, 3), (110, .aload_n 0, 1), (111, .getfield 19, 3), (114, .iload 6, 2), (116, .iaload, 1), (117, .aload_n 0, 1), (118, .getfield 19, 3), (121, .iload_n 1, 1), (122, .iaload, 1), (123, .if_icmp .ge 13, 3), (126, .iload 6, 2), (128, .istore_n 1, 1), (129, .lload 7, 2), (131, .lstore_n 2, 1), (132, .lload 9, 2), (134, .lstore 4, 2), (136, .iinc 6 1, 3), (139, .goto (-129), 3), (142, .iload_n 1, 1), (143, .ireturn, 1)]
def iX0_pass : List (Nat × Instr × Nat) := [(0, .aload_n 0, 1), (1, .getfield 19, 3), (4, .iload_n 1, 1), (5, .iaload, 1), (6, .istore_n 2, 1), (7, .aload_n 0, 1), (8, .getfield 43, 3), (11, .iload_n 2, 1), (12, .iaload, 1), (13, .aload_n 0, 1), (14, .getfield 46, 3), (17, .iload_n 2, 1), (18, .iaload, 1), (19, .iadd, 1), (20, .i2l, 1), (21, .aload_n 0, 1), (22, .getfield 34, 3), (25, .iload_n 1, 1), (26, .aaload, 1), (27, .aload_n 0, 1), (28, .getfield 130, 3), (31, .laload, 1), (32, .invokestatic 107, 3), (35, .lmul, 1), (36, .lstore_n 3, 1), (37, .aload_n 0, 1), (38, .getfield 49, 3), (41, .aload_n 0, 1), (42, .getfield 40, 3), (45, .iload_n 2, 1), (46, .iaload, 1), (47, .iconst 5, 1), (48, .imul, 1), (49, .aload_n 0, 1), (50, .getfield 130, 3), (53, .iadd, 1), (54, .dup2, 1), (55, .laload, 1), (56, .aload_n 0, 1), (57, .getfield 133, 3), (60, .i2l, 1), (61, .lload_n 3, 1), (62, .lmul, 1), (63, .ladd, 1), (64, .lastore, 1), (65, .aload_n 0, 1), (66, .getfield 23, 3), (69, .iload_n 1, 1), (70, .aload_n 0, 1), (71, .getfield 23, 3), (74, .iload_n 1, 1), (75, .iaload, 1), (76, .ineg, 1), (77, .iastore, 1), (78, .return_, 1)]
def iX0_swap : List (Nat × Instr × Nat) := [(0, .aload_n 0, 1), (1, .getfield 130, 3), (4, .istore_n 2, 1), (5, .aload_n 0, 1), (6, .getfield 34, 3), (9, .iload_n 1, 1), (10, .aaload, 1), (11, .iload_n 2, 1), (12, .laload, 1), (13, .lconst 0, 1), (14, .lcmp, 1), (15, .ifCond .ge 9, 3), (18, .ldc2_w 148, 3), (21, .goto 4, 3), (24, .lconst 1, 1), (25, .lstore_n 3, 1), (26, .lload_n 3, 1), (27, .aload_n 0, 1), (28, .getfield 34, 3), (31, .iload_n 1, 1), (32, .aaload, 1), (33, .iload_n 2, 1), (34, .laload, 1), (35, .lmul, 1), (36, .lstore 5, 2), (38, .lload 5, 2), (40, .lconst 0, 1), (41, .lcmp, 1), (42, .ifCond .eq 12, 3), (45, .aload_n 0, 1), (46, .getfield 9, 3), (49, .lconst 0, 1), (50, .lcmp, 1), (51, .ifCond .ne 4, 3), (54, .return_, 1), (55, .iconst 0, 1), (56, .istore 7, 2), (58, .iload 7, 2), (60, .aload_n 0, 1), (61, .getfield 62, 3), (64, .if_icmp .ge 25, 3), (67, .iload 7, 2), (69, .iload_n 1, 1), (70, .if_icmp .eq 13, 3), (73, .aload_n 0, 1), (74, .iload_n 1, 1), (75, .iload 7, 2), (77, .lload_n 3, 1), (78, .lload 5, 2), (80, .invokevirtual 150, 3), (83, .iinc 7 1, 3), (86, .goto (-28), 3), (89, .iconst 0, 1), (90, .istore 7, 2), (92, .iload 7, 2), (94, .aload_n 0, 1), (95, .getfield 58, 3), (98, .if_icmp .ge 23, 3), (101, .aload_n 0, 1), (102, .getfield 34, 3), (105, .iload_n 1, 1), (106, .aaload, 1), (107, .iload 7, 2), (109, .dup2, 1), (110, .laload, 1), (111, .lload_n 3, 1), (112, .lneg, 1), (113, .lmul, 1), (114, .lastore, 1), (115, .iinc 7 1, 3), (118, .goto (-26), 3), (121, .aload_n 0, 1), (122, .getfield 29, 3), (125, .iload_n 1, 1), (126, .dup2, 1), (127, .laload, 1), (128, .lload_n 3, 1), (129, .lneg, 1), (130, .lmul, 1), (131, .lastore, 1), (132, .aload_n 0, 1), (133, .getfield 34, 3), (136, .iload_n 1, 1), (137, .aaload, 1), (138, .iload_n 2, 1), (139, .lload_n 3, 1), (140, .aload_n 0, 1), (141, .getfield 9, 3), (144, .lmul, 1), (145, .lastore, 1), (146, .aload_n 0, 1), (147, .lload 5, 2), (149, .putfield 9, 3), (152, .aload_n 0, 1), (153, .getfield 19, 3), (156, .iload_n 1, 1), (157, .iaload, 1), (158, .istore 7, 2), (160, .aload_n 0, 1), (161, .getfield 19, 3), (164, .iload_n 1, 1), (165, .aload_n 0, 1), (166, .getfield 26, 3), (169, .iload_n 2, 1), (170, .iaload, 1), (171, .iastore, 1), (172, .aload_n 0, 1), (173, .getfield 23, 3), (176, .iload_n 1, 1), (177, .aload_n 0, 1), (178, .getfield 133, 3), (181, .iastore, 1), (182, .aload_n 0, 1), (183, .getfield 26, 3), (186, .iload_n 2, 1), (187, .iload 7, 2), (189, .iastore, 1), (190, .return_, 1)]
def iX0_putIn : List (Nat × Instr × Nat) := [(0, .aload_n 0, 1), (1, .getfield 34, 3), (4, .iload_n 1, 1), (5, .aaload, 1), (6, .astore 7, 2), (8, .aload_n 0, 1), (9, .getfield 34, 3), (12, .iload_n 2, 1), (13, .aaload, 1), (14, .astore 8, 2), (16, .lload_n 3, 1), (17, .aload 8, 2), (19, .aload_n 0, 1), (20, .getfield 130, 3), (23, .laload, 1), (24, .lmul, 1), (25, .lstore 9, 2), (27, .aload_n 0, 1), (28, .getfield 9, 3), (31, .lconst 0, 1), (32, .lcmp, 1), (33, .ifCond .eq 20, 3), (36, .lload 9, 2), (38, .lconst 0, 1), (39, .lcmp, 1), (40, .ifCond .ne 14, 3), (43, .lload 5, 2), (45, .aload_n 0, 1), (46, .getfield 9, 3), (49, .lcmp, 1), (50, .ifCond .ne 4, 3), (53, .return_, 1), (54, .iconst 0, 1), (55, .istore 11, 2), (57, .iload 11, 2), (59, .aload_n 0, 1), (60, .getfield 58, 3), (63, .if_icmp .ge 36, 3), (66, .aload 8, 2), (68, .iload 11, 2), (70, .aload 8, 2), (72, .iload 11, 2), (74, .laload, 1), (75, .lload 5, 2), (77, .lmul, 1), (78, .lload 9, 2), (80, .aload 7, 2), (82, .iload 11, 2), (84, .laload, 1), (85, .lmul, 1), (86, .lsub, 1), (87, .aload_n 0, 1), (88, .getfield 9, 3), (91, .ldiv, 1), (92, .lastore, 1), (93, .iinc 11 1, 3), (96, .goto (-39), 3), (99, .aload_n 0, 1), (100, .getfield 29, 3), (103, .iload_n 2, 1), (104, .aload_n 0, 1), (105, .getfield 29, 3), (108, .iload_n 2, 1), (109, .laload, 1), (110, .lload 5, 2), (112, .lmul, 1), (113, .lload 9, 2), (115, .aload_n 0, 1), (116, .getfield 29, 3), (119, .iload_n 1, 1), (120, .laload, 1), (121, .lmul, 1), (122, .lsub, 1), (123, .aload_n 0, 1), (124, .getfield 9, 3), (127, .ldiv, 1), (128, .lastore, 1), (129, .aload 8, 2), (131, .aload_n 0, 1), (132, .getfield 130, 3), (135, .lload 9, 2), (137, .lastore, 1), (138, .return_, 1)]
def iX1_become : List (Nat × Instr × Nat) := [(0, .iconst 0, 1), (1, .istore 6, 2), (3, .iload 6, 2), (5, .iconst 5, 1), (6, .if_icmp .ge 27, 3), (9, .iload 6, 2), (11, .aload_n 1, 1), (12, .arraylength, 1), (13, .if_icmp .ge 20, 3), (16, .aload_n 0, 1), (17, .getfield 9, 3), (20, .iload 6, 2), (22, .aload_n 1, 1), (23, .iload 6, 2), (25, .iaload, 1), (26, .iastore, 1), (27, .iinc 6 1, 3), (30, .goto (-27), 3), (33, .aload_n 0, 1), (34, .iload_n 2, 1), (35, .putfield 15, 3), (38, .aload_n 0, 1), (39, .iload_n 3, 1), (40, .putfield 19, 3), (43, .aload_n 0, 1), (44, .iload 4, 2), (46, .putfield 22, 3), (49, .aload_n 0, 1), (50, .iload 5, 2), (52, .putfield 25, 3), (55, .aload_n 0, 1), (56, .iconst 0, 1), (57, .putfield 28, 3), (60, .aload_n 0, 1), (61, .iconst 1, 1), (62, .putfield 32, 3), (65, .return_, 1)]
def iX1_counts : List (Nat × Instr × Nat) := [(0, .aload_n 0, 1), (1, .getfield 32, 3), (4, .ifCond .eq 14, 3), (7, .aload_n 0, 1), (8, .getfield 28, 3), (11, .ifCond .ne 7, 3), (14, .iconst 1, 1), (15, .goto 4, 3), (18, .iconst 0, 1), (19, .ireturn, 1)]
def iX1_costAbove : List (Nat × Instr × Nat) := [(0, .aload_n 0, 1), (1, .getfield 15, 3), (4, .iconst 2, 1), (5, .if_icmp .ne 7, 3), (8, .iconst 0, 1), (9, .goto 7, 3), (12, .aload_n 0, 1), (13, .getfield 22, 3), (16, .ireturn, 1)]
def iX1_costBelow : List (Nat × Instr × Nat) := [(0, .aload_n 0, 1), (1, .getfield 15, 3), (4, .iconst 1, 1), (5, .if_icmp .ne 7, 3), (8, .iconst 0, 1), (9, .goto 7, 3), (12, .aload_n 0, 1), (13, .getfield 22, 3), (16, .ireturn, 1)]
def iX2_edge : List (Nat × Instr × Nat) := [(0, .iload_n 1, 1), (1, .ldc 40, 2), (3, .invokestatic 41, 3), (6, .ifCond .ne 6, 3), (9, .ldc 45, 2), (11, .ireturn, 1), (12, .aload_n 0, 1), (13, .getfield 46, 3), (16, .iconst 5, 1), (17, .if_icmp .lt 6, 3), (20, .ldc 50, 2), (22, .ireturn, 1), (23, .aload_n 0, 1), (24, .getfield 9, 3), (27, .aload_n 0, 1), (28, .getfield 46, 3), (31, .iload_n 1, 1), (32, .iastore, 1), (33, .aload_n 0, 1), (34, .dup, 1), (35, .getfield 46, 3), (38, .iconst 1, 1), (39, .iadd, 1), (40, .putfield 46, 3), (43, .aload_n 0, 1), (44, .iconst 0, 1), (45, .putfield 51, 3), (48, .aload_n 0, 1), (49, .getfield 46, 3), (52, .iconst 1, 1), (53, .isub, 1), (54, .ireturn, 1)]
def iX2_factor : List (Nat × Instr × Nat) := [(0, .iload_n 1, 1), (1, .ifCond .lt 16, 3), (4, .iload_n 1, 1), (5, .iconst 5, 1), (6, .if_icmp .ge 11, 3), (9, .iload_n 2, 1), (10, .iconst 3, 1), (11, .invokestatic 41, 3), (14, .ifCond .ne 6, 3), (17, .ldc 45, 2), (19, .ireturn, 1), (20, .aload_n 0, 1), (21, .getfield 13, 3), (24, .iload_n 1, 1), (25, .iaload, 1), (26, .istore_n 3, 1), (27, .aload_n 0, 1), (28, .getfield 13, 3), (31, .iload_n 1, 1), (32, .iload_n 2, 1), (33, .iastore, 1), (34, .iload_n 3, 1), (35, .ireturn, 1)]
def iX2_wish : List (Nat × Instr × Nat) := [(0, .iload_n 1, 1), (1, .ifCond .lt 27, 3), (4, .iload_n 1, 1), (5, .iconst 2, 1), (6, .if_icmp .gt 22, 3), (9, .iload_n 2, 1), (10, .iload_n 3, 1), (11, .invokestatic 55, 3), (14, .ifCond .eq 14, 3), (17, .iload 4, 2), (19, .sipush 1000, 3), (22, .invokestatic 41, 3), (25, .ifCond .ne 6, 3), (28, .ldc 45, 2), (30, .ireturn, 1), (31, .aload_n 0, 1), (32, .getfield 13, 3), (35, .iconst 0, 1), (36, .invokestatic 58, 3), (39, .ifCond .ne 17, 3), (42, .aload_n 0, 1), (43, .getfield 13, 3), (46, .aload_n 0, 1), (47, .getfield 46, 3), (50, .invokestatic 58, 3), (53, .ifCond .ne 6, 3), (56, .ldc 62, 2), (58, .ireturn, 1), (59, .aload_n 0, 1), (60, .aload_n 0, 1), (61, .getfield 13, 3), (64, .iload_n 1, 1), (65, .iload_n 2, 1), (66, .iload_n 3, 1), (67, .iload 4, 2), (69, .invokevirtual 63, 3), (72, .istore 5, 2), (74, .aload_n 0, 1), (75, .getfield 13, 3), (78, .iconst 0, 1), (79, .invokestatic 67, 3), (82, .iload 5, 2), (84, .ireturn, 1)]
def iX2_side : List (Nat × Instr × Nat) := [(0, .aload_n 0, 1), (1, .iload_n 1, 1), (2, .invokevirtual 73, 3), (5, .ifCond .eq 19, 3), (8, .aload_n 0, 1), (9, .iload_n 2, 1), (10, .invokevirtual 73, 3), (13, .ifCond .eq 11, 3), (16, .aload_n 0, 1), (17, .iload_n 3, 1), (18, .invokevirtual 73, 3), (21, .ifCond .ne 6, 3), (24, .ldc 77, 2), (26, .ireturn, 1), (27, .iload 4, 2), (29, .ifCond .lt 21, 3), (32, .iload 4, 2), (34, .sipush 1000, 3), (37, .if_icmp .gt 13, 3), (40, .iload 5, 2), (42, .iload 6, 2), (44, .invokestatic 55, 3), (47, .ifCond .ne 6, 3), (50, .ldc 45, 2), (52, .ireturn, 1), (53, .aload_n 0, 1), (54, .getfield 16, 3), (57, .iconst 0, 1), (58, .invokestatic 67, 3), (61, .aload_n 0, 1), (62, .getfield 16, 3), (65, .iload_n 1, 1), (66, .dup2, 1), (67, .iaload, 1), (68, .iconst 1, 1), (69, .iadd, 1), (70, .iastore, 1), (71, .aload_n 0, 1), (72, .getfield 16, 3), (75, .iload_n 2, 1), (76, .dup2, 1), (77, .iaload, 1), (78, .iconst 1, 1), (79, .iadd, 1), (80, .iastore, 1), (81, .aload_n 0, 1), (82, .getfield 16, 3), (85, .iload_n 3, 1), (86, .dup2, 1), (87, .iaload, 1), (88, .iconst 1, 1), (89, .isub, 1), (90, .iastore, 1), (91, .aload_n 0, 1), (92, .getfield 16, 3), (95, .iconst 0, 1), (96, .invokestatic 58, 3), (99, .ifCond .eq 6, 3), (102, .ldc 62, 2), (104, .ireturn, 1), (105, .aload_n 0, 1), (106, .aload_n 0, 1), (107, .getfield 16, 3), (110, .iconst 0, 1), (111, .iload 5, 2), (113, .iload 6, 2), (115, .iload 4, 2), (117, .ineg, 1), (118, .invokevirtual 63, 3), (121, .ireturn, 1)]
def iX2_take : List (Nat × Instr × Nat) := [(0, .aload_n 0, 1), (1, .iload_n 1, 1), (2, .invokevirtual 78, 3), (5, .ifCond .ne 6, 3), (8, .ldc 77, 2), (10, .ireturn, 1), (11, .aload_n 0, 1), (12, .getfield 25, 3), (15, .iload_n 1, 1), (16, .aaload, 1), (17, .iconst 0, 1), (18, .putfield 81, 3), (21, .aload_n 0, 1), (22, .iconst 0, 1), (23, .putfield 51, 3), (26, .aload_n 0, 1), (27, .invokevirtual 84, 3), (30, .ireturn, 1)]
def iX2_hide : List (Nat × Instr × Nat) := [(0, .aload_n 0, 1), (1, .iload_n 1, 1), (2, .invokevirtual 78, 3), (5, .ifCond .ne 6, 3), (8, .ldc 77, 2), (10, .ireturn, 1), (11, .aload_n 0, 1), (12, .getfield 25, 3), (15, .iload_n 1, 1), (16, .aaload, 1), (17, .astore_n 3, 1), (18, .aload_n 3, 1), (19, .getfield 88, 3), (22, .istore 4, 2), (24, .aload_n 3, 1), (25, .iload_n 2, 1), (26, .putfield 88, 3), (29, .iload 4, 2), (31, .iload_n 2, 1), (32, .if_icmp .eq 20, 3), (35, .aload_n 0, 1), (36, .aload_n 3, 1), (37, .invokevirtual 91, 3), (40, .ifCond .eq 12, 3), (43, .aload_n 3, 1), (44, .iload 4, 2), (46, .putfield 88, 3), (49, .ldc 95, 2), (51, .ireturn, 1), (52, .iload 4, 2), (54, .ifCond .eq 7, 3), (57, .iconst 1, 1), (58, .goto 4, 3), (61, .iconst 0, 1), (62, .ireturn, 1)]
def iX2_drag : List (Nat × Instr × Nat) := [(0, .aload_n 0, 1), (1, .iload_n 1, 1), (2, .invokevirtual 78, 3), (5, .ifCond .ne 6, 3), (8, .ldc 77, 2), (10, .ireturn, 1), (11, .iload_n 2, 1), (12, .sipush 1000, 3), (15, .invokestatic 41, 3), (18, .ifCond .ne 6, 3), (21, .ldc 45, 2), (23, .ireturn, 1), (24, .aload_n 0, 1), (25, .getfield 25, 3), (28, .iload_n 1, 1), (29, .aaload, 1), (30, .astore_n 3, 1), (31, .aload_n 3, 1), (32, .getfield 96, 3), (35, .istore 4, 2), (37, .aload_n 3, 1), (38, .iload_n 2, 1), (39, .putfield 96, 3), (42, .iload 4, 2), (44, .iload_n 2, 1), (45, .if_icmp .eq 20, 3), (48, .aload_n 0, 1), (49, .aload_n 3, 1), (50, .invokevirtual 91, 3), (53, .ifCond .eq 12, 3), (56, .aload_n 3, 1), (57, .iload 4, 2), (59, .putfield 96, 3), (62, .ldc 95, 2), (64, .ireturn, 1), (65, .iload 4, 2), (67, .ireturn, 1)]
def iX2_strength : List (Nat × Instr × Nat) := [(0, .aload_n 0, 1), (1, .iload_n 1, 1), (2, .invokevirtual 78, 3), (5, .ifCond .ne 6, 3), (8, .ldc 77, 2), (10, .ireturn, 1), (11, .iload_n 2, 1), (12, .iload_n 3, 1), (13, .invokestatic 55, 3), (16, .ifCond .ne 6, 3), (19, .ldc 45, 2), (21, .ireturn, 1), (22, .aload_n 0, 1), (23, .getfield 25, 3), (26, .iload_n 1, 1), (27, .aaload, 1), (28, .astore 4, 2), (30, .aload 4, 2), (32, .getfield 99, 3), (35, .istore 5, 2), (37, .aload 4, 2), (39, .getfield 102, 3), (42, .istore 6, 2), (44, .aload 4, 2), (46, .iload_n 2, 1), (47, .putfield 99, 3), (50, .aload 4, 2), (52, .iload_n 3, 1), (53, .putfield 102, 3), (56, .aload_n 0, 1), (57, .aload 4, 2), (59, .invokevirtual 91, 3), (62, .ifCond .eq 20, 3), (65, .aload 4, 2), (67, .iload 5, 2), (69, .putfield 99, 3), (72, .aload 4, 2), (74, .iload 6, 2), (76, .putfield 102, 3), (79, .ldc 95, 2), (81, .ireturn, 1), (82, .iconst 1, 1), (83, .ireturn, 1)]
def iX2_told : List (Nat × Instr × Nat) := [(0, .aload_n 0, 1), (1, .iload_n 1, 1), (2, .invokevirtual 78, 3), (5, .ifCond .ne 6, 3), (8, .ldc 77, 2), (10, .ireturn, 1), (11, .iload_n 2, 1), (12, .ifCond .lt 9, 3), (15, .iload_n 2, 1), (16, .bipush 10, 2), (18, .if_icmp .lt 6, 3), (21, .ldc 45, 2), (23, .ireturn, 1), (24, .aload_n 0, 1), (25, .getfield 25, 3), (28, .iload_n 1, 1), (29, .aaload, 1), (30, .astore_n 3, 1), (31, .iload_n 2, 1), (32, .tableswitch 69 0 4 #[36, 41, 46, 51, 56], 36), (68, .aload_n 3, 1), (69, .getfield 105, 3), (72, .ireturn, 1), (73, .aload_n 3, 1), (74, .getfield 99, 3), (77, .ireturn, 1), (78, .aload_n 3, 1), (79, .getfield 102, 3), (82, .ireturn, 1), (83, .aload_n 3, 1), (84, .getfield 96, 3), (87, .ireturn, 1), (88, .aload_n 3, 1), (89, .getfield 88, 3), (92, .ifCond .eq 7, 3), (95, .iconst 1, 1), (96, .goto 4, 3), (99, .iconst 0, 1), (100, .ireturn, 1), (101, .aload_n 3, 1), (102, .getfield 108, 3), (105, .iload_n 2, 1), (106, .iconst 5, 1), (107, .isub, 1), (108, .iaload, 1), (109, .ireturn, 1)]
def iX2_count : List (Nat × Instr × Nat) := [(0, .iload_n 1, 1), (1, .tableswitch 55 0 3 #[31, 36, 41, 50], 31), (32, .aload_n 0, 1), (33, .getfield 46, 3), (36, .ireturn, 1), (37, .aload_n 0, 1), (38, .invokevirtual 84, 3), (41, .ireturn, 1), (42, .aload_n 0, 1), (43, .iconst 0, 1), (44, .invokevirtual 111, 3), (47, .invokestatic 115, 3), (50, .ireturn, 1), (51, .aload_n 0, 1), (52, .invokevirtual 120, 3), (55, .ireturn, 1), (56, .ldc 45, 2), (58, .ireturn, 1)]
def iX2_quarrel : List (Nat × Instr × Nat) := [(0, .aload_n 0, 1), (1, .getfield 123, 3), (4, .ireturn, 1)]
def iX2_at : List (Nat × Instr × Nat) := [(0, .aload_n 0, 1), (1, .iload_n 1, 1), (2, .invokevirtual 73, 3), (5, .ifCond .ne 6, 3), (8, .ldc 77, 2), (10, .ireturn, 1), (11, .iload_n 2, 1), (12, .invokestatic 126, 3), (15, .ifCond .ne 6, 3), (18, .ldc 45, 2), (20, .ireturn, 1), (21, .aload_n 0, 1), (22, .invokevirtual 129, 3), (25, .aload_n 0, 1), (26, .getfield 33, 3), (29, .getfield 132, 3), (32, .iload_n 1, 1), (33, .laload, 1), (34, .aload_n 0, 1), (35, .getfield 33, 3), (38, .getfield 135, 3), (41, .iload_n 2, 1), (42, .invokestatic 139, 3), (45, .l2i, 1), (46, .ireturn, 1)]
def iX2_pixel : List (Nat × Instr × Nat) := [(0, .aload_n 0, 1), (1, .iload_n 1, 1), (2, .invokevirtual 73, 3), (5, .ifCond .ne 6, 3), (8, .ldc 77, 2), (10, .ireturn, 1), (11, .aload_n 0, 1), (12, .invokevirtual 129, 3), (15, .aload_n 0, 1), (16, .iload_n 1, 1), (17, .invokevirtual 143, 3), (20, .l2i, 1), (21, .ireturn, 1)]
def iX2_off : List (Nat × Instr × Nat) := [(0, .aload_n 0, 1), (1, .iload_n 1, 1), (2, .invokevirtual 78, 3), (5, .ifCond .ne 7, 3), (8, .ldc2_w 147, 3), (11, .lreturn, 1), (12, .iload_n 2, 1), (13, .invokestatic 126, 3), (16, .ifCond .ne 7, 3), (19, .ldc2_w 149, 3), (22, .lreturn, 1), (23, .aload_n 0, 1), (24, .invokevirtual 129, 3), (27, .aload_n 0, 1), (28, .getfield 33, 3), (31, .aload_n 0, 1), (32, .getfield 25, 3), (35, .iload_n 1, 1), (36, .aaload, 1), (37, .invokevirtual 151, 3), (40, .aload_n 0, 1), (41, .getfield 33, 3), (44, .getfield 135, 3), (47, .iload_n 2, 1), (48, .invokestatic 139, 3), (51, .lreturn, 1)]
def iX2_cost : List (Nat × Instr × Nat) := [(0, .iload_n 1, 1), (1, .ifCond .le 15, 3), (4, .iload_n 1, 1), (5, .iconst 4, 1), (6, .if_icmp .ge 10, 3), (9, .iload_n 2, 1), (10, .invokestatic 126, 3), (13, .ifCond .ne 7, 3), (16, .ldc2_w 149, 3), (19, .lreturn, 1), (20, .aload_n 0, 1), (21, .invokevirtual 129, 3), (24, .lconst 0, 1), (25, .lstore_n 3, 1), (26, .iconst 0, 1), (27, .istore 5, 2), (29, .iload 5, 2), (31, .bipush 9, 2), (33, .if_icmp .ge 54, 3), (36, .aload_n 0, 1), (37, .getfield 25, 3), (40, .iload 5, 2), (42, .aaload, 1), (43, .astore 6, 2), (45, .aload 6, 2), (47, .invokevirtual 155, 3), (50, .ifCond .eq 31, 3), (53, .aload 6, 2), (55, .getfield 99, 3), (58, .iload_n 1, 1), (59, .if_icmp .ne 22, 3), (62, .lload_n 3, 1), (63, .aload 6, 2), (65, .getfield 102, 3), (68, .i2l, 1), (69, .aload_n 0, 1), (70, .getfield 33, 3), (73, .aload 6, 2), (75, .invokevirtual 151, 3), (78, .lmul, 1), (79, .ladd, 1), (80, .lstore_n 3, 1), (81, .iinc 5 1, 3), (84, .goto (-55), 3), (87, .lload_n 3, 1), (88, .aload_n 0, 1), (89, .getfield 33, 3), (92, .getfield 135, 3), (95, .iload_n 2, 1), (96, .invokestatic 139, 3), (99, .lreturn, 1)]
def iX2_why : List (Nat × Instr × Nat) := [(0, .aload_n 0, 1), (1, .iload_n 1, 1), (2, .invokevirtual 78, 3), (5, .ifCond .ne 6, 3), (8, .ldc 77, 2), (10, .ireturn, 1), (11, .aload_n 0, 1), (12, .getfield 25, 3), (15, .iload_n 1, 1), (16, .aaload, 1), (17, .astore_n 2, 1), (18, .aload_n 2, 1), (19, .getfield 88, 3), (22, .ifCond .eq 5, 3), (25, .iconst 0, 1), (26, .ireturn, 1), (27, .aload_n 0, 1), (28, .invokevirtual 129, 3), (31, .aload_n 0, 1), (32, .getfield 33, 3), (35, .aload_n 2, 1), (36, .invokevirtual 151, 3), (39, .lconst 0, 1), (40, .lcmp, 1), (41, .ifCond .ne 5, 3), (44, .iconst 0, 1), (45, .ireturn, 1), (46, .iconst 0, 1), (47, .istore_n 3, 1), (48, .iconst 0, 1), (49, .istore 4, 2), (51, .iload 4, 2), (53, .bipush 9, 2), (55, .if_icmp .ge 61, 3), (58, .aload_n 0, 1), (59, .getfield 25, 3), (62, .iload 4, 2), (64, .aaload, 1), (65, .astore 5, 2), (67, .iload 4, 2), (69, .iload_n 1, 1), (70, .if_icmp .eq 40, 3), (73, .aload 5, 2), (75, .invokevirtual 155, 3), (78, .ifCond .eq 32, 3), (81, .aload 5, 2), (83, .getfield 99, 3), (86, .aload_n 2, 1), (87, .getfield 99, 3), (90, .if_icmp .gt 20, 3), (93, .aload_n 0, 1), (94, .aload_n 2, 1), (95, .iload 4, 2), (97, .invokevirtual 159, 3), (100, .ifCond .eq 10, 3), (103, .iload_n 3, 1), (104, .iconst 1, 1), (105, .iload 4, 2), (107, .ishl, 1), (108, .ior, 1), (109, .istore_n 3, 1), (110, .iinc 4 1, 3), (113, .goto (-62), 3), (116, .iload_n 3, 1), (117, .ireturn, 1)]
def iX2_stay : List (Nat × Instr × Nat) := [(0, .aload_n 0, 1), (1, .iload_n 1, 1), (2, .invokevirtual 73, 3), (5, .ifCond .eq 12, 3), (8, .aload_n 0, 1), (9, .getfield 9, 3), (12, .iload_n 1, 1), (13, .iaload, 1), (14, .goto 5, 3), (17, .ldc 77, 2), (19, .ireturn, 1)]
def iX2_move : List (Nat × Instr × Nat) := [(0, .aload_n 0, 1), (1, .iload_n 1, 1), (2, .invokevirtual 73, 3), (5, .ifCond .ne 6, 3), (8, .ldc 77, 2), (10, .ireturn, 1), (11, .iload_n 2, 1), (12, .ldc 40, 2), (14, .invokestatic 41, 3), (17, .ifCond .ne 6, 3), (20, .ldc 45, 2), (22, .ireturn, 1), (23, .aload_n 0, 1), (24, .getfield 9, 3), (27, .iload_n 1, 1), (28, .iaload, 1), (29, .istore_n 3, 1), (30, .aload_n 0, 1), (31, .getfield 9, 3), (34, .iload_n 1, 1), (35, .iload_n 2, 1), (36, .iastore, 1), (37, .aload_n 0, 1), (38, .aload_n 0, 1), (39, .getfield 51, 3), (42, .ifCond .eq 12, 3), (45, .iload_n 3, 1), (46, .iload_n 2, 1), (47, .if_icmp .ne 7, 3), (50, .iconst 1, 1), (51, .goto 4, 3), (54, .iconst 0, 1), (55, .putfield 51, 3), (58, .iload_n 3, 1), (59, .ireturn, 1)]
def iX2_settle : List (Nat × Instr × Nat) := [(0, .aload_n 0, 1), (1, .invokevirtual 129, 3), (4, .iconst 0, 1), (5, .istore_n 1, 1), (6, .iload_n 1, 1), (7, .aload_n 0, 1), (8, .getfield 46, 3), (11, .if_icmp .ge 49, 3), (14, .aload_n 0, 1), (15, .getfield 19, 3), (18, .iload_n 1, 1), (19, .aload_n 0, 1), (20, .iload_n 1, 1), (21, .invokevirtual 143, 3), (24, .lastore, 1), (25, .aload_n 0, 1), (26, .getfield 19, 3), (29, .iload_n 1, 1), (30, .laload, 1), (31, .ldc2_w 163, 3), (34, .lcmp, 1), (35, .ifCond .lt 16, 3), (38, .aload_n 0, 1), (39, .getfield 19, 3), (42, .iload_n 1, 1), (43, .laload, 1), (44, .ldc2_w 165, 3), (47, .lcmp, 1), (48, .ifCond .le 6, 3), (51, .ldc 62, 2), (53, .ireturn, 1), (54, .iinc 1 1, 3), (57, .goto (-51), 3), (60, .iconst 0, 1), (61, .istore_n 1, 1), (62, .iconst 0, 1), (63, .istore_n 2, 1), (64, .iload_n 2, 1), (65, .aload_n 0, 1), (66, .getfield 46, 3), (69, .if_icmp .ge 42, 3), (72, .aload_n 0, 1), (73, .getfield 9, 3), (76, .iload_n 2, 1), (77, .iaload, 1), (78, .i2l, 1), (79, .aload_n 0, 1), (80, .getfield 19, 3), (83, .iload_n 2, 1), (84, .laload, 1), (85, .lcmp, 1), (86, .ifCond .eq 19, 3), (89, .aload_n 0, 1), (90, .getfield 9, 3), (93, .iload_n 2, 1), (94, .aload_n 0, 1), (95, .getfield 19, 3), (98, .iload_n 2, 1), (99, .laload, 1), (100, .l2i, 1), (101, .iastore, 1), (102, .iinc 1 1, 3), (105, .iinc 2 1, 3), (108, .goto (-44), 3), (111, .aload_n 0, 1), (112, .aload_n 0, 1), (113, .getfield 51, 3), (116, .ifCond .eq 11, 3), (119, .iload_n 1, 1), (120, .ifCond .ne 7, 3), (123, .iconst 1, 1), (124, .goto 4, 3), (127, .iconst 0, 1), (128, .putfield 51, 3), (131, .iload_n 1, 1), (132, .ireturn, 1)]
def iX2_isWithin : List (Nat × Instr × Nat) := [(0, .iload_n 0, 1), (1, .iload_n 1, 1), (2, .ineg, 1), (3, .if_icmp .lt 12, 3), (6, .iload_n 0, 1), (7, .iload_n 1, 1), (8, .if_icmp .gt 7, 3), (11, .iconst 1, 1), (12, .goto 4, 3), (15, .iconst 0, 1), (16, .ireturn, 1)]
def iX2_isStrength : List (Nat × Instr × Nat) := [(0, .iload_n 0, 1), (1, .ifCond .lt 23, 3), (4, .iload_n 0, 1), (5, .iconst 4, 1), (6, .if_icmp .ge 18, 3), (9, .iload_n 1, 1), (10, .iconst 1, 1), (11, .if_icmp .lt 13, 3), (14, .iload_n 1, 1), (15, .bipush 9, 2), (17, .if_icmp .gt 7, 3), (20, .iconst 1, 1), (21, .goto 4, 3), (24, .iconst 0, 1), (25, .ireturn, 1)]
def iX2_isPart : List (Nat × Instr × Nat) := [(0, .iload_n 0, 1), (1, .ifCond .eq 8, 3), (4, .iload_n 0, 1), (5, .iconst 1, 1), (6, .if_icmp .ne 7, 3), (9, .iconst 1, 1), (10, .goto 4, 3), (13, .iconst 0, 1), (14, .ireturn, 1)]
def iX2_isEdge : List (Nat × Instr × Nat) := [(0, .iload_n 1, 1), (1, .ifCond .lt 15, 3), (4, .iload_n 1, 1), (5, .aload_n 0, 1), (6, .getfield 46, 3), (9, .if_icmp .ge 7, 3), (12, .iconst 1, 1), (13, .goto 4, 3), (16, .iconst 0, 1), (17, .ireturn, 1)]
def iX2_isWish : List (Nat × Instr × Nat) := [(0, .iload_n 1, 1), (1, .ifCond .lt 25, 3), (4, .iload_n 1, 1), (5, .bipush 9, 2), (7, .if_icmp .ge 19, 3), (10, .aload_n 0, 1), (11, .getfield 25, 3), (14, .iload_n 1, 1), (15, .aaload, 1), (16, .getfield 81, 3), (19, .ifCond .eq 7, 3), (22, .iconst 1, 1), (23, .goto 4, 3), (26, .iconst 0, 1), (27, .ireturn, 1)]
def iX2_areAllZero : List (Nat × Instr × Nat) := [(0, .iload_n 1, 1), (1, .istore_n 2, 1), (2, .iload_n 2, 1), (3, .aload_n 0, 1), (4, .arraylength, 1), (5, .if_icmp .ge 17, 3), (8, .aload_n 0, 1), (9, .iload_n 2, 1), (10, .iaload, 1), (11, .ifCond .eq 5, 3), (14, .iconst 0, 1), (15, .ireturn, 1), (16, .iinc 2 1, 3), (19, .goto (-17), 3), (22, .iconst 1, 1), (23, .ireturn, 1)]
def iX2_addWish : List (Nat × Instr × Nat) := [(0, .aload_n 0, 1), (1, .invokevirtual 167, 3), (4, .istore 6, 2), (6, .iload 6, 2), (8, .iconst (-1), 1), (9, .if_icmp .ne 6, 3), (12, .ldc 50, 2), (14, .ireturn, 1), (15, .aload_n 0, 1), (16, .getfield 25, 3), (19, .iload 6, 2), (21, .aaload, 1), (22, .astore 7, 2), (24, .aload 7, 2), (26, .aload_n 1, 1), (27, .iload_n 2, 1), (28, .iload_n 3, 1), (29, .iload 4, 2), (31, .iload 5, 2), (33, .invokevirtual 170, 3), (36, .aload_n 0, 1), (37, .aload 7, 2), (39, .invokevirtual 91, 3), (42, .ifCond .eq 12, 3), (45, .aload 7, 2), (47, .iconst 0, 1), (48, .putfield 81, 3), (51, .ldc 95, 2), (53, .ireturn, 1), (54, .iload 6, 2), (56, .ireturn, 1)]
def iX2_freeWish : List (Nat × Instr × Nat) := [(0, .iconst 0, 1), (1, .istore_n 1, 1), (2, .iload_n 1, 1), (3, .bipush 9, 2), (5, .if_icmp .ge 23, 3), (8, .aload_n 0, 1), (9, .getfield 25, 3), (12, .iload_n 1, 1), (13, .aaload, 1), (14, .getfield 81, 3), (17, .ifCond .ne 5, 3), (20, .iload_n 1, 1), (21, .ireturn, 1), (22, .iinc 1 1, 3), (25, .goto (-23), 3), (28, .iconst (-1), 1), (29, .ireturn, 1)]
def iX2_countWishes : List (Nat × Instr × Nat) := [(0, .iconst 0, 1), (1, .istore_n 1, 1), (2, .iconst 0, 1), (3, .istore_n 2, 1), (4, .iload_n 2, 1), (5, .bipush 9, 2), (7, .if_icmp .ge 24, 3), (10, .aload_n 0, 1), (11, .getfield 25, 3), (14, .iload_n 2, 1), (15, .aaload, 1), (16, .getfield 81, 3), (19, .ifCond .eq 6, 3), (22, .iinc 1 1, 3), (25, .iinc 2 1, 3), (28, .goto (-24), 3), (31, .iload_n 1, 1), (32, .ireturn, 1)]
def iX2_countUnmet : List (Nat × Instr × Nat) := [(0, .aload_n 0, 1), (1, .invokevirtual 129, 3), (4, .iconst 0, 1), (5, .istore_n 1, 1), (6, .iconst 0, 1), (7, .istore_n 2, 1), (8, .iload_n 2, 1), (9, .bipush 9, 2), (11, .if_icmp .ge 42, 3), (14, .aload_n 0, 1), (15, .getfield 25, 3), (18, .iload_n 2, 1), (19, .aaload, 1), (20, .invokevirtual 155, 3), (23, .ifCond .eq 24, 3), (26, .aload_n 0, 1), (27, .getfield 33, 3), (30, .aload_n 0, 1), (31, .getfield 25, 3), (34, .iload_n 2, 1), (35, .aaload, 1), (36, .invokevirtual 151, 3), (39, .lconst 0, 1), (40, .lcmp, 1), (41, .ifCond .eq 6, 3), (44, .iinc 1 1, 3), (47, .iinc 2 1, 3), (50, .goto (-42), 3), (53, .iload_n 1, 1), (54, .ireturn, 1)]
def iX2_countingWishes : List (Nat × Instr × Nat) := [(0, .iconst 0, 1), (1, .istore_n 2, 1), (2, .iconst 0, 1), (3, .istore_n 3, 1), (4, .iload_n 3, 1), (5, .bipush 9, 2), (7, .if_icmp .ge 40, 3), (10, .aload_n 0, 1), (11, .getfield 25, 3), (14, .iload_n 3, 1), (15, .aaload, 1), (16, .invokevirtual 155, 3), (19, .ifCond .eq 22, 3), (22, .aload_n 0, 1), (23, .getfield 25, 3), (26, .iload_n 3, 1), (27, .aaload, 1), (28, .getfield 99, 3), (31, .iload_n 1, 1), (32, .if_icmp .gt 9, 3), (35, .iload_n 2, 1), (36, .iconst 1, 1), (37, .iload_n 3, 1), (38, .ishl, 1), (39, .ior, 1), (40, .istore_n 2, 1), (41, .iinc 3 1, 3), (44, .goto (-40), 3), (47, .iload_n 2, 1), (48, .ireturn, 1)]
def iX2_findSetting : List (Nat × Instr × Nat) := [(0, .aload_n 0, 1), (1, .getfield 51, 3), (4, .ifCond .ne 39, 3), (7, .aload_n 0, 1), (8, .getfield 33, 3), (11, .aload_n 0, 1), (12, .getfield 25, 3), (15, .aload_n 0, 1), (16, .iconst 4, 1), (17, .invokevirtual 111, 3), (20, .aload_n 0, 1), (21, .getfield 9, 3), (24, .aload_n 0, 1), (25, .getfield 46, 3), (28, .invokevirtual 174, 3), (31, .aload_n 0, 1), (32, .getfield 33, 3), (35, .invokevirtual 178, 3), (38, .aload_n 0, 1), (39, .iconst 1, 1), (40, .putfield 51, 3), (43, .return_, 1)]
def iX2_clashes : List (Nat × Instr × Nat) := [(0, .aload_n 1, 1), (1, .invokevirtual 155, 3), (4, .ifCond .eq 10, 3), (7, .aload_n 1, 1), (8, .getfield 99, 3), (11, .ifCond .eq 10, 3), (14, .aload_n 0, 1), (15, .iconst 0, 1), (16, .putfield 51, 3), (19, .iconst 0, 1), (20, .ireturn, 1), (21, .aload_n 0, 1), (22, .getfield 37, 3), (25, .aload_n 0, 1), (26, .getfield 25, 3), (29, .aload_n 0, 1), (30, .iconst 4, 1), (31, .invokevirtual 111, 3), (34, .aload_n 0, 1), (35, .getfield 9, 3), (38, .aload_n 0, 1), (39, .getfield 46, 3), (42, .invokevirtual 174, 3), (45, .aload_n 0, 1), (46, .getfield 37, 3), (49, .iconst 1, 1), (50, .invokevirtual 181, 3), (53, .aload_n 0, 1), (54, .getfield 37, 3), (57, .invokevirtual 185, 3), (60, .ifCond .ne 13, 3), (63, .aload_n 0, 1), (64, .aload_n 0, 1), (65, .invokevirtual 188, 3), (68, .putfield 123, 3), (71, .iconst 1, 1), (72, .ireturn, 1), (73, .aload_n 0, 1), (74, .getfield 37, 3), (77, .invokevirtual 178, 3), (80, .aload_n 0, 1), (81, .getfield 33, 3), (84, .astore_n 2, 1), (85, .aload_n 0, 1), (86, .aload_n 0, 1), (87, .getfield 37, 3), (90, .putfield 33, 3), (93, .aload_n 0, 1), (94, .aload_n 2, 1), (95, .putfield 37, 3), (98, .aload_n 0, 1), (99, .iconst 1, 1), (100, .putfield 51, 3), (103, .iconst 0, 1), (104, .ireturn, 1)]
def iX2_leastQuarrel : List (Nat × Instr × Nat) := [(0, .aload_n 0, 1), (1, .iconst 0, 1), (2, .invokevirtual 111, 3), (5, .istore_n 1, 1), (6, .iconst 0, 1), (7, .istore_n 2, 1), (8, .iload_n 2, 1), (9, .bipush 9, 2), (11, .if_icmp .ge 62, 3), (14, .iload_n 1, 1), (15, .iconst 1, 1), (16, .iload_n 2, 1), (17, .ishl, 1), (18, .iconst (-1), 1), (19, .ixor, 1), (20, .iand, 1), (21, .istore_n 3, 1), (22, .iload_n 3, 1), (23, .iload_n 1, 1), (24, .if_icmp .eq 43, 3), (27, .aload_n 0, 1), (28, .getfield 37, 3), (31, .aload_n 0, 1), (32, .getfield 25, 3), (35, .iload_n 3, 1), (36, .aload_n 0, 1), (37, .getfield 9, 3), (40, .aload_n 0, 1), (41, .getfield 46, 3), (44, .invokevirtual 174, 3), (47, .aload_n 0, 1), (48, .getfield 37, 3), (51, .iconst 1, 1), (52, .invokevirtual 181, 3), (55, .aload_n 0, 1), (56, .getfield 37, 3), (59, .invokevirtual 185, 3), (62, .ifCond .ne 5, 3), (65, .iload_n 3, 1), (66, .istore_n 1, 1), (67, .iinc 2 1, 3), (70, .goto (-62), 3), (73, .iload_n 1, 1), (74, .ireturn, 1)]
def iX2_isNearerWithout : List (Nat × Instr × Nat) := [(0, .aload_n 0, 1), (1, .getfield 37, 3), (4, .aload_n 0, 1), (5, .getfield 33, 3), (8, .invokevirtual 191, 3), (11, .aload_n 0, 1), (12, .getfield 37, 3), (15, .iload_n 2, 1), (16, .invokevirtual 195, 3), (19, .aload_n 0, 1), (20, .getfield 37, 3), (23, .invokevirtual 178, 3), (26, .aload_n 0, 1), (27, .getfield 37, 3), (30, .aload_n 1, 1), (31, .invokevirtual 151, 3), (34, .aload_n 0, 1), (35, .getfield 33, 3), (38, .getfield 135, 3), (41, .lmul, 1), (42, .aload_n 0, 1), (43, .getfield 33, 3), (46, .aload_n 1, 1), (47, .invokevirtual 151, 3), (50, .aload_n 0, 1), (51, .getfield 37, 3), (54, .getfield 135, 3), (57, .lmul, 1), (58, .lcmp, 1), (59, .ifCond .ge 7, 3), (62, .iconst 1, 1), (63, .goto 4, 3), (66, .iconst 0, 1), (67, .ireturn, 1)]
def iX2_pixelOf : List (Nat × Instr × Nat) := [(0, .aload_n 0, 1), (1, .getfield 33, 3), (4, .getfield 135, 3), (7, .lconst 0, 1), (8, .lcmp, 1), (9, .ifCond .gt 5, 3), (12, .lconst 0, 1), (13, .lreturn, 1), (14, .ldc2_w 198, 3), (17, .aload_n 0, 1), (18, .getfield 33, 3), (21, .getfield 132, 3), (24, .iload_n 1, 1), (25, .laload, 1), (26, .lmul, 1), (27, .aload_n 0, 1), (28, .getfield 33, 3), (31, .getfield 135, 3), (34, .ladd, 1), (35, .ldc2_w 198, 3), (38, .aload_n 0, 1), (39, .getfield 33, 3), (42, .getfield 135, 3), (45, .lmul, 1), (46, .invokestatic 200, 3), (49, .lreturn, 1)]
def iX2_inLeastTerms : List (Nat × Instr × Nat) := [(0, .lload_n 0, 1), (1, .invokestatic 206, 3), (4, .lload_n 2, 1), (5, .invokestatic 210, 3), (8, .lstore 5, 2), (10, .iload 4, 2), (12, .ifCond .ne 7, 3), (15, .lload_n 0, 1), (16, .goto 4, 3), (19, .lload_n 2, 1), (20, .lstore 7, 2), (22, .lload 5, 2), (24, .lconst 0, 1), (25, .lcmp, 1), (26, .ifCond .ne 8, 3), (29, .lload 7, 2), (31, .goto 8, 3), (34, .lload 7, 2), (36, .lload 5, 2), (38, .ldiv, 1), (39, .lreturn, 1)]
def iX2_greatestDivisor : List (Nat × Instr × Nat) := [(0, .iconst 0, 1), (1, .istore 4, 2), (3, .iload 4, 2), (5, .sipush 200, 3), (8, .if_icmp .ge 25, 3), (11, .lload_n 2, 1), (12, .lconst 0, 1), (13, .lcmp, 1), (14, .ifCond .eq 19, 3), (17, .lload_n 0, 1), (18, .lload_n 2, 1), (19, .lrem, 1), (20, .lstore 5, 2), (22, .lload_n 2, 1), (23, .lstore_n 0, 1), (24, .lload 5, 2), (26, .lstore_n 2, 1), (27, .iinc 4 1, 3), (30, .goto (-27), 3), (33, .lload_n 0, 1), (34, .lreturn, 1)]
def iX3_in : List (Nat × Instr × Nat) := [(0, .lload_n 0, 1), (1, .lload_n 2, 1), (2, .lcmp, 1), (3, .ifCond .lt 14, 3), (6, .lload_n 0, 1), (7, .lload 4, 2), (9, .lcmp, 1), (10, .ifCond .gt 7, 3), (13, .iconst 1, 1), (14, .goto 4, 3), (17, .iconst 0, 1), (18, .ireturn, 1)]
def iX3_size : List (Nat × Instr × Nat) := [(0, .lload_n 0, 1), (1, .lconst 0, 1), (2, .lcmp, 1), (3, .ifCond .ge 8, 3), (6, .lload_n 0, 1), (7, .lneg, 1), (8, .goto 4, 3), (11, .lload_n 0, 1), (12, .lreturn, 1)]
def iX3_divisor : List (Nat × Instr × Nat) := [(0, .lload_n 0, 1), (1, .invokestatic 57, 3), (4, .lstore 4, 2), (6, .lload_n 2, 1), (7, .invokestatic 57, 3), (10, .lstore 6, 2), (12, .lload 6, 2), (14, .lconst 0, 1), (15, .lcmp, 1), (16, .ifCond .eq 21, 3), (19, .lload 4, 2), (21, .lload 6, 2), (23, .lrem, 1), (24, .lstore 8, 2), (26, .lload 6, 2), (28, .lstore 4, 2), (30, .lload 8, 2), (32, .lstore 6, 2), (34, .goto (-22), 3), (37, .lload 4, 2), (39, .lreturn, 1)]
def iX3_putRow : List (Nat × Instr × Nat) := [(0, .iconst 0, 1), (1, .istore_n 3, 1), (2, .iload_n 3, 1), (3, .aload_n 0, 1), (4, .getfield 61, 3), (7, .if_icmp .ge 53, 3), (10, .aload_n 0, 1), (11, .getfield 38, 3), (14, .bipush 6, 2), (16, .iload_n 1, 1), (17, .imul, 1), (18, .iload_n 3, 1), (19, .iadd, 1), (20, .iload_n 2, 1), (21, .bipush 9, 2), (23, .if_icmp .ge 17, 3), (26, .aload_n 0, 1), (27, .getfield 35, 3), (30, .iconst 5, 1), (31, .iload_n 2, 1), (32, .imul, 1), (33, .iload_n 3, 1), (34, .iadd, 1), (35, .iaload, 1), (36, .i2l, 1), (37, .goto 16, 3), (40, .iload_n 2, 1), (41, .bipush 9, 2), (43, .isub, 1), (44, .iload_n 3, 1), (45, .if_icmp .ne 7, 3), (48, .lconst 1, 1), (49, .goto 4, 3), (52, .lconst 0, 1), (53, .lastore, 1), (54, .iinc 3 1, 3), (57, .goto (-55), 3), (60, .aload_n 0, 1), (61, .getfield 38, 3), (64, .bipush 6, 2), (66, .iload_n 1, 1), (67, .imul, 1), (68, .iconst 5, 1), (69, .iadd, 1), (70, .iload_n 2, 1), (71, .bipush 9, 2), (73, .if_icmp .ge 13, 3), (76, .aload_n 0, 1), (77, .getfield 29, 3), (80, .iload_n 2, 1), (81, .iaload, 1), (82, .i2l, 1), (83, .goto 13, 3), (86, .aload_n 0, 1), (87, .getfield 7, 3), (90, .iload_n 2, 1), (91, .bipush 9, 2), (93, .isub, 1), (94, .iaload, 1), (95, .i2l, 1), (96, .lastore, 1), (97, .return_, 1)]
def iX3_swapRows : List (Nat × Instr × Nat) := [(0, .iconst 0, 1), (1, .istore_n 3, 1), (2, .iload_n 3, 1), (3, .bipush 6, 2), (5, .if_icmp .ge 57, 3), (8, .aload_n 0, 1), (9, .getfield 38, 3), (12, .bipush 6, 2), (14, .iload_n 1, 1), (15, .imul, 1), (16, .iload_n 3, 1), (17, .iadd, 1), (18, .laload, 1), (19, .lstore 4, 2), (21, .aload_n 0, 1), (22, .getfield 38, 3), (25, .bipush 6, 2), (27, .iload_n 1, 1), (28, .imul, 1), (29, .iload_n 3, 1), (30, .iadd, 1), (31, .aload_n 0, 1), (32, .getfield 38, 3), (35, .bipush 6, 2), (37, .iload_n 2, 1), (38, .imul, 1), (39, .iload_n 3, 1), (40, .iadd, 1), (41, .laload, 1), (42, .lastore, 1), (43, .aload_n 0, 1), (44, .getfield 38, 3), (47, .bipush 6, 2), (49, .iload_n 2, 1), (50, .imul, 1), (51, .iload_n 3, 1), (52, .iadd, 1), (53, .lload 4, 2), (55, .lastore, 1), (56, .iinc 3 1, 3), (59, .goto (-57), 3), (62, .return_, 1)]
def iX3_meet : List (Nat × Instr × Nat) := [(0, .lconst 1, 1), (1, .lstore_n 1, 1), (2, .iconst 0, 1), (3, .istore_n 3, 1), (4, .iload_n 3, 1), (5, .aload_n 0, 1), (6, .getfield 61, 3), (9, .if_icmp .ge 179, 3), (12, .iload_n 3, 1), (13, .istore 4, 2), (15, .iload 4, 2), (17, .aload_n 0, 1), (18, .getfield 61, 3), (21, .if_icmp .ge 26, 3), (24, .aload_n 0, 1), (25, .getfield 38, 3), (28, .bipush 6, 2), (30, .iload 4, 2), (32, .imul, 1), (33, .iload_n 3, 1), (34, .iadd, 1), (35, .laload, 1), (36, .lconst 0, 1), (37, .lcmp, 1), (38, .ifCond .ne 9, 3), (41, .iinc 4 1, 3), (44, .goto (-29), 3), (47, .iload 4, 2), (49, .aload_n 0, 1), (50, .getfield 61, 3), (53, .if_icmp .ne 5, 3), (56, .iconst 0, 1), (57, .ireturn, 1), (58, .aload_n 0, 1), (59, .iload_n 3, 1), (60, .iload 4, 2), (62, .invokevirtual 65, 3), (65, .aload_n 0, 1), (66, .getfield 38, 3), (69, .bipush 6, 2), (71, .iload_n 3, 1), (72, .imul, 1), (73, .iload_n 3, 1), (74, .iadd, 1), (75, .laload, 1), (76, .lstore 5, 2), (78, .iconst 0, 1), (79, .istore 7, 2), (81, .iload 7, 2), (83, .aload_n 0, 1), (84, .getfield 61, 3), (87, .if_icmp .ge 92, 3), (90, .aload_n 0, 1), (91, .getfield 38, 3), (94, .bipush 6, 2), (96, .iload 7, 2), (98, .imul, 1), (99, .iload_n 3, 1), (100, .iadd, 1), (101, .laload, 1), (102, .lstore 8, 2), (104, .iconst 0, 1), (105, .istore 10, 2), (107, .iload 10, 2), (109, .bipush 6, 2), (111, .if_icmp .ge 62, 3), (114, .iload 7, 2), (116, .iload_n 3, 1), (117, .if_icmp .eq 56, 3), (120, .aload_n 0, 1), (121, .getfield 38, 3), (124, .bipush 6, 2), (126, .iload 7, 2), (128, .imul, 1), (129, .iload 10, 2), (131, .iadd, 1), (132, .aload_n 0, 1), (133, .getfield 38, 3), (136, .bipush 6, 2), (138, .iload 7, 2), (140, .imul, 1), (141, .iload 10, 2), (143, .iadd, 1), (144, .laload, 1), (145, .lload 5, 2), (147, .lmul, 1), (148, .lload 8, 2), (150, .aload_n 0, 1), (151, .getfield 38, 3), (154, .bipush 6, 2), (156, .iload_n 3, 1), (157, .imul, 1), (158, .iload 10, 2), (160, .iadd, 1), (161, .laload, 1), (162, .lmul, 1), (163, .lsub, 1), (164, .lload_n 1, 1), (165, .ldiv, 1), (166, .lastore, 1), (167, .iinc 10 1, 3), (170, .goto (-63), 3), (173, .iinc 7 1, 3), (176, .goto (-95), 3), (179, .lload 5, 2), (181, .lstore_n 1, 1), (182, .iinc 3 1, 3), (185, .goto (-181), 3), (188, .aload_n 0, 1), (189, .lload_n 1, 1), (190, .invokestatic 57, 3), (193, .putfield 69, 3), (196, .iconst 0, 1), (197, .istore_n 3, 1), (198, .iload_n 3, 1), (199, .aload_n 0, 1), (200, .getfield 61, 3), (203, .if_icmp .ge 47, 3), (206, .aload_n 0, 1), (207, .getfield 42, 3), (210, .iload_n 3, 1), (211, .lload_n 1, 1), (212, .lconst 0, 1), (213, .lcmp, 1), (214, .ifCond .ge 18, 3), (217, .aload_n 0, 1), (218, .getfield 38, 3), (221, .bipush 6, 2), (223, .iload_n 3, 1), (224, .imul, 1), (225, .iconst 5, 1), (226, .iadd, 1), (227, .laload, 1), (228, .lneg, 1), (229, .goto 14, 3), (232, .aload_n 0, 1), (233, .getfield 38, 3), (236, .bipush 6, 2), (238, .iload_n 3, 1), (239, .imul, 1), (240, .iconst 5, 1), (241, .iadd, 1), (242, .laload, 1), (243, .lastore, 1), (244, .iinc 3 1, 3), (247, .goto (-49), 3), (250, .iconst 1, 1), (251, .ireturn, 1)]
def iX3_offBy : List (Nat × Instr × Nat) := [(0, .aload_n 0, 1), (1, .getfield 29, 3), (4, .iload_n 1, 1), (5, .iaload, 1), (6, .ineg, 1), (7, .i2l, 1), (8, .lload_n 3, 1), (9, .lmul, 1), (10, .lstore 5, 2), (12, .iconst 0, 1), (13, .istore 7, 2), (15, .iload 7, 2), (17, .aload_n 0, 1), (18, .getfield 61, 3), (21, .if_icmp .ge 31, 3), (24, .lload 5, 2), (26, .aload_n 0, 1), (27, .getfield 35, 3), (30, .iconst 5, 1), (31, .iload_n 1, 1), (32, .imul, 1), (33, .iload 7, 2), (35, .iadd, 1), (36, .iaload, 1), (37, .i2l, 1), (38, .aload_n 2, 1), (39, .iload 7, 2), (41, .laload, 1), (42, .lmul, 1), (43, .ladd, 1), (44, .lstore 5, 2), (46, .iinc 7 1, 3), (49, .goto (-34), 3), (52, .aload_n 0, 1), (53, .getfield 20, 3), (56, .iload_n 1, 1), (57, .iaload, 1), (58, .ifCond .ne 11, 3), (61, .lload 5, 2), (63, .invokestatic 57, 3), (66, .goto 43, 3), (69, .aload_n 0, 1), (70, .getfield 20, 3), (73, .iload_n 1, 1), (74, .iaload, 1), (75, .iconst 1, 1), (76, .if_icmp .ne 19, 3), (79, .lload 5, 2), (81, .lconst 0, 1), (82, .lcmp, 1), (83, .ifCond .le 8, 3), (86, .lload 5, 2), (88, .goto 21, 3), (91, .lconst 0, 1), (92, .goto 17, 3), (95, .lload 5, 2), (97, .lconst 0, 1), (98, .lcmp, 1), (99, .ifCond .ge 9, 3), (102, .lload 5, 2), (104, .lneg, 1), (105, .goto 4, 3), (108, .lconst 0, 1), (109, .lreturn, 1)]
def iX3_isLive : List (Nat × Instr × Nat) := [(0, .aload_n 0, 1), (1, .getfield 73, 3), (4, .iload_n 1, 1), (5, .ishr, 1), (6, .iconst 1, 1), (7, .iand, 1), (8, .iconst 1, 1), (9, .if_icmp .ne 7, 3), (12, .iconst 1, 1), (13, .goto 4, 3), (16, .iconst 0, 1), (17, .ireturn, 1)]
def iX3_weigh : List (Nat × Instr × Nat) := [(0, .iconst 0, 1), (1, .istore_n 1, 1), (2, .iload_n 1, 1), (3, .bipush 8, 2), (5, .if_icmp .ge 16, 3), (8, .aload_n 0, 1), (9, .getfield 48, 3), (12, .iload_n 1, 1), (13, .lconst 0, 1), (14, .lastore, 1), (15, .iinc 1 1, 3), (18, .goto (-16), 3), (21, .iconst 0, 1), (22, .istore_n 1, 1), (23, .iload_n 1, 1), (24, .bipush 9, 2), (26, .if_icmp .ge 73, 3), (29, .aload_n 0, 1), (30, .iload_n 1, 1), (31, .invokevirtual 76, 3), (34, .ifCond .eq 59, 3), (37, .aload_n 0, 1), (38, .iload_n 1, 1), (39, .aload_n 0, 1), (40, .getfield 42, 3), (43, .aload_n 0, 1), (44, .getfield 69, 3), (47, .invokevirtual 80, 3), (50, .lstore_n 2, 1), (51, .aload_n 0, 1), (52, .getfield 23, 3), (55, .iload_n 1, 1), (56, .iaload, 1), (57, .ifCond .ne 11, 3), (60, .lload_n 2, 1), (61, .lconst 0, 1), (62, .lcmp, 1), (63, .ifCond .le 30, 3), (66, .iconst 0, 1), (67, .ireturn, 1), (68, .aload_n 0, 1), (69, .getfield 48, 3), (72, .aload_n 0, 1), (73, .getfield 23, 3), (76, .iload_n 1, 1), (77, .iaload, 1), (78, .iconst 1, 1), (79, .isub, 1), (80, .dup2, 1), (81, .laload, 1), (82, .aload_n 0, 1), (83, .getfield 26, 3), (86, .iload_n 1, 1), (87, .iaload, 1), (88, .i2l, 1), (89, .lload_n 2, 1), (90, .lmul, 1), (91, .ladd, 1), (92, .lastore, 1), (93, .iinc 1 1, 3), (96, .goto (-73), 3), (99, .iconst 0, 1), (100, .istore_n 1, 1), (101, .iload_n 1, 1), (102, .aload_n 0, 1), (103, .getfield 61, 3), (106, .if_icmp .ge 39, 3), (109, .aload_n 0, 1), (110, .getfield 48, 3), (113, .iconst 3, 1), (114, .iload_n 1, 1), (115, .iadd, 1), (116, .aload_n 0, 1), (117, .getfield 42, 3), (120, .iload_n 1, 1), (121, .laload, 1), (122, .aload_n 0, 1), (123, .getfield 7, 3), (126, .iload_n 1, 1), (127, .iaload, 1), (128, .i2l, 1), (129, .aload_n 0, 1), (130, .getfield 69, 3), (133, .lmul, 1), (134, .lsub, 1), (135, .invokestatic 57, 3), (138, .lastore, 1), (139, .iinc 1 1, 3), (142, .goto (-41), 3), (145, .iconst 1, 1), (146, .ireturn, 1)]
def iX3_isLess : List (Nat × Instr × Nat) := [(0, .iconst 0, 1), (1, .istore_n 1, 1), (2, .iload_n 1, 1), (3, .bipush 8, 2), (5, .if_icmp .ge 54, 3), (8, .aload_n 0, 1), (9, .getfield 48, 3), (12, .iload_n 1, 1), (13, .laload, 1), (14, .aload_n 0, 1), (15, .getfield 84, 3), (18, .lmul, 1), (19, .lstore_n 2, 1), (20, .aload_n 0, 1), (21, .getfield 51, 3), (24, .iload_n 1, 1), (25, .laload, 1), (26, .aload_n 0, 1), (27, .getfield 69, 3), (30, .lmul, 1), (31, .lstore 4, 2), (33, .lload_n 2, 1), (34, .lload 4, 2), (36, .lcmp, 1), (37, .ifCond .eq 16, 3), (40, .lload_n 2, 1), (41, .lload 4, 2), (43, .lcmp, 1), (44, .ifCond .ge 7, 3), (47, .iconst 1, 1), (48, .goto 4, 3), (51, .iconst 0, 1), (52, .ireturn, 1), (53, .iinc 1 1, 3), (56, .goto (-54), 3), (59, .iconst 0, 1), (60, .ireturn, 1)]
def iX3_solve : List (Nat × Instr × Nat) := [(0, .iconst 0, 1), (1, .istore_n 1, 1), (2, .aload_n 0, 1), (3, .lconst 1, 1), (4, .putfield 84, 3), (7, .iconst 0, 1), (8, .istore_n 2, 1), (9, .iload_n 2, 1), (10, .sipush 16384, 3), (13, .if_icmp .ge 239, 3), (16, .iconst 0, 1), (17, .istore_n 3, 1), (18, .iconst 1, 1), (19, .istore 4, 2), (21, .iconst 0, 1), (22, .istore 5, 2), (24, .iload 5, 2), (26, .bipush 14, 2), (28, .if_icmp .ge 65, 3), (31, .iload_n 2, 1), (32, .iload 5, 2), (34, .ishr, 1), (35, .iconst 1, 1), (36, .iand, 1), (37, .iconst 1, 1), (38, .if_icmp .ne 49, 3), (41, .iinc 3 1, 3), (44, .iload 4, 2), (46, .ifCond .eq 38, 3), (49, .iload 5, 2), (51, .bipush 9, 2), (53, .if_icmp .ge 15, 3), (56, .aload_n 0, 1), (57, .iload 5, 2), (59, .invokevirtual 76, 3), (62, .ifCond .eq 22, 3), (65, .goto 15, 3), (68, .iload 5, 2), (70, .bipush 9, 2), (72, .isub, 1), (73, .aload_n 0, 1), (74, .getfield 61, 3), (77, .if_icmp .ge 7, 3), (80, .iconst 1, 1), (81, .goto 4, 3), (84, .iconst 0, 1), (85, .istore 4, 2), (87, .iinc 5 1, 3), (90, .goto (-66), 3), (93, .iload 4, 2), (95, .ifCond .eq 151, 3), (98, .iload_n 3, 1), (99, .aload_n 0, 1), (100, .getfield 61, 3), (103, .if_icmp .eq 6, 3), (106, .goto 140, 3), (109, .iconst 0, 1), (110, .istore 5, 2), (112, .iconst 0, 1), (113, .istore 6, 2), (115, .iload 6, 2), (117, .bipush 14, 2), (119, .if_icmp .ge 30, 3), (122, .iload_n 2, 1), (123, .iload 6, 2), (125, .ishr, 1), (126, .iconst 1, 1), (127, .iand, 1), (128, .iconst 1, 1), (129, .if_icmp .ne 14, 3), (132, .aload_n 0, 1), (133, .iload 5, 2), (135, .iload 6, 2), (137, .invokevirtual 87, 3), (140, .iinc 5 1, 3), (143, .iinc 6 1, 3), (146, .goto (-31), 3), (149, .aload_n 0, 1), (150, .invokevirtual 90, 3), (153, .ifCond .eq 93, 3), (156, .aload_n 0, 1), (157, .invokevirtual 94, 3), (160, .ifCond .eq 86, 3), (163, .iload_n 1, 1), (164, .ifCond .eq 10, 3), (167, .aload_n 0, 1), (168, .invokevirtual 97, 3), (171, .ifCond .eq 75, 3), (174, .iconst 1, 1), (175, .istore_n 1, 1), (176, .aload_n 0, 1), (177, .aload_n 0, 1), (178, .getfield 69, 3), (181, .putfield 84, 3), (184, .iconst 0, 1), (185, .istore 6, 2), (187, .iload 6, 2), (189, .bipush 8, 2), (191, .if_icmp .ge 23, 3), (194, .aload_n 0, 1), (195, .getfield 51, 3), (198, .iload 6, 2), (200, .aload_n 0, 1), (201, .getfield 48, 3), (204, .iload 6, 2), (206, .laload, 1), (207, .lastore, 1), (208, .iinc 6 1, 3), (211, .goto (-24), 3), (214, .iconst 0, 1), (215, .istore 6, 2), (217, .iload 6, 2), (219, .aload_n 0, 1), (220, .getfield 61, 3), (223, .if_icmp .ge 23, 3), (226, .aload_n 0, 1), (227, .getfield 45, 3), (230, .iload 6, 2), (232, .aload_n 0, 1), (233, .getfield 42, 3), (236, .iload 6, 2), (238, .laload, 1), (239, .lastore, 1), (240, .iinc 6 1, 3), (243, .goto (-26), 3), (246, .iinc 2 1, 3), (249, .goto (-240), 3), (252, .iload_n 1, 1), (253, .ireturn, 1)]
def iX3_allLive : List (Nat × Instr × Nat) := [(0, .iconst 0, 1), (1, .istore_n 1, 1), (2, .iconst 0, 1), (3, .istore_n 2, 1), (4, .iload_n 2, 1), (5, .bipush 9, 2), (7, .if_icmp .ge 37, 3), (10, .iload_n 1, 1), (11, .aload_n 0, 1), (12, .getfield 16, 3), (15, .iload_n 2, 1), (16, .baload, 1), (17, .ifCond .eq 18, 3), (20, .aload_n 0, 1), (21, .getfield 32, 3), (24, .iload_n 2, 1), (25, .baload, 1), (26, .ifCond .ne 9, 3), (29, .iconst 1, 1), (30, .iload_n 2, 1), (31, .ishl, 1), (32, .goto 4, 3), (35, .iconst 0, 1), (36, .ior, 1), (37, .istore_n 1, 1), (38, .iinc 2 1, 3), (41, .goto (-37), 3), (44, .iload_n 1, 1), (45, .ireturn, 1)]
def iX3_set : List (Nat × Instr × Nat) := [(0, .aload_n 0, 1), (1, .aload_n 0, 1), (2, .invokevirtual 100, 3), (5, .putfield 73, 3), (8, .aload_n 0, 1), (9, .invokevirtual 104, 3), (12, .istore_n 1, 1), (13, .return_, 1)]
def iX3_clashes : List (Nat × Instr × Nat) := [(0, .aload_n 0, 1), (1, .invokevirtual 100, 3), (4, .istore_n 1, 1), (5, .iconst 0, 1), (6, .istore_n 2, 1), (7, .iload_n 2, 1), (8, .bipush 9, 2), (10, .if_icmp .ge 30, 3), (13, .iload_n 1, 1), (14, .aload_n 0, 1), (15, .getfield 23, 3), (18, .iload_n 2, 1), (19, .iaload, 1), (20, .ifCond .ne 7, 3), (23, .iconst (-1), 1), (24, .goto 8, 3), (27, .iconst 1, 1), (28, .iload_n 2, 1), (29, .ishl, 1), (30, .iconst (-1), 1), (31, .ixor, 1), (32, .iand, 1), (33, .istore_n 1, 1), (34, .iinc 2 1, 3), (37, .goto (-30), 3), (40, .aload_n 0, 1), (41, .iload_n 1, 1), (42, .putfield 73, 3), (45, .aload_n 0, 1), (46, .invokevirtual 104, 3), (49, .ifCond .eq 5, 3), (52, .iconst 0, 1), (53, .ireturn, 1), (54, .iconst 0, 1), (55, .istore_n 2, 1), (56, .iload_n 2, 1), (57, .bipush 9, 2), (59, .if_icmp .ge 41, 3), (62, .iload_n 1, 1), (63, .iload_n 2, 1), (64, .ishr, 1), (65, .iconst 1, 1), (66, .iand, 1), (67, .iconst 1, 1), (68, .if_icmp .ne 26, 3), (71, .aload_n 0, 1), (72, .iload_n 1, 1), (73, .iconst 1, 1), (74, .iload_n 2, 1), (75, .ishl, 1), (76, .iconst (-1), 1), (77, .ixor, 1), (78, .iand, 1), (79, .putfield 73, 3), (82, .aload_n 0, 1), (83, .invokevirtual 104, 3), (86, .ifCond .ne 8, 3), (89, .aload_n 0, 1), (90, .getfield 73, 3), (93, .istore_n 1, 1), (94, .iinc 2 1, 3), (97, .goto (-41), 3), (100, .aload_n 0, 1), (101, .iload_n 1, 1), (102, .putfield 107, 3), (105, .iconst 1, 1), (106, .ireturn, 1)]
def iX3_noEdge : List (Nat × Instr × Nat) := [(0, .iload_n 1, 1), (1, .i2l, 1), (2, .lconst 0, 1), (3, .aload_n 0, 1), (4, .getfield 61, 3), (7, .iconst 1, 1), (8, .isub, 1), (9, .i2l, 1), (10, .invokestatic 110, 3), (13, .ifCond .ne 7, 3), (16, .iconst 1, 1), (17, .goto 4, 3), (20, .iconst 0, 1), (21, .ireturn, 1)]
def iX3_noWish : List (Nat × Instr × Nat) := [(0, .iload_n 1, 1), (1, .i2l, 1), (2, .lconst 0, 1), (3, .ldc2_w 114, 3), (6, .invokestatic 110, 3), (9, .ifCond .eq 12, 3), (12, .aload_n 0, 1), (13, .getfield 16, 3), (16, .iload_n 1, 1), (17, .baload, 1), (18, .ifCond .ne 7, 3), (21, .iconst 1, 1), (22, .goto 4, 3), (25, .iconst 0, 1), (26, .ireturn, 1)]
def iX3_edge : List (Nat × Instr × Nat) := [(0, .iload_n 1, 1), (1, .i2l, 1), (2, .ldc2_w 116, 3), (5, .ldc2_w 118, 3), (8, .invokestatic 110, 3), (11, .ifCond .ne 6, 3), (14, .ldc 120, 2), (16, .ireturn, 1), (17, .aload_n 0, 1), (18, .getfield 61, 3), (21, .iconst 5, 1), (22, .if_icmp .ne 6, 3), (25, .ldc 121, 2), (27, .ireturn, 1), (28, .aload_n 0, 1), (29, .getfield 7, 3), (32, .aload_n 0, 1), (33, .getfield 61, 3), (36, .iload_n 1, 1), (37, .iastore, 1), (38, .aload_n 0, 1), (39, .dup, 1), (40, .getfield 61, 3), (43, .iconst 1, 1), (44, .iadd, 1), (45, .putfield 61, 3), (48, .aload_n 0, 1), (49, .getfield 61, 3), (52, .iconst 1, 1), (53, .isub, 1), (54, .ireturn, 1)]
def iX3_factor : List (Nat × Instr × Nat) := [(0, .iload_n 1, 1), (1, .i2l, 1), (2, .lconst 0, 1), (3, .ldc2_w 122, 3), (6, .invokestatic 110, 3), (9, .ifCond .eq 17, 3), (12, .iload_n 2, 1), (13, .i2l, 1), (14, .ldc2_w 124, 3), (17, .ldc2_w 126, 3), (20, .invokestatic 110, 3), (23, .ifCond .ne 6, 3), (26, .ldc 120, 2), (28, .ireturn, 1), (29, .aload_n 0, 1), (30, .getfield 13, 3), (33, .iload_n 1, 1), (34, .iaload, 1), (35, .istore_n 3, 1), (36, .aload_n 0, 1), (37, .getfield 13, 3), (40, .iload_n 1, 1), (41, .iload_n 2, 1), (42, .iastore, 1), (43, .iload_n 3, 1), (44, .ireturn, 1)]
def iX3_add : List (Nat × Instr × Nat) := [(0, .aload_n 0, 1), (1, .getfield 128, 3), (4, .bipush 9, 2), (6, .if_icmp .ne 6, 3), (9, .ldc 121, 2), (11, .ireturn, 1), (12, .iconst 0, 1), (13, .istore 5, 2), (15, .aload_n 0, 1), (16, .getfield 16, 3), (19, .iload 5, 2), (21, .baload, 1), (22, .ifCond .eq 9, 3), (25, .iinc 5 1, 3), (28, .goto (-13), 3), (31, .aload_n 0, 1), (32, .getfield 16, 3), (35, .iload 5, 2), (37, .iconst 1, 1), (38, .bastore, 1), (39, .aload_n 0, 1), (40, .getfield 32, 3), (43, .iload 5, 2), (45, .iconst 0, 1), (46, .bastore, 1), (47, .aload_n 0, 1), (48, .getfield 20, 3), (51, .iload 5, 2), (53, .iload_n 1, 1), (54, .iastore, 1), (55, .aload_n 0, 1), (56, .getfield 23, 3), (59, .iload 5, 2), (61, .iload_n 2, 1), (62, .iastore, 1), (63, .aload_n 0, 1), (64, .getfield 26, 3), (67, .iload 5, 2), (69, .iload_n 3, 1), (70, .iastore, 1), (71, .aload_n 0, 1), (72, .getfield 29, 3), (75, .iload 5, 2), (77, .iload 4, 2), (79, .iastore, 1), (80, .iconst 0, 1), (81, .istore 6, 2), (83, .iload 6, 2), (85, .iconst 5, 1), (86, .if_icmp .ge 28, 3), (89, .aload_n 0, 1), (90, .getfield 35, 3), (93, .iconst 5, 1), (94, .iload 5, 2), (96, .imul, 1), (97, .iload 6, 2), (99, .iadd, 1), (100, .aload_n 0, 1), (101, .getfield 54, 3), (104, .iload 6, 2), (106, .iaload, 1), (107, .iastore, 1), (108, .iinc 6 1, 3), (111, .goto (-28), 3), (114, .iload_n 2, 1), (115, .ifCond .ne 21, 3), (118, .aload_n 0, 1), (119, .invokevirtual 131, 3), (122, .ifCond .eq 14, 3), (125, .aload_n 0, 1), (126, .getfield 16, 3), (129, .iload 5, 2), (131, .iconst 0, 1), (132, .bastore, 1), (133, .ldc 134, 2), (135, .ireturn, 1), (136, .aload_n 0, 1), (137, .dup, 1), (138, .getfield 128, 3), (141, .iconst 1, 1), (142, .iadd, 1), (143, .putfield 128, 3), (146, .iload 5, 2), (148, .ireturn, 1)]
def iX3_isStrength : List (Nat × Instr × Nat) := [(0, .iload_n 0, 1), (1, .i2l, 1), (2, .lconst 0, 1), (3, .ldc2_w 126, 3), (6, .invokestatic 110, 3), (9, .ifCond .eq 19, 3), (12, .iload_n 1, 1), (13, .i2l, 1), (14, .lconst 1, 1), (15, .ldc2_w 135, 3), (18, .invokestatic 110, 3), (21, .ifCond .eq 7, 3), (24, .iconst 1, 1), (25, .goto 4, 3), (28, .iconst 0, 1), (29, .ireturn, 1)]
def iX3_wish : List (Nat × Instr × Nat) := [(0, .iload_n 1, 1), (1, .i2l, 1), (2, .lconst 0, 1), (3, .ldc2_w 137, 3), (6, .invokestatic 110, 3), (9, .ifCond .eq 26, 3), (12, .iload_n 2, 1), (13, .iload_n 3, 1), (14, .invokestatic 139, 3), (17, .ifCond .eq 18, 3), (20, .iload 4, 2), (22, .i2l, 1), (23, .ldc2_w 143, 3), (26, .ldc2_w 145, 3), (29, .invokestatic 110, 3), (32, .ifCond .ne 6, 3), (35, .ldc 120, 2), (37, .ireturn, 1), (38, .iconst 0, 1), (39, .istore 5, 2), (41, .iconst 0, 1), (42, .istore 6, 2), (44, .iconst 0, 1), (45, .istore 7, 2), (47, .iload 7, 2), (49, .iconst 5, 1), (50, .if_icmp .ge 62, 3), (53, .iload 5, 2), (55, .ifCond .ne 13, 3), (58, .aload_n 0, 1), (59, .getfield 13, 3), (62, .iload 7, 2), (64, .iaload, 1), (65, .ifCond .eq 7, 3), (68, .iconst 1, 1), (69, .goto 4, 3), (72, .iconst 0, 1), (73, .istore 5, 2), (75, .iload 6, 2), (77, .ifCond .ne 22, 3), (80, .aload_n 0, 1), (81, .getfield 13, 3), (84, .iload 7, 2), (86, .iaload, 1), (87, .ifCond .eq 16, 3), (90, .iload 7, 2), (92, .aload_n 0, 1), (93, .getfield 61, 3), (96, .if_icmp .lt 7, 3), (99, .iconst 1, 1), (100, .goto 4, 3), (103, .iconst 0, 1), (104, .istore 6, 2), (106, .iinc 7 1, 3), (109, .goto (-62), 3), (112, .iload 5, 2), (114, .ifCond .eq 8, 3), (117, .iload 6, 2), (119, .ifCond .eq 6, 3), (122, .ldc 147, 2), (124, .ireturn, 1), (125, .iconst 0, 1), (126, .istore 7, 2), (128, .iload 7, 2), (130, .iconst 5, 1), (131, .if_icmp .ge 31, 3), (134, .aload_n 0, 1), (135, .getfield 54, 3), (138, .iload 7, 2), (140, .aload_n 0, 1), (141, .getfield 13, 3), (144, .iload 7, 2), (146, .iaload, 1), (147, .iastore, 1), (148, .aload_n 0, 1), (149, .getfield 13, 3), (152, .iload 7, 2), (154, .iconst 0, 1), (155, .iastore, 1), (156, .iinc 7 1, 3), (159, .goto (-31), 3), (162, .aload_n 0, 1), (163, .iload_n 1, 1), (164, .iload_n 2, 1), (165, .iload_n 3, 1), (166, .iload 4, 2), (168, .invokevirtual 148, 3), (171, .ireturn, 1)]
def iX3_side : List (Nat × Instr × Nat) := [(0, .aload_n 0, 1), (1, .iload_n 1, 1), (2, .invokevirtual 152, 3), (5, .ifCond .ne 19, 3), (8, .aload_n 0, 1), (9, .iload_n 2, 1), (10, .invokevirtual 152, 3), (13, .ifCond .ne 11, 3), (16, .aload_n 0, 1), (17, .iload_n 3, 1), (18, .invokevirtual 152, 3), (21, .ifCond .eq 6, 3), (24, .ldc 155, 2), (26, .ireturn, 1), (27, .iload 4, 2), (29, .i2l, 1), (30, .lconst 0, 1), (31, .ldc2_w 145, 3), (34, .invokestatic 110, 3), (37, .ifCond .eq 13, 3), (40, .iload 5, 2), (42, .iload 6, 2), (44, .invokestatic 139, 3), (47, .ifCond .ne 6, 3), (50, .ldc 120, 2), (52, .ireturn, 1), (53, .iconst 0, 1), (54, .istore 7, 2), (56, .iload 7, 2), (58, .iconst 5, 1), (59, .if_icmp .ge 51, 3), (62, .aload_n 0, 1), (63, .getfield 54, 3), (66, .iload 7, 2), (68, .iload 7, 2), (70, .iload_n 1, 1), (71, .if_icmp .ne 7, 3), (74, .iconst 1, 1), (75, .goto 4, 3), (78, .iconst 0, 1), (79, .iload 7, 2), (81, .iload_n 2, 1), (82, .if_icmp .ne 7, 3), (85, .iconst 1, 1), (86, .goto 4, 3), (89, .iconst 0, 1), (90, .iadd, 1), (91, .iload 7, 2), (93, .iload_n 3, 1), (94, .if_icmp .ne 7, 3), (97, .iconst 1, 1), (98, .goto 4, 3), (101, .iconst 0, 1), (102, .isub, 1), (103, .iastore, 1), (104, .iinc 7 1, 3), (107, .goto (-51), 3), (110, .aload_n 0, 1), (111, .iconst 0, 1), (112, .iload 5, 2), (114, .iload 6, 2), (116, .iload 4, 2), (118, .ineg, 1), (119, .invokevirtual 148, 3), (122, .ireturn, 1)]
def iX3_take : List (Nat × Instr × Nat) := [(0, .aload_n 0, 1), (1, .iload_n 1, 1), (2, .invokevirtual 156, 3), (5, .ifCond .eq 6, 3), (8, .ldc 155, 2), (10, .ireturn, 1), (11, .aload_n 0, 1), (12, .getfield 16, 3), (15, .iload_n 1, 1), (16, .iconst 0, 1), (17, .bastore, 1), (18, .aload_n 0, 1), (19, .dup, 1), (20, .getfield 128, 3), (23, .iconst 1, 1), (24, .isub, 1), (25, .putfield 128, 3), (28, .aload_n 0, 1), (29, .getfield 128, 3), (32, .ireturn, 1)]
def iX3_hide : List (Nat × Instr × Nat) := [(0, .aload_n 0, 1), (1, .iload_n 1, 1), (2, .invokevirtual 156, 3), (5, .ifCond .eq 6, 3), (8, .ldc 155, 2), (10, .ireturn, 1), (11, .aload_n 0, 1), (12, .getfield 32, 3), (15, .iload_n 1, 1), (16, .baload, 1), (17, .istore_n 3, 1), (18, .aload_n 0, 1), (19, .getfield 32, 3), (22, .iload_n 1, 1), (23, .iload_n 2, 1), (24, .bastore, 1), (25, .iload_n 3, 1), (26, .ifCond .eq 33, 3), (29, .iload_n 2, 1), (30, .ifCond .ne 29, 3), (33, .aload_n 0, 1), (34, .getfield 23, 3), (37, .iload_n 1, 1), (38, .iaload, 1), (39, .ifCond .ne 20, 3), (42, .aload_n 0, 1), (43, .invokevirtual 131, 3), (46, .ifCond .eq 13, 3), (49, .aload_n 0, 1), (50, .getfield 32, 3), (53, .iload_n 1, 1), (54, .iconst 1, 1), (55, .bastore, 1), (56, .ldc 134, 2), (58, .ireturn, 1), (59, .iload_n 3, 1), (60, .ifCond .eq 7, 3), (63, .iconst 1, 1), (64, .goto 4, 3), (67, .iconst 0, 1), (68, .ireturn, 1)]
def iX3_drag : List (Nat × Instr × Nat) := [(0, .aload_n 0, 1), (1, .iload_n 1, 1), (2, .invokevirtual 156, 3), (5, .ifCond .eq 6, 3), (8, .ldc 155, 2), (10, .ireturn, 1), (11, .iload_n 2, 1), (12, .i2l, 1), (13, .ldc2_w 143, 3), (16, .ldc2_w 145, 3), (19, .invokestatic 110, 3), (22, .ifCond .ne 6, 3), (25, .ldc 120, 2), (27, .ireturn, 1), (28, .aload_n 0, 1), (29, .getfield 29, 3), (32, .iload_n 1, 1), (33, .iaload, 1), (34, .istore_n 3, 1), (35, .aload_n 0, 1), (36, .getfield 29, 3), (39, .iload_n 1, 1), (40, .iload_n 2, 1), (41, .iastore, 1), (42, .aload_n 0, 1), (43, .getfield 32, 3), (46, .iload_n 1, 1), (47, .baload, 1), (48, .ifCond .ne 29, 3), (51, .aload_n 0, 1), (52, .getfield 23, 3), (55, .iload_n 1, 1), (56, .iaload, 1), (57, .ifCond .ne 20, 3), (60, .aload_n 0, 1), (61, .invokevirtual 131, 3), (64, .ifCond .eq 13, 3), (67, .aload_n 0, 1), (68, .getfield 29, 3), (71, .iload_n 1, 1), (72, .iload_n 3, 1), (73, .iastore, 1), (74, .ldc 134, 2), (76, .ireturn, 1), (77, .iload_n 3, 1), (78, .ireturn, 1)]
def iX3_strength : List (Nat × Instr × Nat) := [(0, .aload_n 0, 1), (1, .iload_n 1, 1), (2, .invokevirtual 156, 3), (5, .ifCond .eq 6, 3), (8, .ldc 155, 2), (10, .ireturn, 1), (11, .iload_n 2, 1), (12, .iload_n 3, 1), (13, .invokestatic 139, 3), (16, .ifCond .ne 6, 3), (19, .ldc 120, 2), (21, .ireturn, 1), (22, .aload_n 0, 1), (23, .getfield 23, 3), (26, .iload_n 1, 1), (27, .iaload, 1), (28, .istore 4, 2), (30, .aload_n 0, 1), (31, .getfield 23, 3), (34, .iload_n 1, 1), (35, .iload_n 2, 1), (36, .iastore, 1), (37, .aload_n 0, 1), (38, .getfield 32, 3), (41, .iload_n 1, 1), (42, .baload, 1), (43, .ifCond .ne 25, 3), (46, .iload_n 2, 1), (47, .ifCond .ne 21, 3), (50, .aload_n 0, 1), (51, .invokevirtual 131, 3), (54, .ifCond .eq 14, 3), (57, .aload_n 0, 1), (58, .getfield 23, 3), (61, .iload_n 1, 1), (62, .iload 4, 2), (64, .iastore, 1), (65, .ldc 134, 2), (67, .ireturn, 1), (68, .aload_n 0, 1), (69, .getfield 26, 3), (72, .iload_n 1, 1), (73, .iload_n 3, 1), (74, .iastore, 1), (75, .iconst 1, 1), (76, .ireturn, 1)]
def iX3_told : List (Nat × Instr × Nat) := [(0, .aload_n 0, 1), (1, .iload_n 1, 1), (2, .invokevirtual 156, 3), (5, .ifCond .eq 6, 3), (8, .ldc 155, 2), (10, .ireturn, 1), (11, .iload_n 2, 1), (12, .tableswitch 79 0 4 #[36, 43, 50, 57, 64], 36), (48, .aload_n 0, 1), (49, .getfield 20, 3), (52, .iload_n 1, 1), (53, .iaload, 1), (54, .ireturn, 1), (55, .aload_n 0, 1), (56, .getfield 23, 3), (59, .iload_n 1, 1), (60, .iaload, 1), (61, .ireturn, 1), (62, .aload_n 0, 1), (63, .getfield 26, 3), (66, .iload_n 1, 1), (67, .iaload, 1), (68, .ireturn, 1), (69, .aload_n 0, 1), (70, .getfield 29, 3), (73, .iload_n 1, 1), (74, .iaload, 1), (75, .ireturn, 1), (76, .aload_n 0, 1), (77, .getfield 32, 3), (80, .iload_n 1, 1), (81, .baload, 1), (82, .ifCond .eq 7, 3), (85, .iconst 1, 1), (86, .goto 4, 3), (89, .iconst 0, 1), (90, .ireturn, 1), (91, .iload_n 2, 1), (92, .i2l, 1), (93, .ldc2_w 159, 3), (96, .ldc2_w 135, 3), (99, .invokestatic 110, 3), (102, .ifCond .eq 18, 3), (105, .aload_n 0, 1), (106, .getfield 35, 3), (109, .iconst 5, 1), (110, .iload_n 1, 1), (111, .imul, 1), (112, .iload_n 2, 1), (113, .iadd, 1), (114, .iconst 5, 1), (115, .isub, 1), (116, .iaload, 1), (117, .goto 5, 3), (120, .ldc 120, 2), (122, .ireturn, 1)]
def iX3_count : List (Nat × Instr × Nat) := [(0, .iload_n 1, 1), (1, .i2l, 1), (2, .lconst 0, 1), (3, .ldc2_w 126, 3), (6, .invokestatic 110, 3), (9, .ifCond .ne 6, 3), (12, .ldc 120, 2), (14, .ireturn, 1), (15, .iload_n 1, 1), (16, .iconst 2, 1), (17, .if_icmp .ge 19, 3), (20, .iload_n 1, 1), (21, .ifCond .ne 10, 3), (24, .aload_n 0, 1), (25, .getfield 61, 3), (28, .goto 7, 3), (31, .aload_n 0, 1), (32, .getfield 128, 3), (35, .ireturn, 1), (36, .aload_n 0, 1), (37, .invokevirtual 161, 3), (40, .iconst 0, 1), (41, .istore_n 2, 1), (42, .iconst 0, 1), (43, .istore_n 3, 1), (44, .iload_n 3, 1), (45, .bipush 9, 2), (47, .if_icmp .ge 75, 3), (50, .aload_n 0, 1), (51, .getfield 16, 3), (54, .iload_n 3, 1), (55, .baload, 1), (56, .ifCond .eq 60, 3), (59, .aload_n 0, 1), (60, .getfield 32, 3), (63, .iload_n 3, 1), (64, .baload, 1), (65, .ifCond .ne 51, 3), (68, .iload_n 2, 1), (69, .iload_n 1, 1), (70, .iconst 2, 1), (71, .if_icmp .ne 20, 3), (74, .aload_n 0, 1), (75, .getfield 23, 3), (78, .iload_n 3, 1), (79, .iaload, 1), (80, .ifCond .ne 7, 3), (83, .iconst 1, 1), (84, .goto 30, 3), (87, .iconst 0, 1), (88, .goto 26, 3), (91, .aload_n 0, 1), (92, .iload_n 3, 1), (93, .aload_n 0, 1), (94, .getfield 45, 3), (97, .aload_n 0, 1), (98, .getfield 84, 3), (101, .invokevirtual 80, 3), (104, .lconst 0, 1), (105, .lcmp, 1), (106, .ifCond .le 7, 3), (109, .iconst 1, 1), (110, .goto 4, 3), (113, .iconst 0, 1), (114, .iadd, 1), (115, .istore_n 2, 1), (116, .iinc 3 1, 3), (119, .goto (-75), 3), (122, .iload_n 2, 1), (123, .ireturn, 1)]
def iX3_quarrel : List (Nat × Instr × Nat) := [(0, .aload_n 0, 1), (1, .getfield 107, 3), (4, .ireturn, 1)]
def iX3_at : List (Nat × Instr × Nat) := [(0, .aload_n 0, 1), (1, .iload_n 1, 1), (2, .invokevirtual 152, 3), (5, .ifCond .eq 6, 3), (8, .ldc 155, 2), (10, .ireturn, 1), (11, .iload_n 2, 1), (12, .i2l, 1), (13, .lconst 0, 1), (14, .lconst 1, 1), (15, .invokestatic 110, 3), (18, .ifCond .ne 6, 3), (21, .ldc 120, 2), (23, .ireturn, 1), (24, .aload_n 0, 1), (25, .invokevirtual 161, 3), (28, .aload_n 0, 1), (29, .getfield 45, 3), (32, .iload_n 1, 1), (33, .laload, 1), (34, .aload_n 0, 1), (35, .getfield 84, 3), (38, .invokestatic 164, 3), (41, .lstore_n 3, 1), (42, .iload_n 2, 1), (43, .ifCond .ne 14, 3), (46, .aload_n 0, 1), (47, .getfield 45, 3), (50, .iload_n 1, 1), (51, .laload, 1), (52, .lload_n 3, 1), (53, .ldiv, 1), (54, .goto 9, 3), (57, .aload_n 0, 1), (58, .getfield 84, 3), (61, .lload_n 3, 1), (62, .ldiv, 1), (63, .l2i, 1), (64, .ireturn, 1)]
def iX3_floor : List (Nat × Instr × Nat) := [(0, .lload_n 0, 1), (1, .lload_n 2, 1), (2, .ldiv, 1), (3, .lstore 4, 2), (5, .lload_n 0, 1), (6, .lload_n 2, 1), (7, .lrem, 1), (8, .lconst 0, 1), (9, .lcmp, 1), (10, .ifCond .eq 16, 3), (13, .lload_n 0, 1), (14, .lconst 0, 1), (15, .lcmp, 1), (16, .ifCond .ge 10, 3), (19, .lload 4, 2), (21, .lconst 1, 1), (22, .lsub, 1), (23, .goto 5, 3), (26, .lload 4, 2), (28, .lreturn, 1)]
def iX3_pixelOf : List (Nat × Instr × Nat) := [(0, .ldc2_w 137, 3), (3, .aload_n 0, 1), (4, .getfield 45, 3), (7, .iload_n 1, 1), (8, .laload, 1), (9, .lmul, 1), (10, .aload_n 0, 1), (11, .getfield 84, 3), (14, .ladd, 1), (15, .ldc2_w 137, 3), (18, .aload_n 0, 1), (19, .getfield 84, 3), (22, .lmul, 1), (23, .invokestatic 168, 3), (26, .lreturn, 1)]
def iX3_pixel : List (Nat × Instr × Nat) := [(0, .aload_n 0, 1), (1, .iload_n 1, 1), (2, .invokevirtual 152, 3), (5, .ifCond .eq 6, 3), (8, .ldc 155, 2), (10, .ireturn, 1), (11, .aload_n 0, 1), (12, .invokevirtual 161, 3), (15, .aload_n 0, 1), (16, .iload_n 1, 1), (17, .invokevirtual 171, 3), (20, .l2i, 1), (21, .ireturn, 1)]
def iX3_off : List (Nat × Instr × Nat) := [(0, .aload_n 0, 1), (1, .iload_n 1, 1), (2, .invokevirtual 156, 3), (5, .ifCond .eq 7, 3), (8, .ldc2_w 175, 3), (11, .lreturn, 1), (12, .iload_n 2, 1), (13, .i2l, 1), (14, .lconst 0, 1), (15, .lconst 1, 1), (16, .invokestatic 110, 3), (19, .ifCond .ne 7, 3), (22, .ldc2_w 177, 3), (25, .lreturn, 1), (26, .aload_n 0, 1), (27, .invokevirtual 161, 3), (30, .aload_n 0, 1), (31, .iload_n 1, 1), (32, .aload_n 0, 1), (33, .getfield 45, 3), (36, .aload_n 0, 1), (37, .getfield 84, 3), (40, .invokevirtual 80, 3), (43, .lstore_n 3, 1), (44, .lload_n 3, 1), (45, .aload_n 0, 1), (46, .getfield 84, 3), (49, .invokestatic 164, 3), (52, .lstore 5, 2), (54, .iload_n 2, 1), (55, .ifCond .ne 10, 3), (58, .lload_n 3, 1), (59, .lload 5, 2), (61, .ldiv, 1), (62, .goto 10, 3), (65, .aload_n 0, 1), (66, .getfield 84, 3), (69, .lload 5, 2), (71, .ldiv, 1), (72, .lreturn, 1)]
def iX3_cost : List (Nat × Instr × Nat) := [(0, .iload_n 1, 1), (1, .i2l, 1), (2, .lconst 1, 1), (3, .ldc2_w 126, 3), (6, .invokestatic 110, 3), (9, .ifCond .eq 13, 3), (12, .iload_n 2, 1), (13, .i2l, 1), (14, .lconst 0, 1), (15, .lconst 1, 1), (16, .invokestatic 110, 3), (19, .ifCond .ne 7, 3), (22, .ldc2_w 177, 3), (25, .lreturn, 1), (26, .aload_n 0, 1), (27, .invokevirtual 161, 3), (30, .aload_n 0, 1), (31, .getfield 51, 3), (34, .iload_n 1, 1), (35, .iconst 1, 1), (36, .isub, 1), (37, .laload, 1), (38, .lstore_n 3, 1), (39, .lload_n 3, 1), (40, .aload_n 0, 1), (41, .getfield 84, 3), (44, .invokestatic 164, 3), (47, .lstore 5, 2), (49, .iload_n 2, 1), (50, .ifCond .ne 10, 3), (53, .lload_n 3, 1), (54, .lload 5, 2), (56, .ldiv, 1), (57, .goto 10, 3), (60, .aload_n 0, 1), (61, .getfield 84, 3), (64, .lload 5, 2), (66, .ldiv, 1), (67, .lreturn, 1)]
def iX3_why : List (Nat × Instr × Nat) := [(0, .aload_n 0, 1), (1, .iload_n 1, 1), (2, .invokevirtual 156, 3), (5, .ifCond .eq 6, 3), (8, .ldc 155, 2), (10, .ireturn, 1), (11, .aload_n 0, 1), (12, .getfield 32, 3), (15, .iload_n 1, 1), (16, .baload, 1), (17, .ifCond .eq 5, 3), (20, .iconst 0, 1), (21, .ireturn, 1), (22, .aload_n 0, 1), (23, .invokevirtual 161, 3), (26, .aload_n 0, 1), (27, .iload_n 1, 1), (28, .aload_n 0, 1), (29, .getfield 45, 3), (32, .aload_n 0, 1), (33, .getfield 84, 3), (36, .invokevirtual 80, 3), (39, .lstore_n 2, 1), (40, .aload_n 0, 1), (41, .getfield 84, 3), (44, .lstore 4, 2), (46, .lload_n 2, 1), (47, .lconst 0, 1), (48, .lcmp, 1), (49, .ifCond .ne 5, 3), (52, .iconst 0, 1), (53, .ireturn, 1), (54, .aload_n 0, 1), (55, .invokevirtual 100, 3), (58, .istore 6, 2), (60, .iconst 0, 1), (61, .istore 7, 2), (63, .iconst 0, 1), (64, .istore 8, 2), (66, .iload 8, 2), (68, .bipush 9, 2), (70, .if_icmp .ge 100, 3), (73, .iload 8, 2), (75, .iload_n 1, 1), (76, .if_icmp .eq 88, 3), (79, .iload 6, 2), (81, .iload 8, 2), (83, .ishr, 1), (84, .iconst 1, 1), (85, .iand, 1), (86, .iconst 1, 1), (87, .if_icmp .ne 77, 3), (90, .aload_n 0, 1), (91, .getfield 23, 3), (94, .iload 8, 2), (96, .iaload, 1), (97, .aload_n 0, 1), (98, .getfield 23, 3), (101, .iload_n 1, 1), (102, .iaload, 1), (103, .if_icmp .gt 61, 3), (106, .aload_n 0, 1), (107, .iload 6, 2), (109, .iconst 1, 1), (110, .iload 8, 2), (112, .ishl, 1), (113, .iconst (-1), 1), (114, .ixor, 1), (115, .iand, 1), (116, .putfield 73, 3), (119, .aload_n 0, 1), (120, .invokevirtual 104, 3), (123, .istore 9, 2), (125, .iload 7, 2), (127, .aload_n 0, 1), (128, .iload_n 1, 1), (129, .aload_n 0, 1), (130, .getfield 45, 3), (133, .aload_n 0, 1), (134, .getfield 84, 3), (137, .invokevirtual 80, 3), (140, .lload 4, 2), (142, .lmul, 1), (143, .lload_n 2, 1), (144, .aload_n 0, 1), (145, .getfield 84, 3), (148, .lmul, 1), (149, .lcmp, 1), (150, .ifCond .ge 10, 3), (153, .iconst 1, 1), (154, .iload 8, 2), (156, .ishl, 1), (157, .goto 4, 3), (160, .iconst 0, 1), (161, .ior, 1), (162, .istore 7, 2), (164, .iinc 8 1, 3), (167, .goto (-101), 3), (170, .iload 7, 2), (172, .ireturn, 1)]
def iX3_stay : List (Nat × Instr × Nat) := [(0, .aload_n 0, 1), (1, .iload_n 1, 1), (2, .invokevirtual 152, 3), (5, .ifCond .eq 8, 3), (8, .ldc 155, 2), (10, .goto 9, 3), (13, .aload_n 0, 1), (14, .getfield 7, 3), (17, .iload_n 1, 1), (18, .iaload, 1), (19, .ireturn, 1)]
def iX3_move : List (Nat × Instr × Nat) := [(0, .aload_n 0, 1), (1, .iload_n 1, 1), (2, .invokevirtual 152, 3), (5, .ifCond .eq 6, 3), (8, .ldc 155, 2), (10, .ireturn, 1), (11, .iload_n 2, 1), (12, .i2l, 1), (13, .ldc2_w 116, 3), (16, .ldc2_w 118, 3), (19, .invokestatic 110, 3), (22, .ifCond .ne 6, 3), (25, .ldc 120, 2), (27, .ireturn, 1), (28, .aload_n 0, 1), (29, .getfield 7, 3), (32, .iload_n 1, 1), (33, .iaload, 1), (34, .istore_n 3, 1), (35, .aload_n 0, 1), (36, .getfield 7, 3), (39, .iload_n 1, 1), (40, .iload_n 2, 1), (41, .iastore, 1), (42, .iload_n 3, 1), (43, .ireturn, 1)]
def iX3_settle : List (Nat × Instr × Nat) := [(0, .aload_n 0, 1), (1, .invokevirtual 161, 3), (4, .iconst 0, 1), (5, .istore_n 1, 1), (6, .iload_n 1, 1), (7, .aload_n 0, 1), (8, .getfield 61, 3), (11, .if_icmp .ge 29, 3), (14, .aload_n 0, 1), (15, .iload_n 1, 1), (16, .invokevirtual 171, 3), (19, .ldc2_w 116, 3), (22, .ldc2_w 118, 3), (25, .invokestatic 110, 3), (28, .ifCond .ne 6, 3), (31, .ldc 147, 2), (33, .ireturn, 1), (34, .iinc 1 1, 3), (37, .goto (-31), 3), (40, .iconst 0, 1), (41, .istore_n 1, 1), (42, .iconst 0, 1), (43, .istore_n 2, 1), (44, .iload_n 2, 1), (45, .aload_n 0, 1), (46, .getfield 61, 3), (49, .if_icmp .ge 41, 3), (52, .aload_n 0, 1), (53, .iload_n 2, 1), (54, .invokevirtual 171, 3), (57, .l2i, 1), (58, .istore_n 3, 1), (59, .iload_n 1, 1), (60, .aload_n 0, 1), (61, .getfield 7, 3), (64, .iload_n 2, 1), (65, .iaload, 1), (66, .iload_n 3, 1), (67, .if_icmp .eq 7, 3), (70, .iconst 1, 1), (71, .goto 4, 3), (74, .iconst 0, 1), (75, .iadd, 1), (76, .istore_n 1, 1), (77, .aload_n 0, 1), (78, .getfield 7, 3), (81, .iload_n 2, 1), (82, .iload_n 3, 1), (83, .iastore, 1), (84, .iinc 2 1, 3), (87, .goto (-43), 3), (90, .iload_n 1, 1), (91, .ireturn, 1)]
def iJ6_bitCount_0f7a4 : List (Nat × Instr × Nat) := [(0, .iload_n 0, 1), (1, .iload_n 0, 1), (2, .iconst 1, 1), (3, .iushr, 1), (4, .ldc_w 265, 3), (7, .iand, 1), (8, .isub, 1), (9, .istore_n 0, 1), (10, .iload_n 0, 1), (11, .ldc_w 266, 3), (14, .iand, 1), (15, .iload_n 0, 1), (16, .iconst 2, 1), (17, .iushr, 1), (18, .ldc_w 266, 3), (21, .iand, 1), (22, .iadd, 1), (23, .istore_n 0, 1), (24, .iload_n 0, 1), (25, .iload_n 0, 1), (26, .iconst 4, 1), (27, .iushr, 1), (28, .iadd, 1), (29, .ldc_w 267, 3), (32, .iand, 1), (33, .istore_n 0, 1), (34, .iload_n 0, 1), (35, .iload_n 0, 1), (36, .bipush 8, 2), (38, .iushr, 1), (39, .iadd, 1), (40, .istore_n 0, 1), (41, .iload_n 0, 1), (42, .iload_n 0, 1), (43, .bipush 16, 2), (45, .iushr, 1), (46, .iadd, 1), (47, .istore_n 0, 1), (48, .iload_n 0, 1), (49, .bipush 63, 2), (51, .iand, 1), (52, .ireturn, 1)]
def iJ9_floorDiv_f86c9 : List (Nat × Instr × Nat) := [(0, .lload_n 0, 1), (1, .lload_n 2, 1), (2, .ldiv, 1), (3, .lstore 4, 2), (5, .lload_n 0, 1), (6, .lload_n 2, 1), (7, .lxor, 1), (8, .lconst 0, 1), (9, .lcmp, 1), (10, .ifCond .ge 17, 3), (13, .lload 4, 2), (15, .lload_n 2, 1), (16, .lmul, 1), (17, .lload_n 0, 1), (18, .lcmp, 1), (19, .ifCond .eq 8, 3), (22, .lload 4, 2), (24, .lconst 1, 1), (25, .lsub, 1), (26, .lreturn, 1), (27, .lload 4, 2), (29, .lreturn, 1)]
def iJ9_abs_067f4 : List (Nat × Instr × Nat) := [(0, .lload_n 0, 1), (1, .lconst 0, 1), (2, .lcmp, 1), (3, .ifCond .ge 8, 3), (6, .lload_n 0, 1), (7, .lneg, 1), (8, .goto 4, 3), (11, .lload_n 0, 1), (12, .lreturn, 1)]
def iJ9_max_f86c9 : List (Nat × Instr × Nat) := [(0, .lload_n 0, 1), (1, .lload_n 2, 1), (2, .lcmp, 1), (3, .ifCond .lt 7, 3), (6, .lload_n 0, 1), (7, .goto 4, 3), (10, .lload_n 2, 1), (11, .lreturn, 1)]
def iJ9_min_7cf53 : List (Nat × Instr × Nat) := [(0, .iload_n 0, 1), (1, .iload_n 1, 1), (2, .if_icmp .gt 7, 3), (5, .iload_n 0, 1), (6, .goto 4, 3), (9, .iload_n 1, 1), (10, .ireturn, 1)]
def iJ7_fill_d0a16 : List (Nat × Instr × Nat) := [(0, .iconst 0, 1), (1, .istore_n 3, 1), (2, .aload_n 0, 1), (3, .arraylength, 1), (4, .istore 4, 2), (6, .iload_n 3, 1), (7, .iload 4, 2), (9, .if_icmp .ge 13, 3), (12, .aload_n 0, 1), (13, .iload_n 3, 1), (14, .lload_n 1, 1), (15, .lastore, 1), (16, .iinc 3 1, 3), (19, .goto (-13), 3), (22, .return_, 1)]
def iJ7_fill_53178 : List (Nat × Instr × Nat) := [(0, .iconst 0, 1), (1, .istore_n 2, 1), (2, .aload_n 0, 1), (3, .arraylength, 1), (4, .istore_n 3, 1), (5, .iload_n 2, 1), (6, .iload_n 3, 1), (7, .if_icmp .ge 13, 3), (10, .aload_n 0, 1), (11, .iload_n 2, 1), (12, .iload_n 1, 1), (13, .iastore, 1), (14, .iinc 2 1, 3), (17, .goto (-12), 3), (20, .return_, 1)]
def iL_law : List (Nat × Instr × Nat) := [(0, .new 7, 3), (3, .dup, 1), (4, .invokespecial 9, 3), (7, .astore_n 1, 1), (8, .new 10, 3), (11, .dup, 1), (12, .invokespecial 12, 3), (15, .astore_n 2, 1), (16, .iconst 0, 1), (17, .istore_n 3, 1), (18, .iload_n 3, 1), (19, .aload_n 0, 1), (20, .arraylength, 1), (21, .bipush 7, 2), (23, .isub, 1), (24, .if_icmp .gt 723, 3), (27, .aload_n 0, 1), (28, .iload_n 3, 1), (29, .iaload, 1), (30, .bipush 31, 2), (32, .iand, 1), (33, .tableswitch 708 0 18 #[91, 114, 147, 200, 275, 298, 347, 380, 423, 456, 479, 492, 525, 548, 582, 616, 639, 662, 695], 91), (124, .aload_n 1, 1), (125, .aload_n 0, 1), (126, .iload_n 3, 1), (127, .iconst 1, 1), (128, .iadd, 1), (129, .iaload, 1), (130, .invokevirtual 13, 3), (133, .aload_n 2, 1), (134, .aload_n 0, 1), (135, .iload_n 3, 1), (136, .iconst 1, 1), (137, .iadd, 1), (138, .iaload, 1), (139, .invokevirtual 17, 3), (142, .if_icmp .eq 599, 3), (145, .iconst 0, 1), (146, .ireturn, 1), (147, .aload_n 1, 1), (148, .aload_n 0, 1), (149, .iload_n 3, 1), (150, .iconst 1, 1), (151, .iadd, 1), (152, .iaload, 1), (153, .aload_n 0, 1), (154, .iload_n 3, 1), (155, .iconst 2, 1), (156, .iadd, 1), (157, .iaload, 1), (158, .invokevirtual 18, 3), (161, .aload_n 2, 1), (162, .aload_n 0, 1), (163, .iload_n 3, 1), (164, .iconst 1, 1), (165, .iadd, 1), (166, .iaload, 1), (167, .aload_n 0, 1), (168, .iload_n 3, 1), (169, .iconst 2, 1), (170, .iadd, 1), (171, .iaload, 1), (172, .invokevirtual 22, 3), (175, .if_icmp .eq 566, 3), (178, .iconst 0, 1), (179, .ireturn, 1), (180, .aload_n 1, 1), (181, .aload_n 0, 1), (182, .iload_n 3, 1), (183, .iconst 1, 1), (184, .iadd, 1), (185, .iaload, 1), (186, .aload_n 0, 1), (187, .iload_n 3, 1), (188, .iconst 2, 1), (189, .iadd, 1), (190, .iaload, 1), (191, .aload_n 0, 1), (192, .iload_n 3, 1), (193, .iconst 3, 1), (194, .iadd, 1), (195, .iaload, 1), (196, .aload_n 0, 1), (197, .iload_n 3, 1), (198, .iconst 4, 1), (199, .iadd, 1), (200, .iaload, 1), (201, .invokevirtual 23, 3), (204, .aload_n 2, 1), (205, .aload_n 0, 1), (206, .iload_n 3, 1), (207, .iconst 1, 1), (208, .iadd, 1), (209, .iaload, 1), (210, .aload_n 0, 1), (211, .iload_n 3, 1), (212, .iconst 2, 1), (213, .iadd, 1), (214, .iaload, 1), (215, .aload_n 0, 1), (216, .iload_n 3, 1), (217, .iconst 3, 1), (218, .iadd, 1), (219, .iaload, 1), (220, .aload_n 0, 1), (221, .iload_n 3, 1), (222, .iconst 4, 1), (223, .iadd, 1), (224, .iaload, 1), (225, .invokevirtual 27, 3), (228, .if_icmp .eq 513, 3), (231, .iconst 0, 1), (232, .ireturn, 1), (233, .aload_n 1, 1), (234, .aload_n 0, 1), (235, .iload_n 3, 1), (236, .iconst 1, 1), (237, .iadd, 1), (238, .iaload, 1), (239, .aload_n 0, 1), (240, .iload_n 3, 1), (241, .iconst 2, 1), (242, .iadd, 1), (243, .iaload, 1), (244, .aload_n 0, 1), (245, .iload_n 3, 1), (246, .iconst 3, 1), (247, .iadd, 1), (248, .iaload, 1), (249, .aload_n 0, 1), (250, .iload_n 3, 1), (251, .iconst 4, 1), (252, .iadd, 1), (253, .iaload, 1), (254, .aload_n 0, 1), (255, .iload_n 3, 1), (256, .iconst 5, 1), (257, .iadd, 1), (258, .iaload, 1), (259, .aload_n 0, 1), (260, .iload_n 3, 1), (261, .bipush 6, 2), (263, .iadd, 1), (264, .iaload, 1), (265, .invokevirtual 28, 3), (268, .aload_n 2, 1), (269, .aload_n 0, 1), (270, .iload_n 3, 1), (271, .iconst 1, 1), (272, .iadd, 1), (273, .iaload, 1), (274, .aload_n 0, 1), (275, .iload_n 3, 1), (276, .iconst 2, 1), (277, .iadd, 1), (278, .iaload, 1), (279, .aload_n 0, 1), (280, .iload_n 3, 1), (281, .iconst 3, 1), (282, .iadd, 1), (283, .iaload, 1), (284, .aload_n 0, 1), (285, .iload_n 3, 1), (286, .iconst 4, 1), (287, .iadd, 1), (288, .iaload, 1), (289, .aload_n 0, 1), (290, .iload_n 3, 1), (291, .iconst 5, 1), (292, .iadd, 1), (293, .iaload, 1), (294, .aload_n 0, 1), (295, .iload_n 3, 1), (296, .bipush 6, 2), (298, .iadd, 1), (299, .iaload, 1), (300, .invokevirtual 32, 3), (303, .if_icmp .eq 438, 3), (306, .iconst 0, 1), (307, .ireturn, 1), (308, .aload_n 1, 1), (309, .aload_n 0, 1), (310, .iload_n 3, 1), (311, .iconst 1, 1), (312, .iadd, 1), (313, .iaload, 1), (314, .invokevirtual 33, 3), (317, .aload_n 2, 1), (318, .aload_n 0, 1), (319, .iload_n 3, 1), (320, .iconst 1, 1), (321, .iadd, 1), (322, .iaload, 1), (323, .invokevirtual 36, 3), (326, .if_icmp .eq 415, 3), (329, .iconst 0, 1), (330, .ireturn, 1), (331, .aload_n 1, 1), (332, .aload_n 0, 1), (333, .iload_n 3, 1), (334, .iconst 1, 1), (335, .iadd, 1), (336, .iaload, 1), (337, .aload_n 0, 1), (338, .iload_n 3, 1), (339, .iconst 2, 1), (340, .iadd, 1), (341, .iaload, 1), (342, .ifCond .eq 7, 3), (345, .iconst 1, 1), (346, .goto 4, 3), (349, .iconst 0, 1), (350, .invokevirtual 37, 3), (353, .aload_n 2, 1), (354, .aload_n 0, 1), (355, .iload_n 3, 1), (356, .iconst 1, 1), (357, .iadd, 1), (358, .iaload, 1), (359, .aload_n 0, 1), (360, .iload_n 3, 1), (361, .iconst 2, 1), (362, .iadd, 1), (363, .iaload, 1), (364, .ifCond .eq 7, 3), (367, .iconst 1, 1), (368, .goto 4, 3), (371, .iconst 0, 1), (372, .invokevirtual 41, 3), (375, .if_icmp .eq 366, 3), (378, .iconst 0, 1), (379, .ireturn, 1), (380, .aload_n 1, 1), (381, .aload_n 0, 1), (382, .iload_n 3, 1), (383, .iconst 1, 1), (384, .iadd, 1), (385, .iaload, 1), (386, .aload_n 0, 1), (387, .iload_n 3, 1), (388, .iconst 2, 1), (389, .iadd, 1), (390, .iaload, 1), (391, .invokevirtual 42, 3), (394, .aload_n 2, 1), (395, .aload_n 0, 1), (396, .iload_n 3, 1), (397, .iconst 1, 1), (398, .iadd, 1), (399, .iaload, 1), (400, .aload_n 0, 1), (401, .iload_n 3, 1), (402, .iconst 2, 1), (403, .iadd, 1), (404, .iaload, 1), (405, .invokevirtual 45, 3), (408, .if_icmp .eq 333, 3), (411, .iconst 0, 1), (412, .ireturn, 1), (413, .aload_n 1, 1), (414, .aload_n 0, 1), (415, .iload_n 3, 1), (416, .iconst 1, 1), (417, .iadd, 1), (418, .iaload, 1), (419, .aload_n 0, 1), (420, .iload_n 3, 1), (421, .iconst 2, 1), (422, .iadd, 1), (423, .iaload, 1), (424, .aload_n 0, 1), (425, .iload_n 3, 1), (426, .iconst 3, 1), (427, .iadd, 1), (428, .iaload, 1), (429, .invokevirtual 46, 3), (432, .aload_n 2, 1), (433, .aload_n 0, 1), (434, .iload_n 3, 1), (435, .iconst 1, 1), (436, .iadd, 1), (437, .iaload, 1), (438, .aload_n 0, 1), (439, .iload_n 3, 1), (440, .iconst 2, 1), (441, .iadd, 1), (442, .iaload, 1), (443, .aload_n 0, 1), (444, .iload_n 3, 1), (445, .iconst 3, 1), (446, .iadd, 1), (447, .iaload, 1), (448, .invokevirtual 50, 3), (451, .if_icmp .eq 290, 3), (454, .iconst 0, 1), (455, .ireturn, 1), (456, .aload_n 1, 1), (457, .aload_n 0, 1), (458, .iload_n 3, 1), (459, .iconst 1, 1), (460, .iadd, 1), (461, .iaload, 1), (462, .aload_n 0, 1), (463, .iload_n 3, 1), (464, .iconst 2, 1), (465, .iadd, 1), (466, .iaload, 1), (467, .invokevirtual 51, 3), (470, .aload_n 2, 1), (471, .aload_n 0, 1), (472, .iload_n 3, 1), (473, .iconst 1, 1), (474, .iadd, 1), (475, .iaload, 1), (476, .aload_n 0, 1), (477, .iload_n 3, 1), (478, .iconst 2, 1), (479, .iadd, 1), (480, .iaload, 1), (481, .invokevirtual 54, 3), (484, .if_icmp .eq 257, 3), (487, .iconst 0, 1), (488, .ireturn, 1), (489, .aload_n 1, 1), (490, .aload_n 0, 1), (491, .iload_n 3, 1), (492, .iconst 1, 1), (493, .iadd, 1), (494, .iaload, 1), (495, .invokevirtual 55, 3), (498, .aload_n 2, 1), (499, .aload_n 0, 1), (500, .iload_n 3, 1), (501, .iconst 1, 1), (502, .iadd, 1), (503, .iaload, 1), (504, .invokevirtual 58, 3), (507, .if_icmp .eq 234, 3), (510, .iconst 0, 1), (511, .ireturn, 1), (512, .aload_n 1, 1), (513, .invokevirtual 59, 3), (516, .aload_n 2, 1), (517, .invokevirtual 63, 3), (520, .if_icmp .eq 221, 3), (523, .iconst 0, 1), (524, .ireturn, 1), (525, .aload_n 1, 1), (526, .aload_n 0, 1), (527, .iload_n 3, 1), (528, .iconst 1, 1), (529, .iadd, 1), (530, .iaload, 1), (531, .aload_n 0, 1), (532, .iload_n 3, 1), (533, .iconst 2, 1), (534, .iadd, 1), (535, .iaload, 1), (536, .invokevirtual 64, 3), (539, .aload_n 2, 1), (540, .aload_n 0, 1), (541, .iload_n 3, 1), (542, .iconst 1, 1), (543, .iadd, 1), (544, .iaload, 1), (545, .aload_n 0, 1), (546, .iload_n 3, 1), (547, .iconst 2, 1), (548, .iadd, 1), (549, .iaload, 1), (550, .invokevirtual 67, 3), (553, .if_icmp .eq 188, 3), (556, .iconst 0, 1), (557, .ireturn, 1), (558, .aload_n 1, 1), (559, .aload_n 0, 1), (560, .iload_n 3, 1), (561, .iconst 1, 1), (562, .iadd, 1), (563, .iaload, 1), (564, .invokevirtual 68, 3), (567, .aload_n 2, 1), (568, .aload_n 0, 1), (569, .iload_n 3, 1), (570, .iconst 1, 1), (571, .iadd, 1), (572, .iaload, 1), (573, .invokevirtual 71, 3), (576, .if_icmp .eq 165, 3), (579, .iconst 0, 1), (580, .ireturn, 1), (581, .aload_n 1, 1), (582, .aload_n 0, 1), (583, .iload_n 3, 1), (584, .iconst 1, 1), (585, .iadd, 1), (586, .iaload, 1), (587, .aload_n 0, 1), (588, .iload_n 3, 1), (589, .iconst 2, 1), (590, .iadd, 1), (591, .iaload, 1), (592, .invokevirtual 72, 3), (595, .aload_n 2, 1), (596, .aload_n 0, 1), (597, .iload_n 3, 1), (598, .iconst 1, 1), (599, .iadd, 1), (600, .iaload, 1), (601, .aload_n 0, 1), (602, .iload_n 3, 1), (603, .iconst 2, 1), (604, .iadd, 1), (605, .iaload, 1), (606, .invokevirtual 76, 3), (609, .lcmp, 1), (610, .ifCond .eq 131, 3), (613, .iconst 0, 1), (614, .ireturn, 1), (615, .aload_n 1, 1), (616, .aload_n 0, 1), (617, .iload_n 3, 1), (618, .iconst 1, 1), (619, .iadd, 1), (620, .iaload, 1), (621, .aload_n 0, 1), (622, .iload_n 3, 1), (623, .iconst 2, 1), (624, .iadd, 1), (625, .iaload, 1), (626, .invokevirtual 77, 3), (629, .aload_n 2, 1), (630, .aload_n 0, 1), (631, .iload_n 3, 1), (632, .iconst 1, 1), (633, .iadd, 1), (634, .iaload, 1), (635, .aload_n 0, 1), (636, .iload_n 3, 1), (637, .iconst 2, 1), (638, .iadd, 1), (639, .iaload, 1), (640, .invokevirtual 80, 3), (643, .lcmp, 1), (644, .ifCond .eq 97, 3), (647, .iconst 0, 1), (648, .ireturn, 1), (649, .aload_n 1, 1), (650, .aload_n 0, 1), (651, .iload_n 3, 1), (652, .iconst 1, 1), (653, .iadd, 1), (654, .iaload, 1), (655, .invokevirtual 81, 3), (658, .aload_n 2, 1), (659, .aload_n 0, 1), (660, .iload_n 3, 1), (661, .iconst 1, 1), (662, .iadd, 1), (663, .iaload, 1), (664, .invokevirtual 84, 3), (667, .if_icmp .eq 74, 3), (670, .iconst 0, 1), (671, .ireturn, 1), (672, .aload_n 1, 1), (673, .aload_n 0, 1), (674, .iload_n 3, 1), (675, .iconst 1, 1), (676, .iadd, 1), (677, .iaload, 1), (678, .invokevirtual 85, 3), (681, .aload_n 2, 1), (682, .aload_n 0, 1), (683, .iload_n 3, 1), (684, .iconst 1, 1), (685, .iadd, 1), (686, .iaload, 1), (687, .invokevirtual 88, 3), (690, .if_icmp .eq 51, 3), (693, .iconst 0, 1), (694, .ireturn, 1), (695, .aload_n 1, 1), (696, .aload_n 0, 1), (697, .iload_n 3, 1), (698, .iconst 1, 1), (699, .iadd, 1), (700, .iaload, 1), (701, .aload_n 0, 1), (702, .iload_n 3, 1), (703, .iconst 2, 1), (704, .iadd, 1), (705, .iaload, 1), (706, .invokevirtual 89, 3), (709, .aload_n 2, 1), (710, .aload_n 0, 1), (711, .iload_n 3, 1), (712, .iconst 1, 1), (713, .iadd, 1), (714, .iaload, 1), (715, .aload_n 0, 1), (716, .iload_n 3, 1), (717, .iconst 2, 1), (718, .iadd, 1), (719, .iaload, 1), (720, .invokevirtual 92, 3), (723, .if_icmp .eq 18, 3), (726, .iconst 0, 1), (727, .ireturn, 1), (728, .aload_n 1, 1), (729, .invokevirtual 93, 3), (732, .aload_n 2, 1), (733, .invokevirtual 96, 3), (736, .if_icmp .eq 5, 3), (739, .iconst 0, 1), (740, .ireturn, 1), (741, .iinc 3 7, 3), (744, .goto (-726), 3), (747, .iconst 1, 1), (748, .ireturn, 1)]
theorem jX0_load_0 : ∀ e ∈ ([(0, .aload_n 0, 1), (1, .lconst 1, 1), (2, .putfield 9, 3), (5, .aload_n 0, 1), (6, .iload 4, 2), (8, .iconst 5, 1), (9, .invokestatic 52, 3), (12, .putfield 58, 3), (15, .iconst 0, 1), (16, .istore 5, 2), (18, .iload 5, 2), (20, .aload_n 0, 1), (21, .getfield 58, 3), (24, .if_icmp .ge 68, 3), (27, .aload_n 0, 1), (28, .getfield 37, 3), (31, .iload 5, 2), (33, .aload_n 3, 1), (34, .iload 5, 2), (36, .iaload, 1), (37, .iastore, 1), (38, .aload_n 0, 1), (39, .getfield 26, 3), (42, .iload 5, 2), (44, .bipush 9, 2), (46, .iload 5, 2), (48, .iadd, 1), (49, .iastore, 1), (50, .aload_n 0, 1), (51, .getfield 40, 3), (54, .bipush 9, 2), (56, .iload 5, 2), (58, .iadd, 1), (59, .iconst 4, 1), (60, .iload 5, 2), (62, .iadd, 1), (63, .iastore, 1), (64, .aload_n 0, 1), (65, .getfield 43, 3), (68, .bipush 9, 2)] : List (Nat × Instr × Nat)), decode cX0_load e.1 = .ok (e.2.1, e.2.2) := by decide +kernel
theorem jX0_load_1 : ∀ e ∈ ([(70, .iload 5, 2), (72, .iadd, 1), (73, .iconst 1, 1), (74, .iastore, 1), (75, .aload_n 0, 1), (76, .getfield 46, 3), (79, .bipush 9, 2), (81, .iload 5, 2), (83, .iadd, 1), (84, .iconst 1, 1), (85, .iastore, 1), (86, .iinc 5 1, 3), (89, .goto (-71), 3), (92, .aload_n 0, 1), (93, .iconst 0, 1), (94, .putfield 62, 3), (97, .iconst 0, 1), (98, .istore 5, 2), (100, .iload 5, 2), (102, .bipush 9, 2), (104, .if_icmp .ge 36, 3), (107, .iload 5, 2), (109, .aload_n 1, 1), (110, .arraylength, 1), (111, .if_icmp .ge 29, 3), (114, .iload_n 2, 1), (115, .iload 5, 2), (117, .ishr, 1), (118, .iconst 1, 1), (119, .iand, 1), (120, .iconst 1, 1), (121, .if_icmp .ne 13, 3), (124, .aload_n 0, 1), (125, .iload 5, 2), (127, .aload_n 1, 1), (128, .iload 5, 2), (130, .aaload, 1), (131, .invokevirtual 65, 3), (134, .iinc 5 1, 3), (137, .goto (-37), 3)] : List (Nat × Instr × Nat)), decode cX0_load e.1 = .ok (e.2.1, e.2.2) := by decide +kernel
theorem jX0_load_2 : ∀ e ∈ ([(140, .return_, 1)] : List (Nat × Instr × Nat)), decode cX0_load e.1 = .ok (e.2.1, e.2.2) := by decide +kernel
set_option maxRecDepth 100000 in
theorem jX0_load : ∀ e ∈ iX0_load, decode cX0_load e.1 = .ok (e.2.1, e.2.2) := (List.forall_mem_append.mpr ⟨jX0_load_0, (List.forall_mem_append.mpr ⟨jX0_load_1, jX0_load_2⟩)⟩)
theorem jX0_addRow_0 : ∀ e ∈ ([(0, .aload_n 0, 1), (1, .getfield 40, 3), (4, .iload_n 1, 1), (5, .aload_n 2, 1), (6, .getfield 69, 3), (9, .iastore, 1), (10, .aload_n 0, 1), (11, .getfield 43, 3), (14, .iload_n 1, 1), (15, .aload_n 2, 1), (16, .invokevirtual 73, 3), (19, .iastore, 1), (20, .aload_n 0, 1), (21, .getfield 46, 3), (24, .iload_n 1, 1), (25, .aload_n 2, 1), (26, .invokevirtual 77, 3), (29, .iastore, 1), (30, .aload_n 2, 1), (31, .getfield 80, 3), (34, .ineg, 1), (35, .i2l, 1), (36, .lstore_n 3, 1), (37, .iconst 0, 1), (38, .istore 5, 2), (40, .iload 5, 2), (42, .aload_n 0, 1), (43, .getfield 58, 3), (46, .if_icmp .ge 49, 3), (49, .aload_n 0, 1), (50, .getfield 34, 3), (53, .aload_n 0, 1), (54, .getfield 62, 3), (57, .aaload, 1), (58, .iload 5, 2), (60, .aload_n 2, 1), (61, .getfield 83, 3), (64, .iload 5, 2), (66, .iaload, 1), (67, .i2l, 1)] : List (Nat × Instr × Nat)), decode cX0_addRow e.1 = .ok (e.2.1, e.2.2) := by decide +kernel
theorem jX0_addRow_1 : ∀ e ∈ ([(68, .lastore, 1), (69, .lload_n 3, 1), (70, .aload_n 2, 1), (71, .getfield 83, 3), (74, .iload 5, 2), (76, .iaload, 1), (77, .i2l, 1), (78, .aload_n 0, 1), (79, .getfield 37, 3), (82, .iload 5, 2), (84, .iaload, 1), (85, .i2l, 1), (86, .lmul, 1), (87, .ladd, 1), (88, .lstore_n 3, 1), (89, .iinc 5 1, 3), (92, .goto (-52), 3), (95, .aload_n 0, 1), (96, .getfield 29, 3), (99, .aload_n 0, 1), (100, .getfield 62, 3), (103, .lload_n 3, 1), (104, .lastore, 1), (105, .aload_n 0, 1), (106, .getfield 23, 3), (109, .aload_n 0, 1), (110, .getfield 62, 3), (113, .lload_n 3, 1), (114, .lconst 0, 1), (115, .lcmp, 1), (116, .ifCond .ge 7, 3), (119, .iconst (-1), 1), (120, .goto 4, 3), (123, .iconst 1, 1), (124, .iastore, 1), (125, .aload_n 0, 1), (126, .getfield 19, 3), (129, .aload_n 0, 1), (130, .getfield 62, 3), (133, .iload_n 1, 1)] : List (Nat × Instr × Nat)), decode cX0_addRow e.1 = .ok (e.2.1, e.2.2) := by decide +kernel
theorem jX0_addRow_2 : ∀ e ∈ ([(134, .iastore, 1), (135, .aload_n 0, 1), (136, .dup, 1), (137, .getfield 62, 3), (140, .iconst 1, 1), (141, .iadd, 1), (142, .putfield 62, 3), (145, .return_, 1)] : List (Nat × Instr × Nat)), decode cX0_addRow e.1 = .ok (e.2.1, e.2.2) := by decide +kernel
set_option maxRecDepth 100000 in
theorem jX0_addRow : ∀ e ∈ iX0_addRow, decode cX0_addRow e.1 = .ok (e.2.1, e.2.2) := (List.forall_mem_append.mpr ⟨jX0_addRow_0, (List.forall_mem_append.mpr ⟨jX0_addRow_1, jX0_addRow_2⟩)⟩)
theorem jX0_copy_0 : ∀ e ∈ ([(0, .aload_n 0, 1), (1, .aload_n 1, 1), (2, .getfield 9, 3), (5, .putfield 9, 3), (8, .aload_n 0, 1), (9, .aload_n 1, 1), (10, .getfield 62, 3), (13, .putfield 62, 3), (16, .aload_n 0, 1), (17, .aload_n 1, 1), (18, .getfield 58, 3), (21, .putfield 58, 3), (24, .aload_n 1, 1), (25, .getfield 19, 3), (28, .iconst 0, 1), (29, .aload_n 0, 1), (30, .getfield 19, 3), (33, .iconst 0, 1), (34, .bipush 9, 2), (36, .invokestatic 86, 3), (39, .aload_n 1, 1), (40, .getfield 23, 3), (43, .iconst 0, 1), (44, .aload_n 0, 1), (45, .getfield 23, 3), (48, .iconst 0, 1), (49, .bipush 9, 2), (51, .invokestatic 86, 3), (54, .aload_n 1, 1), (55, .getfield 26, 3), (58, .iconst 0, 1), (59, .aload_n 0, 1), (60, .getfield 26, 3), (63, .iconst 0, 1), (64, .iconst 5, 1), (65, .invokestatic 86, 3), (68, .aload_n 1, 1), (69, .getfield 29, 3), (72, .iconst 0, 1), (73, .aload_n 0, 1)] : List (Nat × Instr × Nat)), decode cX0_copy e.1 = .ok (e.2.1, e.2.2) := by decide +kernel
theorem jX0_copy_1 : ∀ e ∈ ([(74, .getfield 29, 3), (77, .iconst 0, 1), (78, .bipush 9, 2), (80, .invokestatic 86, 3), (83, .aload_n 1, 1), (84, .getfield 37, 3), (87, .iconst 0, 1), (88, .aload_n 0, 1), (89, .getfield 37, 3), (92, .iconst 0, 1), (93, .iconst 5, 1), (94, .invokestatic 86, 3), (97, .aload_n 1, 1), (98, .getfield 40, 3), (101, .iconst 0, 1), (102, .aload_n 0, 1), (103, .getfield 40, 3), (106, .iconst 0, 1), (107, .bipush 14, 2), (109, .invokestatic 86, 3), (112, .aload_n 1, 1), (113, .getfield 43, 3), (116, .iconst 0, 1), (117, .aload_n 0, 1), (118, .getfield 43, 3), (121, .iconst 0, 1), (122, .bipush 14, 2), (124, .invokestatic 86, 3), (127, .aload_n 1, 1), (128, .getfield 46, 3), (131, .iconst 0, 1), (132, .aload_n 0, 1), (133, .getfield 46, 3), (136, .iconst 0, 1), (137, .bipush 14, 2), (139, .invokestatic 86, 3), (142, .iconst 0, 1), (143, .istore_n 2, 1), (144, .iload_n 2, 1), (145, .aload_n 0, 1)] : List (Nat × Instr × Nat)), decode cX0_copy e.1 = .ok (e.2.1, e.2.2) := by decide +kernel
theorem jX0_copy_2 : ∀ e ∈ ([(146, .getfield 62, 3), (149, .if_icmp .ge 27, 3), (152, .aload_n 1, 1), (153, .getfield 34, 3), (156, .iload_n 2, 1), (157, .aaload, 1), (158, .iconst 0, 1), (159, .aload_n 0, 1), (160, .getfield 34, 3), (163, .iload_n 2, 1), (164, .aaload, 1), (165, .iconst 0, 1), (166, .iconst 5, 1), (167, .invokestatic 86, 3), (170, .iinc 2 1, 3), (173, .goto (-29), 3), (176, .return_, 1)] : List (Nat × Instr × Nat)), decode cX0_copy e.1 = .ok (e.2.1, e.2.2) := by decide +kernel
set_option maxRecDepth 100000 in
theorem jX0_copy : ∀ e ∈ iX0_copy, decode cX0_copy e.1 = .ok (e.2.1, e.2.2) := (List.forall_mem_append.mpr ⟨jX0_copy_0, (List.forall_mem_append.mpr ⟨jX0_copy_1, jX0_copy_2⟩)⟩)
theorem jX0_drop_0 : ∀ e ∈ ([(0, .aload_n 0, 1), (1, .getfield 43, 3), (4, .iload_n 1, 1), (5, .iconst 0, 1), (6, .iastore, 1), (7, .aload_n 0, 1), (8, .getfield 46, 3), (11, .iload_n 1, 1), (12, .iconst 0, 1), (13, .iastore, 1), (14, .return_, 1)] : List (Nat × Instr × Nat)), decode cX0_drop e.1 = .ok (e.2.1, e.2.2) := by decide +kernel
theorem jX0_drop : ∀ e ∈ iX0_drop, decode cX0_drop e.1 = .ok (e.2.1, e.2.2) := jX0_drop_0
theorem jX0_areMustsMet_0 : ∀ e ∈ ([(0, .iconst 0, 1), (1, .istore_n 1, 1), (2, .iload_n 1, 1), (3, .aload_n 0, 1), (4, .getfield 62, 3), (7, .if_icmp .ge 46, 3), (10, .aload_n 0, 1), (11, .getfield 40, 3), (14, .aload_n 0, 1), (15, .getfield 19, 3), (18, .iload_n 1, 1), (19, .iaload, 1), (20, .iaload, 1), (21, .ifCond .ne 26, 3), (24, .aload_n 0, 1), (25, .getfield 29, 3), (28, .iload_n 1, 1), (29, .laload, 1), (30, .lconst 0, 1), (31, .lcmp, 1), (32, .ifCond .eq 15, 3), (35, .aload_n 0, 1), (36, .iload_n 1, 1), (37, .invokevirtual 92, 3), (40, .lconst 0, 1), (41, .lcmp, 1), (42, .ifCond .eq 5, 3), (45, .iconst 0, 1), (46, .ireturn, 1), (47, .iinc 1 1, 3), (50, .goto (-48), 3), (53, .iconst 1, 1), (54, .ireturn, 1)] : List (Nat × Instr × Nat)), decode cX0_areMustsMet e.1 = .ok (e.2.1, e.2.2) := by decide +kernel
theorem jX0_areMustsMet : ∀ e ∈ iX0_areMustsMet, decode cX0_areMustsMet e.1 = .ok (e.2.1, e.2.2) := jX0_areMustsMet_0
theorem jX0_solve_0 : ∀ e ∈ ([(0, .aload_n 0, 1), (1, .iconst 4, 1), (2, .aload_n 0, 1), (3, .getfield 58, 3), (6, .iadd, 1), (7, .invokevirtual 96, 3), (10, .iconst 0, 1), (11, .istore_n 1, 1), (12, .iload_n 1, 1), (13, .aload_n 0, 1), (14, .getfield 58, 3), (17, .if_icmp .ge 27, 3), (20, .aload_n 0, 1), (21, .getfield 15, 3), (24, .iload_n 1, 1), (25, .aload_n 0, 1), (26, .getfield 37, 3), (29, .iload_n 1, 1), (30, .iaload, 1), (31, .i2l, 1), (32, .aload_n 0, 1), (33, .getfield 9, 3), (36, .lmul, 1), (37, .lastore, 1), (38, .iinc 1 1, 3), (41, .goto (-29), 3), (44, .iconst 0, 1), (45, .istore_n 1, 1), (46, .iload_n 1, 1), (47, .aload_n 0, 1), (48, .getfield 62, 3), (51, .if_icmp .ge 43, 3), (54, .aload_n 0, 1), (55, .getfield 19, 3), (58, .iload_n 1, 1), (59, .iaload, 1), (60, .bipush 9, 2), (62, .if_icmp .lt 26, 3), (65, .aload_n 0, 1), (66, .getfield 15, 3)] : List (Nat × Instr × Nat)), decode cX0_solve e.1 = .ok (e.2.1, e.2.2) := by decide +kernel
theorem jX0_solve_1 : ∀ e ∈ ([(69, .aload_n 0, 1), (70, .getfield 19, 3), (73, .iload_n 1, 1), (74, .iaload, 1), (75, .bipush 9, 2), (77, .isub, 1), (78, .dup2, 1), (79, .laload, 1), (80, .aload_n 0, 1), (81, .getfield 29, 3), (84, .iload_n 1, 1), (85, .laload, 1), (86, .ladd, 1), (87, .lastore, 1), (88, .iinc 1 1, 3), (91, .goto (-45), 3), (94, .return_, 1)] : List (Nat × Instr × Nat)), decode cX0_solve e.1 = .ok (e.2.1, e.2.2) := by decide +kernel
set_option maxRecDepth 100000 in
theorem jX0_solve : ∀ e ∈ iX0_solve, decode cX0_solve e.1 = .ok (e.2.1, e.2.2) := (List.forall_mem_append.mpr ⟨jX0_solve_0, jX0_solve_1⟩)
theorem jX0_missOf_0 : ∀ e ∈ ([(0, .aload_n 1, 1), (1, .getfield 80, 3), (4, .ineg, 1), (5, .i2l, 1), (6, .aload_n 0, 1), (7, .getfield 9, 3), (10, .lmul, 1), (11, .lstore_n 2, 1), (12, .iconst 0, 1), (13, .istore 4, 2), (15, .iload 4, 2), (17, .aload_n 0, 1), (18, .getfield 58, 3), (21, .if_icmp .ge 28, 3), (24, .lload_n 2, 1), (25, .aload_n 1, 1), (26, .getfield 83, 3), (29, .iload 4, 2), (31, .iaload, 1), (32, .i2l, 1), (33, .aload_n 0, 1), (34, .getfield 15, 3), (37, .iload 4, 2), (39, .laload, 1), (40, .lmul, 1), (41, .ladd, 1), (42, .lstore_n 2, 1), (43, .iinc 4 1, 3), (46, .goto (-31), 3), (49, .aload_n 1, 1), (50, .getfield 100, 3), (53, .iconst 1, 1), (54, .if_icmp .ne 9, 3), (57, .lload_n 2, 1), (58, .lconst 0, 1), (59, .invokestatic 103, 3), (62, .lreturn, 1), (63, .aload_n 1, 1), (64, .getfield 100, 3), (67, .iconst 2, 1)] : List (Nat × Instr × Nat)), decode cX0_missOf e.1 = .ok (e.2.1, e.2.2) := by decide +kernel
theorem jX0_missOf_1 : ∀ e ∈ ([(68, .if_icmp .ne 12, 3), (71, .lload_n 2, 1), (72, .lneg, 1), (73, .lconst 0, 1), (74, .invokestatic 103, 3), (77, .goto 7, 3), (80, .lload_n 2, 1), (81, .invokestatic 107, 3), (84, .lreturn, 1)] : List (Nat × Instr × Nat)), decode cX0_missOf e.1 = .ok (e.2.1, e.2.2) := by decide +kernel
set_option maxRecDepth 100000 in
theorem jX0_missOf : ∀ e ∈ iX0_missOf, decode cX0_missOf e.1 = .ok (e.2.1, e.2.2) := (List.forall_mem_append.mpr ⟨jX0_missOf_0, jX0_missOf_1⟩)
theorem jX0_lessenCost_0 : ∀ e ∈ ([(0, .iconst 0, 1), (1, .istore_n 2, 1), (2, .iload_n 2, 1), (3, .ldc 111, 2), (5, .if_icmp .ge 35, 3), (8, .aload_n 0, 1), (9, .iload_n 1, 1), (10, .invokevirtual 112, 3), (13, .ifCond .ne 4, 3), (16, .return_, 1), (17, .aload_n 0, 1), (18, .iload_n 1, 1), (19, .invokevirtual 116, 3), (22, .istore_n 3, 1), (23, .iload_n 3, 1), (24, .iconst (-1), 1), (25, .if_icmp .ne 4, 3), (28, .return_, 1), (29, .aload_n 0, 1), (30, .iload_n 3, 1), (31, .invokevirtual 120, 3), (34, .iinc 2 1, 3), (37, .goto (-35), 3), (40, .return_, 1)] : List (Nat × Instr × Nat)), decode cX0_lessenCost e.1 = .ok (e.2.1, e.2.2) := by decide +kernel
theorem jX0_lessenCost : ∀ e ∈ iX0_lessenCost, decode cX0_lessenCost e.1 = .ok (e.2.1, e.2.2) := jX0_lessenCost_0
theorem jX0_findEntering_0 : ∀ e ∈ ([(0, .aload_n 0, 1), (1, .iload_n 1, 1), (2, .invokevirtual 123, 3), (5, .bipush 28, 2), (7, .istore_n 2, 1), (8, .iconst 0, 1), (9, .istore_n 3, 1), (10, .iload_n 3, 1), (11, .aload_n 0, 1), (12, .getfield 58, 3), (15, .if_icmp .ge 90, 3), (18, .aload_n 0, 1), (19, .getfield 26, 3), (22, .iload_n 3, 1), (23, .iaload, 1), (24, .istore 4, 2), (26, .iconst 2, 1), (27, .iload 4, 2), (29, .imul, 1), (30, .iload_n 2, 1), (31, .if_icmp .ge 31, 3), (34, .aload_n 0, 1), (35, .iload_n 3, 1), (36, .iconst 1, 1), (37, .iload_n 1, 1), (38, .invokevirtual 126, 3), (41, .ifCond .eq 21, 3), (44, .iconst 2, 1), (45, .iload 4, 2), (47, .imul, 1), (48, .istore_n 2, 1), (49, .aload_n 0, 1), (50, .iload_n 3, 1), (51, .putfield 130, 3), (54, .aload_n 0, 1), (55, .iconst 1, 1), (56, .putfield 133, 3), (59, .goto 40, 3), (62, .iconst 2, 1), (63, .iload 4, 2)] : List (Nat × Instr × Nat)), decode cX0_findEntering e.1 = .ok (e.2.1, e.2.2) := by decide +kernel
theorem jX0_findEntering_1 : ∀ e ∈ ([(65, .imul, 1), (66, .iconst 1, 1), (67, .iadd, 1), (68, .iload_n 2, 1), (69, .if_icmp .ge 30, 3), (72, .aload_n 0, 1), (73, .iload_n 3, 1), (74, .iconst (-1), 1), (75, .iload_n 1, 1), (76, .invokevirtual 126, 3), (79, .ifCond .eq 20, 3), (82, .iconst 2, 1), (83, .iload 4, 2), (85, .imul, 1), (86, .iconst 1, 1), (87, .iadd, 1), (88, .istore_n 2, 1), (89, .aload_n 0, 1), (90, .iload_n 3, 1), (91, .putfield 130, 3), (94, .aload_n 0, 1), (95, .iconst (-1), 1), (96, .putfield 133, 3), (99, .iinc 3 1, 3), (102, .goto (-92), 3), (105, .iload_n 2, 1), (106, .bipush 28, 2), (108, .if_icmp .ge 7, 3), (111, .iconst 1, 1), (112, .goto 4, 3), (115, .iconst 0, 1), (116, .ireturn, 1)] : List (Nat × Instr × Nat)), decode cX0_findEntering e.1 = .ok (e.2.1, e.2.2) := by decide +kernel
set_option maxRecDepth 100000 in
theorem jX0_findEntering : ∀ e ∈ iX0_findEntering, decode cX0_findEntering e.1 = .ok (e.2.1, e.2.2) := (List.forall_mem_append.mpr ⟨jX0_findEntering_0, jX0_findEntering_1⟩)
theorem jX0_findGrowth_0 : ∀ e ∈ ([(0, .aload_n 0, 1), (1, .getfield 49, 3), (4, .lconst 0, 1), (5, .invokestatic 136, 3), (8, .iconst 0, 1), (9, .istore_n 2, 1), (10, .iload_n 2, 1), (11, .aload_n 0, 1), (12, .getfield 62, 3), (15, .if_icmp .ge 84, 3), (18, .aload_n 0, 1), (19, .getfield 40, 3), (22, .aload_n 0, 1), (23, .getfield 19, 3), (26, .iload_n 2, 1), (27, .iaload, 1), (28, .iaload, 1), (29, .istore_n 3, 1), (30, .aload_n 0, 1), (31, .iload_n 2, 1), (32, .invokevirtual 92, 3), (35, .lstore 4, 2), (37, .lload 4, 2), (39, .lconst 0, 1), (40, .lcmp, 1), (41, .ifCond .eq 52, 3), (44, .iload_n 3, 1), (45, .iload_n 1, 1), (46, .if_icmp .ge 47, 3), (49, .iconst 0, 1), (50, .istore 6, 2), (52, .iload 6, 2), (54, .aload_n 0, 1), (55, .getfield 58, 3), (58, .if_icmp .ge 35, 3), (61, .aload_n 0, 1), (62, .getfield 49, 3), (65, .iload_n 3, 1), (66, .iconst 5, 1), (67, .imul, 1)] : List (Nat × Instr × Nat)), decode cX0_findGrowth e.1 = .ok (e.2.1, e.2.2) := by decide +kernel
theorem jX0_findGrowth_1 : ∀ e ∈ ([(68, .iload 6, 2), (70, .iadd, 1), (71, .dup2, 1), (72, .laload, 1), (73, .lload 4, 2), (75, .aload_n 0, 1), (76, .getfield 34, 3), (79, .iload_n 2, 1), (80, .aaload, 1), (81, .iload 6, 2), (83, .laload, 1), (84, .lmul, 1), (85, .ladd, 1), (86, .lastore, 1), (87, .iinc 6 1, 3), (90, .goto (-38), 3), (93, .iinc 2 1, 3), (96, .goto (-86), 3), (99, .return_, 1)] : List (Nat × Instr × Nat)), decode cX0_findGrowth e.1 = .ok (e.2.1, e.2.2) := by decide +kernel
set_option maxRecDepth 100000 in
theorem jX0_findGrowth : ∀ e ∈ iX0_findGrowth, decode cX0_findGrowth e.1 = .ok (e.2.1, e.2.2) := (List.forall_mem_append.mpr ⟨jX0_findGrowth_0, jX0_findGrowth_1⟩)
theorem jX0_slopeOf_0 : ∀ e ∈ ([(0, .aload_n 0, 1), (1, .getfield 23, 3), (4, .iload_n 1, 1), (5, .iaload, 1), (6, .ifCond .le 18, 3), (9, .aload_n 0, 1), (10, .getfield 43, 3), (13, .aload_n 0, 1), (14, .getfield 19, 3), (17, .iload_n 1, 1), (18, .iaload, 1), (19, .iaload, 1), (20, .i2l, 1), (21, .goto 16, 3), (24, .aload_n 0, 1), (25, .getfield 46, 3), (28, .aload_n 0, 1), (29, .getfield 19, 3), (32, .iload_n 1, 1), (33, .iaload, 1), (34, .iaload, 1), (35, .ineg, 1), (36, .i2l, 1), (37, .lreturn, 1)] : List (Nat × Instr × Nat)), decode cX0_slopeOf e.1 = .ok (e.2.1, e.2.2) := by decide +kernel
theorem jX0_slopeOf : ∀ e ∈ iX0_slopeOf, decode cX0_slopeOf e.1 = .ok (e.2.1, e.2.2) := jX0_slopeOf_0
theorem jX0_lessens_0 : ∀ e ∈ ([(0, .aload_n 0, 1), (1, .getfield 26, 3), (4, .iload_n 1, 1), (5, .iaload, 1), (6, .istore 4, 2), (8, .iconst 0, 1), (9, .istore 5, 2), (11, .iload 5, 2), (13, .iload_n 3, 1), (14, .if_icmp .ge 89, 3), (17, .iload_n 2, 1), (18, .i2l, 1), (19, .aload_n 0, 1), (20, .getfield 49, 3), (23, .iload 5, 2), (25, .iconst 5, 1), (26, .imul, 1), (27, .iload_n 1, 1), (28, .iadd, 1), (29, .laload, 1), (30, .lmul, 1), (31, .lstore 6, 2), (33, .iload 5, 2), (35, .aload_n 0, 1), (36, .getfield 40, 3), (39, .iload 4, 2), (41, .iaload, 1), (42, .if_icmp .ne 35, 3), (45, .lload 6, 2), (47, .aload_n 0, 1), (48, .getfield 9, 3), (51, .iload_n 2, 1), (52, .ifCond .le 13, 3), (55, .aload_n 0, 1), (56, .getfield 43, 3), (59, .iload 4, 2), (61, .iaload, 1), (62, .goto 10, 3), (65, .aload_n 0, 1), (66, .getfield 46, 3)] : List (Nat × Instr × Nat)), decode cX0_lessens e.1 = .ok (e.2.1, e.2.2) := by decide +kernel
theorem jX0_lessens_1 : ∀ e ∈ ([(69, .iload 4, 2), (71, .iaload, 1), (72, .i2l, 1), (73, .lmul, 1), (74, .ladd, 1), (75, .lstore 6, 2), (77, .lload 6, 2), (79, .lconst 0, 1), (80, .lcmp, 1), (81, .ifCond .eq 16, 3), (84, .lload 6, 2), (86, .lconst 0, 1), (87, .lcmp, 1), (88, .ifCond .ge 7, 3), (91, .iconst 1, 1), (92, .goto 4, 3), (95, .iconst 0, 1), (96, .ireturn, 1), (97, .iinc 5 1, 3), (100, .goto (-89), 3), (103, .iconst 0, 1), (104, .ireturn, 1)] : List (Nat × Instr × Nat)), decode cX0_lessens e.1 = .ok (e.2.1, e.2.2) := by decide +kernel
set_option maxRecDepth 100000 in
theorem jX0_lessens : ∀ e ∈ iX0_lessens, decode cX0_lessens e.1 = .ok (e.2.1, e.2.2) := (List.forall_mem_append.mpr ⟨jX0_lessens_0, jX0_lessens_1⟩)
theorem jX0_findLeaving_0 : ∀ e ∈ ([(0, .aload_n 0, 1), (1, .invokevirtual 142, 3), (4, .istore_n 2, 1), (5, .iload_n 2, 1), (6, .iconst (-1), 1), (7, .if_icmp .eq 14, 3), (10, .aload_n 0, 1), (11, .getfield 29, 3), (14, .iload_n 2, 1), (15, .laload, 1), (16, .lconst 0, 1), (17, .lcmp, 1), (18, .ifCond .ne 5, 3), (21, .iload_n 2, 1), (22, .ireturn, 1), (23, .iconst 0, 1), (24, .istore_n 3, 1), (25, .iload_n 3, 1), (26, .aload_n 0, 1), (27, .getfield 62, 3), (30, .if_icmp .ge 47, 3), (33, .aload_n 0, 1), (34, .iload_n 2, 1), (35, .invokevirtual 145, 3), (38, .aload_n 0, 1), (39, .invokevirtual 142, 3), (42, .istore 4, 2), (44, .iload 4, 2), (46, .iconst (-1), 1), (47, .if_icmp .eq 19, 3), (50, .aload_n 0, 1), (51, .aload_n 0, 1), (52, .getfield 130, 3), (55, .aload_n 0, 1), (56, .getfield 133, 3), (59, .iload_n 1, 1), (60, .invokevirtual 126, 3), (63, .ifCond .ne 5, 3), (66, .iload_n 2, 1), (67, .ireturn, 1)] : List (Nat × Instr × Nat)), decode cX0_findLeaving e.1 = .ok (e.2.1, e.2.2) := by decide +kernel
theorem jX0_findLeaving_1 : ∀ e ∈ ([(68, .iload 4, 2), (70, .istore_n 2, 1), (71, .iinc 3 1, 3), (74, .goto (-49), 3), (77, .iload_n 2, 1), (78, .ireturn, 1)] : List (Nat × Instr × Nat)), decode cX0_findLeaving e.1 = .ok (e.2.1, e.2.2) := by decide +kernel
set_option maxRecDepth 100000 in
theorem jX0_findLeaving : ∀ e ∈ iX0_findLeaving, decode cX0_findLeaving e.1 = .ok (e.2.1, e.2.2) := (List.forall_mem_append.mpr ⟨jX0_findLeaving_0, jX0_findLeaving_1⟩)
theorem jX0_firstAtZero_0 : ∀ e ∈ ([(0, .iconst (-1), 1), (1, .istore_n 1, 1), (2, .lconst 0, 1), (3, .lstore_n 2, 1), (4, .lconst 0, 1), (5, .lstore 4, 2), (7, .iconst 0, 1), (8, .istore 6, 2), (10, .iload 6, 2), (12, .aload_n 0, 1), (13, .getfield 62, 3), (16, .if_icmp .ge 126, 3), (19, .aload_n 0, 1), (20, .getfield 23, 3), (23, .iload 6, 2), (25, .iaload, 1), (26, .i2l, 1), (27, .aload_n 0, 1), (28, .getfield 29, 3), (31, .iload 6, 2), (33, .laload, 1), (34, .lmul, 1), (35, .lstore 7, 2), (37, .aload_n 0, 1), (38, .getfield 23, 3), (41, .iload 6, 2), (43, .iaload, 1), (44, .ineg, 1), (45, .aload_n 0, 1), (46, .getfield 133, 3), (49, .imul, 1), (50, .i2l, 1), (51, .aload_n 0, 1), (52, .getfield 34, 3), (55, .iload 6, 2), (57, .aaload, 1), (58, .aload_n 0, 1), (59, .getfield 130, 3), (62, .laload, 1), (63, .lmul, 1)] : List (Nat × Instr × Nat)), decode cX0_firstAtZero e.1 = .ok (e.2.1, e.2.2) := by decide +kernel
theorem jX0_firstAtZero_1 : ∀ e ∈ ([(64, .lstore 9, 2), (66, .lload 9, 2), (68, .lconst 0, 1), (69, .lcmp, 1), (70, .ifCond .le 66, 3), (73, .iload_n 1, 1), (74, .iconst (-1), 1), (75, .if_icmp .ne 9, 3), (78, .ldc2_w 148, 3), (81, .goto 13, 3), (84, .lload 7, 2), (86, .lload 4, 2), (88, .lmul, 1), (89, .lload_n 2, 1), (90, .lload 9, 2), (92, .lmul, 1), (93, .lsub, 1), (94, .lstore 11, 2), (96, .lload 11, 2), (98, .lconst 0, 1), (99, .lcmp, 1), (100, .ifCond .lt 26, 3), (103, .lload 11, 2), (105, .lconst 0, 1), (106, .lcmp, 1), (107, .ifCond .ne 29, 3), (110, .aload_n 0, 1), (111, .getfield 19, 3), (114, .iload 6, 2), (116, .iaload, 1), (117, .aload_n 0, 1), (118, .getfield 19, 3), (121, .iload_n 1, 1), (122, .iaload, 1), (123, .if_icmp .ge 13, 3), (126, .iload 6, 2), (128, .istore_n 1, 1), (129, .lload 7, 2), (131, .lstore_n 2, 1), (132, .lload 9, 2)] : List (Nat × Instr × Nat)), decode cX0_firstAtZero e.1 = .ok (e.2.1, e.2.2) := by decide +kernel
theorem jX0_firstAtZero_2 : ∀ e ∈ ([(134, .lstore 4, 2), (136, .iinc 6 1, 3), (139, .goto (-129), 3), (142, .iload_n 1, 1), (143, .ireturn, 1)] : List (Nat × Instr × Nat)), decode cX0_firstAtZero e.1 = .ok (e.2.1, e.2.2) := by decide +kernel
set_option maxRecDepth 100000 in
theorem jX0_firstAtZero : ∀ e ∈ iX0_firstAtZero, decode cX0_firstAtZero e.1 = .ok (e.2.1, e.2.2) := (List.forall_mem_append.mpr ⟨jX0_firstAtZero_0, (List.forall_mem_append.mpr ⟨jX0_firstAtZero_1, jX0_firstAtZero_2⟩)⟩)
theorem jX0_pass_0 : ∀ e ∈ ([(0, .aload_n 0, 1), (1, .getfield 19, 3), (4, .iload_n 1, 1), (5, .iaload, 1), (6, .istore_n 2, 1), (7, .aload_n 0, 1), (8, .getfield 43, 3), (11, .iload_n 2, 1), (12, .iaload, 1), (13, .aload_n 0, 1), (14, .getfield 46, 3), (17, .iload_n 2, 1), (18, .iaload, 1), (19, .iadd, 1), (20, .i2l, 1), (21, .aload_n 0, 1), (22, .getfield 34, 3), (25, .iload_n 1, 1), (26, .aaload, 1), (27, .aload_n 0, 1), (28, .getfield 130, 3), (31, .laload, 1), (32, .invokestatic 107, 3), (35, .lmul, 1), (36, .lstore_n 3, 1), (37, .aload_n 0, 1), (38, .getfield 49, 3), (41, .aload_n 0, 1), (42, .getfield 40, 3), (45, .iload_n 2, 1), (46, .iaload, 1), (47, .iconst 5, 1), (48, .imul, 1), (49, .aload_n 0, 1), (50, .getfield 130, 3), (53, .iadd, 1), (54, .dup2, 1), (55, .laload, 1), (56, .aload_n 0, 1), (57, .getfield 133, 3)] : List (Nat × Instr × Nat)), decode cX0_pass e.1 = .ok (e.2.1, e.2.2) := by decide +kernel
theorem jX0_pass_1 : ∀ e ∈ ([(60, .i2l, 1), (61, .lload_n 3, 1), (62, .lmul, 1), (63, .ladd, 1), (64, .lastore, 1), (65, .aload_n 0, 1), (66, .getfield 23, 3), (69, .iload_n 1, 1), (70, .aload_n 0, 1), (71, .getfield 23, 3), (74, .iload_n 1, 1), (75, .iaload, 1), (76, .ineg, 1), (77, .iastore, 1), (78, .return_, 1)] : List (Nat × Instr × Nat)), decode cX0_pass e.1 = .ok (e.2.1, e.2.2) := by decide +kernel
set_option maxRecDepth 100000 in
theorem jX0_pass : ∀ e ∈ iX0_pass, decode cX0_pass e.1 = .ok (e.2.1, e.2.2) := (List.forall_mem_append.mpr ⟨jX0_pass_0, jX0_pass_1⟩)
theorem jX0_swap_0 : ∀ e ∈ ([(0, .aload_n 0, 1), (1, .getfield 130, 3), (4, .istore_n 2, 1), (5, .aload_n 0, 1), (6, .getfield 34, 3), (9, .iload_n 1, 1), (10, .aaload, 1), (11, .iload_n 2, 1), (12, .laload, 1), (13, .lconst 0, 1), (14, .lcmp, 1), (15, .ifCond .ge 9, 3), (18, .ldc2_w 148, 3), (21, .goto 4, 3), (24, .lconst 1, 1), (25, .lstore_n 3, 1), (26, .lload_n 3, 1), (27, .aload_n 0, 1), (28, .getfield 34, 3), (31, .iload_n 1, 1), (32, .aaload, 1), (33, .iload_n 2, 1), (34, .laload, 1), (35, .lmul, 1), (36, .lstore 5, 2), (38, .lload 5, 2), (40, .lconst 0, 1), (41, .lcmp, 1), (42, .ifCond .eq 12, 3), (45, .aload_n 0, 1), (46, .getfield 9, 3), (49, .lconst 0, 1), (50, .lcmp, 1), (51, .ifCond .ne 4, 3), (54, .return_, 1), (55, .iconst 0, 1), (56, .istore 7, 2), (58, .iload 7, 2), (60, .aload_n 0, 1), (61, .getfield 62, 3)] : List (Nat × Instr × Nat)), decode cX0_swap e.1 = .ok (e.2.1, e.2.2) := by decide +kernel
theorem jX0_swap_1 : ∀ e ∈ ([(64, .if_icmp .ge 25, 3), (67, .iload 7, 2), (69, .iload_n 1, 1), (70, .if_icmp .eq 13, 3), (73, .aload_n 0, 1), (74, .iload_n 1, 1), (75, .iload 7, 2), (77, .lload_n 3, 1), (78, .lload 5, 2), (80, .invokevirtual 150, 3), (83, .iinc 7 1, 3), (86, .goto (-28), 3), (89, .iconst 0, 1), (90, .istore 7, 2), (92, .iload 7, 2), (94, .aload_n 0, 1), (95, .getfield 58, 3), (98, .if_icmp .ge 23, 3), (101, .aload_n 0, 1), (102, .getfield 34, 3), (105, .iload_n 1, 1), (106, .aaload, 1), (107, .iload 7, 2), (109, .dup2, 1), (110, .laload, 1), (111, .lload_n 3, 1), (112, .lneg, 1), (113, .lmul, 1), (114, .lastore, 1), (115, .iinc 7 1, 3), (118, .goto (-26), 3), (121, .aload_n 0, 1), (122, .getfield 29, 3), (125, .iload_n 1, 1), (126, .dup2, 1), (127, .laload, 1), (128, .lload_n 3, 1), (129, .lneg, 1), (130, .lmul, 1), (131, .lastore, 1)] : List (Nat × Instr × Nat)), decode cX0_swap e.1 = .ok (e.2.1, e.2.2) := by decide +kernel
theorem jX0_swap_2 : ∀ e ∈ ([(132, .aload_n 0, 1), (133, .getfield 34, 3), (136, .iload_n 1, 1), (137, .aaload, 1), (138, .iload_n 2, 1), (139, .lload_n 3, 1), (140, .aload_n 0, 1), (141, .getfield 9, 3), (144, .lmul, 1), (145, .lastore, 1), (146, .aload_n 0, 1), (147, .lload 5, 2), (149, .putfield 9, 3), (152, .aload_n 0, 1), (153, .getfield 19, 3), (156, .iload_n 1, 1), (157, .iaload, 1), (158, .istore 7, 2), (160, .aload_n 0, 1), (161, .getfield 19, 3), (164, .iload_n 1, 1), (165, .aload_n 0, 1), (166, .getfield 26, 3), (169, .iload_n 2, 1), (170, .iaload, 1), (171, .iastore, 1), (172, .aload_n 0, 1), (173, .getfield 23, 3), (176, .iload_n 1, 1), (177, .aload_n 0, 1), (178, .getfield 133, 3), (181, .iastore, 1), (182, .aload_n 0, 1), (183, .getfield 26, 3), (186, .iload_n 2, 1), (187, .iload 7, 2), (189, .iastore, 1), (190, .return_, 1)] : List (Nat × Instr × Nat)), decode cX0_swap e.1 = .ok (e.2.1, e.2.2) := by decide +kernel
set_option maxRecDepth 100000 in
theorem jX0_swap : ∀ e ∈ iX0_swap, decode cX0_swap e.1 = .ok (e.2.1, e.2.2) := (List.forall_mem_append.mpr ⟨jX0_swap_0, (List.forall_mem_append.mpr ⟨jX0_swap_1, jX0_swap_2⟩)⟩)
theorem jX0_putIn_0 : ∀ e ∈ ([(0, .aload_n 0, 1), (1, .getfield 34, 3), (4, .iload_n 1, 1), (5, .aaload, 1), (6, .astore 7, 2), (8, .aload_n 0, 1), (9, .getfield 34, 3), (12, .iload_n 2, 1), (13, .aaload, 1), (14, .astore 8, 2), (16, .lload_n 3, 1), (17, .aload 8, 2), (19, .aload_n 0, 1), (20, .getfield 130, 3), (23, .laload, 1), (24, .lmul, 1), (25, .lstore 9, 2), (27, .aload_n 0, 1), (28, .getfield 9, 3), (31, .lconst 0, 1), (32, .lcmp, 1), (33, .ifCond .eq 20, 3), (36, .lload 9, 2), (38, .lconst 0, 1), (39, .lcmp, 1), (40, .ifCond .ne 14, 3), (43, .lload 5, 2), (45, .aload_n 0, 1), (46, .getfield 9, 3), (49, .lcmp, 1), (50, .ifCond .ne 4, 3), (53, .return_, 1), (54, .iconst 0, 1), (55, .istore 11, 2), (57, .iload 11, 2), (59, .aload_n 0, 1), (60, .getfield 58, 3), (63, .if_icmp .ge 36, 3), (66, .aload 8, 2), (68, .iload 11, 2)] : List (Nat × Instr × Nat)), decode cX0_putIn e.1 = .ok (e.2.1, e.2.2) := by decide +kernel
theorem jX0_putIn_1 : ∀ e ∈ ([(70, .aload 8, 2), (72, .iload 11, 2), (74, .laload, 1), (75, .lload 5, 2), (77, .lmul, 1), (78, .lload 9, 2), (80, .aload 7, 2), (82, .iload 11, 2), (84, .laload, 1), (85, .lmul, 1), (86, .lsub, 1), (87, .aload_n 0, 1), (88, .getfield 9, 3), (91, .ldiv, 1), (92, .lastore, 1), (93, .iinc 11 1, 3), (96, .goto (-39), 3), (99, .aload_n 0, 1), (100, .getfield 29, 3), (103, .iload_n 2, 1), (104, .aload_n 0, 1), (105, .getfield 29, 3), (108, .iload_n 2, 1), (109, .laload, 1), (110, .lload 5, 2), (112, .lmul, 1), (113, .lload 9, 2), (115, .aload_n 0, 1), (116, .getfield 29, 3), (119, .iload_n 1, 1), (120, .laload, 1), (121, .lmul, 1), (122, .lsub, 1), (123, .aload_n 0, 1), (124, .getfield 9, 3), (127, .ldiv, 1), (128, .lastore, 1), (129, .aload 8, 2), (131, .aload_n 0, 1), (132, .getfield 130, 3)] : List (Nat × Instr × Nat)), decode cX0_putIn e.1 = .ok (e.2.1, e.2.2) := by decide +kernel
theorem jX0_putIn_2 : ∀ e ∈ ([(135, .lload 9, 2), (137, .lastore, 1), (138, .return_, 1)] : List (Nat × Instr × Nat)), decode cX0_putIn e.1 = .ok (e.2.1, e.2.2) := by decide +kernel
set_option maxRecDepth 100000 in
theorem jX0_putIn : ∀ e ∈ iX0_putIn, decode cX0_putIn e.1 = .ok (e.2.1, e.2.2) := (List.forall_mem_append.mpr ⟨jX0_putIn_0, (List.forall_mem_append.mpr ⟨jX0_putIn_1, jX0_putIn_2⟩)⟩)
theorem jX1_become_0 : ∀ e ∈ ([(0, .iconst 0, 1), (1, .istore 6, 2), (3, .iload 6, 2), (5, .iconst 5, 1), (6, .if_icmp .ge 27, 3), (9, .iload 6, 2), (11, .aload_n 1, 1), (12, .arraylength, 1), (13, .if_icmp .ge 20, 3), (16, .aload_n 0, 1), (17, .getfield 9, 3), (20, .iload 6, 2), (22, .aload_n 1, 1), (23, .iload 6, 2), (25, .iaload, 1), (26, .iastore, 1), (27, .iinc 6 1, 3), (30, .goto (-27), 3), (33, .aload_n 0, 1), (34, .iload_n 2, 1), (35, .putfield 15, 3), (38, .aload_n 0, 1), (39, .iload_n 3, 1), (40, .putfield 19, 3), (43, .aload_n 0, 1), (44, .iload 4, 2), (46, .putfield 22, 3), (49, .aload_n 0, 1), (50, .iload 5, 2), (52, .putfield 25, 3), (55, .aload_n 0, 1), (56, .iconst 0, 1), (57, .putfield 28, 3), (60, .aload_n 0, 1), (61, .iconst 1, 1), (62, .putfield 32, 3), (65, .return_, 1)] : List (Nat × Instr × Nat)), decode cX1_become e.1 = .ok (e.2.1, e.2.2) := by decide +kernel
theorem jX1_become : ∀ e ∈ iX1_become, decode cX1_become e.1 = .ok (e.2.1, e.2.2) := jX1_become_0
theorem jX1_counts_0 : ∀ e ∈ ([(0, .aload_n 0, 1), (1, .getfield 32, 3), (4, .ifCond .eq 14, 3), (7, .aload_n 0, 1), (8, .getfield 28, 3), (11, .ifCond .ne 7, 3), (14, .iconst 1, 1), (15, .goto 4, 3), (18, .iconst 0, 1), (19, .ireturn, 1)] : List (Nat × Instr × Nat)), decode cX1_counts e.1 = .ok (e.2.1, e.2.2) := by decide +kernel
theorem jX1_counts : ∀ e ∈ iX1_counts, decode cX1_counts e.1 = .ok (e.2.1, e.2.2) := jX1_counts_0
theorem jX1_costAbove_0 : ∀ e ∈ ([(0, .aload_n 0, 1), (1, .getfield 15, 3), (4, .iconst 2, 1), (5, .if_icmp .ne 7, 3), (8, .iconst 0, 1), (9, .goto 7, 3), (12, .aload_n 0, 1), (13, .getfield 22, 3), (16, .ireturn, 1)] : List (Nat × Instr × Nat)), decode cX1_costAbove e.1 = .ok (e.2.1, e.2.2) := by decide +kernel
theorem jX1_costAbove : ∀ e ∈ iX1_costAbove, decode cX1_costAbove e.1 = .ok (e.2.1, e.2.2) := jX1_costAbove_0
theorem jX1_costBelow_0 : ∀ e ∈ ([(0, .aload_n 0, 1), (1, .getfield 15, 3), (4, .iconst 1, 1), (5, .if_icmp .ne 7, 3), (8, .iconst 0, 1), (9, .goto 7, 3), (12, .aload_n 0, 1), (13, .getfield 22, 3), (16, .ireturn, 1)] : List (Nat × Instr × Nat)), decode cX1_costBelow e.1 = .ok (e.2.1, e.2.2) := by decide +kernel
theorem jX1_costBelow : ∀ e ∈ iX1_costBelow, decode cX1_costBelow e.1 = .ok (e.2.1, e.2.2) := jX1_costBelow_0
theorem jX2_edge_0 : ∀ e ∈ ([(0, .iload_n 1, 1), (1, .ldc 40, 2), (3, .invokestatic 41, 3), (6, .ifCond .ne 6, 3), (9, .ldc 45, 2), (11, .ireturn, 1), (12, .aload_n 0, 1), (13, .getfield 46, 3), (16, .iconst 5, 1), (17, .if_icmp .lt 6, 3), (20, .ldc 50, 2), (22, .ireturn, 1), (23, .aload_n 0, 1), (24, .getfield 9, 3), (27, .aload_n 0, 1), (28, .getfield 46, 3), (31, .iload_n 1, 1), (32, .iastore, 1), (33, .aload_n 0, 1), (34, .dup, 1), (35, .getfield 46, 3), (38, .iconst 1, 1), (39, .iadd, 1), (40, .putfield 46, 3), (43, .aload_n 0, 1), (44, .iconst 0, 1), (45, .putfield 51, 3), (48, .aload_n 0, 1), (49, .getfield 46, 3), (52, .iconst 1, 1), (53, .isub, 1), (54, .ireturn, 1)] : List (Nat × Instr × Nat)), decode cX2_edge e.1 = .ok (e.2.1, e.2.2) := by decide +kernel
theorem jX2_edge : ∀ e ∈ iX2_edge, decode cX2_edge e.1 = .ok (e.2.1, e.2.2) := jX2_edge_0
theorem jX2_factor_0 : ∀ e ∈ ([(0, .iload_n 1, 1), (1, .ifCond .lt 16, 3), (4, .iload_n 1, 1), (5, .iconst 5, 1), (6, .if_icmp .ge 11, 3), (9, .iload_n 2, 1), (10, .iconst 3, 1), (11, .invokestatic 41, 3), (14, .ifCond .ne 6, 3), (17, .ldc 45, 2), (19, .ireturn, 1), (20, .aload_n 0, 1), (21, .getfield 13, 3), (24, .iload_n 1, 1), (25, .iaload, 1), (26, .istore_n 3, 1), (27, .aload_n 0, 1), (28, .getfield 13, 3), (31, .iload_n 1, 1), (32, .iload_n 2, 1), (33, .iastore, 1), (34, .iload_n 3, 1), (35, .ireturn, 1)] : List (Nat × Instr × Nat)), decode cX2_factor e.1 = .ok (e.2.1, e.2.2) := by decide +kernel
theorem jX2_factor : ∀ e ∈ iX2_factor, decode cX2_factor e.1 = .ok (e.2.1, e.2.2) := jX2_factor_0
theorem jX2_wish_0 : ∀ e ∈ ([(0, .iload_n 1, 1), (1, .ifCond .lt 27, 3), (4, .iload_n 1, 1), (5, .iconst 2, 1), (6, .if_icmp .gt 22, 3), (9, .iload_n 2, 1), (10, .iload_n 3, 1), (11, .invokestatic 55, 3), (14, .ifCond .eq 14, 3), (17, .iload 4, 2), (19, .sipush 1000, 3), (22, .invokestatic 41, 3), (25, .ifCond .ne 6, 3), (28, .ldc 45, 2), (30, .ireturn, 1), (31, .aload_n 0, 1), (32, .getfield 13, 3), (35, .iconst 0, 1), (36, .invokestatic 58, 3), (39, .ifCond .ne 17, 3), (42, .aload_n 0, 1), (43, .getfield 13, 3), (46, .aload_n 0, 1), (47, .getfield 46, 3), (50, .invokestatic 58, 3), (53, .ifCond .ne 6, 3), (56, .ldc 62, 2), (58, .ireturn, 1), (59, .aload_n 0, 1), (60, .aload_n 0, 1), (61, .getfield 13, 3), (64, .iload_n 1, 1), (65, .iload_n 2, 1), (66, .iload_n 3, 1), (67, .iload 4, 2), (69, .invokevirtual 63, 3), (72, .istore 5, 2), (74, .aload_n 0, 1), (75, .getfield 13, 3), (78, .iconst 0, 1)] : List (Nat × Instr × Nat)), decode cX2_wish e.1 = .ok (e.2.1, e.2.2) := by decide +kernel
theorem jX2_wish_1 : ∀ e ∈ ([(79, .invokestatic 67, 3), (82, .iload 5, 2), (84, .ireturn, 1)] : List (Nat × Instr × Nat)), decode cX2_wish e.1 = .ok (e.2.1, e.2.2) := by decide +kernel
set_option maxRecDepth 100000 in
theorem jX2_wish : ∀ e ∈ iX2_wish, decode cX2_wish e.1 = .ok (e.2.1, e.2.2) := (List.forall_mem_append.mpr ⟨jX2_wish_0, jX2_wish_1⟩)
theorem jX2_side_0 : ∀ e ∈ ([(0, .aload_n 0, 1), (1, .iload_n 1, 1), (2, .invokevirtual 73, 3), (5, .ifCond .eq 19, 3), (8, .aload_n 0, 1), (9, .iload_n 2, 1), (10, .invokevirtual 73, 3), (13, .ifCond .eq 11, 3), (16, .aload_n 0, 1), (17, .iload_n 3, 1), (18, .invokevirtual 73, 3), (21, .ifCond .ne 6, 3), (24, .ldc 77, 2), (26, .ireturn, 1), (27, .iload 4, 2), (29, .ifCond .lt 21, 3), (32, .iload 4, 2), (34, .sipush 1000, 3), (37, .if_icmp .gt 13, 3), (40, .iload 5, 2), (42, .iload 6, 2), (44, .invokestatic 55, 3), (47, .ifCond .ne 6, 3), (50, .ldc 45, 2), (52, .ireturn, 1), (53, .aload_n 0, 1), (54, .getfield 16, 3), (57, .iconst 0, 1), (58, .invokestatic 67, 3), (61, .aload_n 0, 1), (62, .getfield 16, 3), (65, .iload_n 1, 1), (66, .dup2, 1), (67, .iaload, 1), (68, .iconst 1, 1), (69, .iadd, 1), (70, .iastore, 1), (71, .aload_n 0, 1), (72, .getfield 16, 3), (75, .iload_n 2, 1)] : List (Nat × Instr × Nat)), decode cX2_side e.1 = .ok (e.2.1, e.2.2) := by decide +kernel
theorem jX2_side_1 : ∀ e ∈ ([(76, .dup2, 1), (77, .iaload, 1), (78, .iconst 1, 1), (79, .iadd, 1), (80, .iastore, 1), (81, .aload_n 0, 1), (82, .getfield 16, 3), (85, .iload_n 3, 1), (86, .dup2, 1), (87, .iaload, 1), (88, .iconst 1, 1), (89, .isub, 1), (90, .iastore, 1), (91, .aload_n 0, 1), (92, .getfield 16, 3), (95, .iconst 0, 1), (96, .invokestatic 58, 3), (99, .ifCond .eq 6, 3), (102, .ldc 62, 2), (104, .ireturn, 1), (105, .aload_n 0, 1), (106, .aload_n 0, 1), (107, .getfield 16, 3), (110, .iconst 0, 1), (111, .iload 5, 2), (113, .iload 6, 2), (115, .iload 4, 2), (117, .ineg, 1), (118, .invokevirtual 63, 3), (121, .ireturn, 1)] : List (Nat × Instr × Nat)), decode cX2_side e.1 = .ok (e.2.1, e.2.2) := by decide +kernel
set_option maxRecDepth 100000 in
theorem jX2_side : ∀ e ∈ iX2_side, decode cX2_side e.1 = .ok (e.2.1, e.2.2) := (List.forall_mem_append.mpr ⟨jX2_side_0, jX2_side_1⟩)
theorem jX2_take_0 : ∀ e ∈ ([(0, .aload_n 0, 1), (1, .iload_n 1, 1), (2, .invokevirtual 78, 3), (5, .ifCond .ne 6, 3), (8, .ldc 77, 2), (10, .ireturn, 1), (11, .aload_n 0, 1), (12, .getfield 25, 3), (15, .iload_n 1, 1), (16, .aaload, 1), (17, .iconst 0, 1), (18, .putfield 81, 3), (21, .aload_n 0, 1), (22, .iconst 0, 1), (23, .putfield 51, 3), (26, .aload_n 0, 1), (27, .invokevirtual 84, 3), (30, .ireturn, 1)] : List (Nat × Instr × Nat)), decode cX2_take e.1 = .ok (e.2.1, e.2.2) := by decide +kernel
theorem jX2_take : ∀ e ∈ iX2_take, decode cX2_take e.1 = .ok (e.2.1, e.2.2) := jX2_take_0
theorem jX2_hide_0 : ∀ e ∈ ([(0, .aload_n 0, 1), (1, .iload_n 1, 1), (2, .invokevirtual 78, 3), (5, .ifCond .ne 6, 3), (8, .ldc 77, 2), (10, .ireturn, 1), (11, .aload_n 0, 1), (12, .getfield 25, 3), (15, .iload_n 1, 1), (16, .aaload, 1), (17, .astore_n 3, 1), (18, .aload_n 3, 1), (19, .getfield 88, 3), (22, .istore 4, 2), (24, .aload_n 3, 1), (25, .iload_n 2, 1), (26, .putfield 88, 3), (29, .iload 4, 2), (31, .iload_n 2, 1), (32, .if_icmp .eq 20, 3), (35, .aload_n 0, 1), (36, .aload_n 3, 1), (37, .invokevirtual 91, 3), (40, .ifCond .eq 12, 3), (43, .aload_n 3, 1), (44, .iload 4, 2), (46, .putfield 88, 3), (49, .ldc 95, 2), (51, .ireturn, 1), (52, .iload 4, 2), (54, .ifCond .eq 7, 3), (57, .iconst 1, 1), (58, .goto 4, 3), (61, .iconst 0, 1), (62, .ireturn, 1)] : List (Nat × Instr × Nat)), decode cX2_hide e.1 = .ok (e.2.1, e.2.2) := by decide +kernel
theorem jX2_hide : ∀ e ∈ iX2_hide, decode cX2_hide e.1 = .ok (e.2.1, e.2.2) := jX2_hide_0
theorem jX2_drag_0 : ∀ e ∈ ([(0, .aload_n 0, 1), (1, .iload_n 1, 1), (2, .invokevirtual 78, 3), (5, .ifCond .ne 6, 3), (8, .ldc 77, 2), (10, .ireturn, 1), (11, .iload_n 2, 1), (12, .sipush 1000, 3), (15, .invokestatic 41, 3), (18, .ifCond .ne 6, 3), (21, .ldc 45, 2), (23, .ireturn, 1), (24, .aload_n 0, 1), (25, .getfield 25, 3), (28, .iload_n 1, 1), (29, .aaload, 1), (30, .astore_n 3, 1), (31, .aload_n 3, 1), (32, .getfield 96, 3), (35, .istore 4, 2), (37, .aload_n 3, 1), (38, .iload_n 2, 1), (39, .putfield 96, 3), (42, .iload 4, 2), (44, .iload_n 2, 1), (45, .if_icmp .eq 20, 3), (48, .aload_n 0, 1), (49, .aload_n 3, 1), (50, .invokevirtual 91, 3), (53, .ifCond .eq 12, 3), (56, .aload_n 3, 1), (57, .iload 4, 2), (59, .putfield 96, 3), (62, .ldc 95, 2), (64, .ireturn, 1), (65, .iload 4, 2), (67, .ireturn, 1)] : List (Nat × Instr × Nat)), decode cX2_drag e.1 = .ok (e.2.1, e.2.2) := by decide +kernel
theorem jX2_drag : ∀ e ∈ iX2_drag, decode cX2_drag e.1 = .ok (e.2.1, e.2.2) := jX2_drag_0
theorem jX2_strength_0 : ∀ e ∈ ([(0, .aload_n 0, 1), (1, .iload_n 1, 1), (2, .invokevirtual 78, 3), (5, .ifCond .ne 6, 3), (8, .ldc 77, 2), (10, .ireturn, 1), (11, .iload_n 2, 1), (12, .iload_n 3, 1), (13, .invokestatic 55, 3), (16, .ifCond .ne 6, 3), (19, .ldc 45, 2), (21, .ireturn, 1), (22, .aload_n 0, 1), (23, .getfield 25, 3), (26, .iload_n 1, 1), (27, .aaload, 1), (28, .astore 4, 2), (30, .aload 4, 2), (32, .getfield 99, 3), (35, .istore 5, 2), (37, .aload 4, 2), (39, .getfield 102, 3), (42, .istore 6, 2), (44, .aload 4, 2), (46, .iload_n 2, 1), (47, .putfield 99, 3), (50, .aload 4, 2), (52, .iload_n 3, 1), (53, .putfield 102, 3), (56, .aload_n 0, 1), (57, .aload 4, 2), (59, .invokevirtual 91, 3), (62, .ifCond .eq 20, 3), (65, .aload 4, 2), (67, .iload 5, 2), (69, .putfield 99, 3), (72, .aload 4, 2), (74, .iload 6, 2), (76, .putfield 102, 3), (79, .ldc 95, 2)] : List (Nat × Instr × Nat)), decode cX2_strength e.1 = .ok (e.2.1, e.2.2) := by decide +kernel
theorem jX2_strength_1 : ∀ e ∈ ([(81, .ireturn, 1), (82, .iconst 1, 1), (83, .ireturn, 1)] : List (Nat × Instr × Nat)), decode cX2_strength e.1 = .ok (e.2.1, e.2.2) := by decide +kernel
set_option maxRecDepth 100000 in
theorem jX2_strength : ∀ e ∈ iX2_strength, decode cX2_strength e.1 = .ok (e.2.1, e.2.2) := (List.forall_mem_append.mpr ⟨jX2_strength_0, jX2_strength_1⟩)
theorem jX2_told_0 : ∀ e ∈ ([(0, .aload_n 0, 1), (1, .iload_n 1, 1), (2, .invokevirtual 78, 3), (5, .ifCond .ne 6, 3), (8, .ldc 77, 2), (10, .ireturn, 1), (11, .iload_n 2, 1), (12, .ifCond .lt 9, 3), (15, .iload_n 2, 1), (16, .bipush 10, 2), (18, .if_icmp .lt 6, 3), (21, .ldc 45, 2), (23, .ireturn, 1), (24, .aload_n 0, 1), (25, .getfield 25, 3), (28, .iload_n 1, 1), (29, .aaload, 1), (30, .astore_n 3, 1), (31, .iload_n 2, 1), (32, .tableswitch 69 0 4 #[36, 41, 46, 51, 56], 36), (68, .aload_n 3, 1), (69, .getfield 105, 3), (72, .ireturn, 1), (73, .aload_n 3, 1), (74, .getfield 99, 3), (77, .ireturn, 1), (78, .aload_n 3, 1), (79, .getfield 102, 3), (82, .ireturn, 1), (83, .aload_n 3, 1), (84, .getfield 96, 3), (87, .ireturn, 1), (88, .aload_n 3, 1), (89, .getfield 88, 3), (92, .ifCond .eq 7, 3), (95, .iconst 1, 1), (96, .goto 4, 3), (99, .iconst 0, 1), (100, .ireturn, 1), (101, .aload_n 3, 1)] : List (Nat × Instr × Nat)), decode cX2_told e.1 = .ok (e.2.1, e.2.2) := by decide +kernel
theorem jX2_told_1 : ∀ e ∈ ([(102, .getfield 108, 3), (105, .iload_n 2, 1), (106, .iconst 5, 1), (107, .isub, 1), (108, .iaload, 1), (109, .ireturn, 1)] : List (Nat × Instr × Nat)), decode cX2_told e.1 = .ok (e.2.1, e.2.2) := by decide +kernel
set_option maxRecDepth 100000 in
theorem jX2_told : ∀ e ∈ iX2_told, decode cX2_told e.1 = .ok (e.2.1, e.2.2) := (List.forall_mem_append.mpr ⟨jX2_told_0, jX2_told_1⟩)
theorem jX2_count_0 : ∀ e ∈ ([(0, .iload_n 1, 1), (1, .tableswitch 55 0 3 #[31, 36, 41, 50], 31), (32, .aload_n 0, 1), (33, .getfield 46, 3), (36, .ireturn, 1), (37, .aload_n 0, 1), (38, .invokevirtual 84, 3), (41, .ireturn, 1), (42, .aload_n 0, 1), (43, .iconst 0, 1), (44, .invokevirtual 111, 3), (47, .invokestatic 115, 3), (50, .ireturn, 1), (51, .aload_n 0, 1), (52, .invokevirtual 120, 3), (55, .ireturn, 1), (56, .ldc 45, 2), (58, .ireturn, 1)] : List (Nat × Instr × Nat)), decode cX2_count e.1 = .ok (e.2.1, e.2.2) := by decide +kernel
theorem jX2_count : ∀ e ∈ iX2_count, decode cX2_count e.1 = .ok (e.2.1, e.2.2) := jX2_count_0
theorem jX2_quarrel_0 : ∀ e ∈ ([(0, .aload_n 0, 1), (1, .getfield 123, 3), (4, .ireturn, 1)] : List (Nat × Instr × Nat)), decode cX2_quarrel e.1 = .ok (e.2.1, e.2.2) := by decide +kernel
theorem jX2_quarrel : ∀ e ∈ iX2_quarrel, decode cX2_quarrel e.1 = .ok (e.2.1, e.2.2) := jX2_quarrel_0
theorem jX2_at_0 : ∀ e ∈ ([(0, .aload_n 0, 1), (1, .iload_n 1, 1), (2, .invokevirtual 73, 3), (5, .ifCond .ne 6, 3), (8, .ldc 77, 2), (10, .ireturn, 1), (11, .iload_n 2, 1), (12, .invokestatic 126, 3), (15, .ifCond .ne 6, 3), (18, .ldc 45, 2), (20, .ireturn, 1), (21, .aload_n 0, 1), (22, .invokevirtual 129, 3), (25, .aload_n 0, 1), (26, .getfield 33, 3), (29, .getfield 132, 3), (32, .iload_n 1, 1), (33, .laload, 1), (34, .aload_n 0, 1), (35, .getfield 33, 3), (38, .getfield 135, 3), (41, .iload_n 2, 1), (42, .invokestatic 139, 3), (45, .l2i, 1), (46, .ireturn, 1)] : List (Nat × Instr × Nat)), decode cX2_at e.1 = .ok (e.2.1, e.2.2) := by decide +kernel
theorem jX2_at : ∀ e ∈ iX2_at, decode cX2_at e.1 = .ok (e.2.1, e.2.2) := jX2_at_0
theorem jX2_pixel_0 : ∀ e ∈ ([(0, .aload_n 0, 1), (1, .iload_n 1, 1), (2, .invokevirtual 73, 3), (5, .ifCond .ne 6, 3), (8, .ldc 77, 2), (10, .ireturn, 1), (11, .aload_n 0, 1), (12, .invokevirtual 129, 3), (15, .aload_n 0, 1), (16, .iload_n 1, 1), (17, .invokevirtual 143, 3), (20, .l2i, 1), (21, .ireturn, 1)] : List (Nat × Instr × Nat)), decode cX2_pixel e.1 = .ok (e.2.1, e.2.2) := by decide +kernel
theorem jX2_pixel : ∀ e ∈ iX2_pixel, decode cX2_pixel e.1 = .ok (e.2.1, e.2.2) := jX2_pixel_0
theorem jX2_off_0 : ∀ e ∈ ([(0, .aload_n 0, 1), (1, .iload_n 1, 1), (2, .invokevirtual 78, 3), (5, .ifCond .ne 7, 3), (8, .ldc2_w 147, 3), (11, .lreturn, 1), (12, .iload_n 2, 1), (13, .invokestatic 126, 3), (16, .ifCond .ne 7, 3), (19, .ldc2_w 149, 3), (22, .lreturn, 1), (23, .aload_n 0, 1), (24, .invokevirtual 129, 3), (27, .aload_n 0, 1), (28, .getfield 33, 3), (31, .aload_n 0, 1), (32, .getfield 25, 3), (35, .iload_n 1, 1), (36, .aaload, 1), (37, .invokevirtual 151, 3), (40, .aload_n 0, 1), (41, .getfield 33, 3), (44, .getfield 135, 3), (47, .iload_n 2, 1), (48, .invokestatic 139, 3), (51, .lreturn, 1)] : List (Nat × Instr × Nat)), decode cX2_off e.1 = .ok (e.2.1, e.2.2) := by decide +kernel
theorem jX2_off : ∀ e ∈ iX2_off, decode cX2_off e.1 = .ok (e.2.1, e.2.2) := jX2_off_0
theorem jX2_cost_0 : ∀ e ∈ ([(0, .iload_n 1, 1), (1, .ifCond .le 15, 3), (4, .iload_n 1, 1), (5, .iconst 4, 1), (6, .if_icmp .ge 10, 3), (9, .iload_n 2, 1), (10, .invokestatic 126, 3), (13, .ifCond .ne 7, 3), (16, .ldc2_w 149, 3), (19, .lreturn, 1), (20, .aload_n 0, 1), (21, .invokevirtual 129, 3), (24, .lconst 0, 1), (25, .lstore_n 3, 1), (26, .iconst 0, 1), (27, .istore 5, 2), (29, .iload 5, 2), (31, .bipush 9, 2), (33, .if_icmp .ge 54, 3), (36, .aload_n 0, 1), (37, .getfield 25, 3), (40, .iload 5, 2), (42, .aaload, 1), (43, .astore 6, 2), (45, .aload 6, 2), (47, .invokevirtual 155, 3), (50, .ifCond .eq 31, 3), (53, .aload 6, 2), (55, .getfield 99, 3), (58, .iload_n 1, 1), (59, .if_icmp .ne 22, 3), (62, .lload_n 3, 1), (63, .aload 6, 2), (65, .getfield 102, 3), (68, .i2l, 1), (69, .aload_n 0, 1), (70, .getfield 33, 3), (73, .aload 6, 2), (75, .invokevirtual 151, 3), (78, .lmul, 1)] : List (Nat × Instr × Nat)), decode cX2_cost e.1 = .ok (e.2.1, e.2.2) := by decide +kernel
theorem jX2_cost_1 : ∀ e ∈ ([(79, .ladd, 1), (80, .lstore_n 3, 1), (81, .iinc 5 1, 3), (84, .goto (-55), 3), (87, .lload_n 3, 1), (88, .aload_n 0, 1), (89, .getfield 33, 3), (92, .getfield 135, 3), (95, .iload_n 2, 1), (96, .invokestatic 139, 3), (99, .lreturn, 1)] : List (Nat × Instr × Nat)), decode cX2_cost e.1 = .ok (e.2.1, e.2.2) := by decide +kernel
set_option maxRecDepth 100000 in
theorem jX2_cost : ∀ e ∈ iX2_cost, decode cX2_cost e.1 = .ok (e.2.1, e.2.2) := (List.forall_mem_append.mpr ⟨jX2_cost_0, jX2_cost_1⟩)
theorem jX2_why_0 : ∀ e ∈ ([(0, .aload_n 0, 1), (1, .iload_n 1, 1), (2, .invokevirtual 78, 3), (5, .ifCond .ne 6, 3), (8, .ldc 77, 2), (10, .ireturn, 1), (11, .aload_n 0, 1), (12, .getfield 25, 3), (15, .iload_n 1, 1), (16, .aaload, 1), (17, .astore_n 2, 1), (18, .aload_n 2, 1), (19, .getfield 88, 3), (22, .ifCond .eq 5, 3), (25, .iconst 0, 1), (26, .ireturn, 1), (27, .aload_n 0, 1), (28, .invokevirtual 129, 3), (31, .aload_n 0, 1), (32, .getfield 33, 3), (35, .aload_n 2, 1), (36, .invokevirtual 151, 3), (39, .lconst 0, 1), (40, .lcmp, 1), (41, .ifCond .ne 5, 3), (44, .iconst 0, 1), (45, .ireturn, 1), (46, .iconst 0, 1), (47, .istore_n 3, 1), (48, .iconst 0, 1), (49, .istore 4, 2), (51, .iload 4, 2), (53, .bipush 9, 2), (55, .if_icmp .ge 61, 3), (58, .aload_n 0, 1), (59, .getfield 25, 3), (62, .iload 4, 2), (64, .aaload, 1), (65, .astore 5, 2), (67, .iload 4, 2)] : List (Nat × Instr × Nat)), decode cX2_why e.1 = .ok (e.2.1, e.2.2) := by decide +kernel
theorem jX2_why_1 : ∀ e ∈ ([(69, .iload_n 1, 1), (70, .if_icmp .eq 40, 3), (73, .aload 5, 2), (75, .invokevirtual 155, 3), (78, .ifCond .eq 32, 3), (81, .aload 5, 2), (83, .getfield 99, 3), (86, .aload_n 2, 1), (87, .getfield 99, 3), (90, .if_icmp .gt 20, 3), (93, .aload_n 0, 1), (94, .aload_n 2, 1), (95, .iload 4, 2), (97, .invokevirtual 159, 3), (100, .ifCond .eq 10, 3), (103, .iload_n 3, 1), (104, .iconst 1, 1), (105, .iload 4, 2), (107, .ishl, 1), (108, .ior, 1), (109, .istore_n 3, 1), (110, .iinc 4 1, 3), (113, .goto (-62), 3), (116, .iload_n 3, 1), (117, .ireturn, 1)] : List (Nat × Instr × Nat)), decode cX2_why e.1 = .ok (e.2.1, e.2.2) := by decide +kernel
set_option maxRecDepth 100000 in
theorem jX2_why : ∀ e ∈ iX2_why, decode cX2_why e.1 = .ok (e.2.1, e.2.2) := (List.forall_mem_append.mpr ⟨jX2_why_0, jX2_why_1⟩)
theorem jX2_stay_0 : ∀ e ∈ ([(0, .aload_n 0, 1), (1, .iload_n 1, 1), (2, .invokevirtual 73, 3), (5, .ifCond .eq 12, 3), (8, .aload_n 0, 1), (9, .getfield 9, 3), (12, .iload_n 1, 1), (13, .iaload, 1), (14, .goto 5, 3), (17, .ldc 77, 2), (19, .ireturn, 1)] : List (Nat × Instr × Nat)), decode cX2_stay e.1 = .ok (e.2.1, e.2.2) := by decide +kernel
theorem jX2_stay : ∀ e ∈ iX2_stay, decode cX2_stay e.1 = .ok (e.2.1, e.2.2) := jX2_stay_0
theorem jX2_move_0 : ∀ e ∈ ([(0, .aload_n 0, 1), (1, .iload_n 1, 1), (2, .invokevirtual 73, 3), (5, .ifCond .ne 6, 3), (8, .ldc 77, 2), (10, .ireturn, 1), (11, .iload_n 2, 1), (12, .ldc 40, 2), (14, .invokestatic 41, 3), (17, .ifCond .ne 6, 3), (20, .ldc 45, 2), (22, .ireturn, 1), (23, .aload_n 0, 1), (24, .getfield 9, 3), (27, .iload_n 1, 1), (28, .iaload, 1), (29, .istore_n 3, 1), (30, .aload_n 0, 1), (31, .getfield 9, 3), (34, .iload_n 1, 1), (35, .iload_n 2, 1), (36, .iastore, 1), (37, .aload_n 0, 1), (38, .aload_n 0, 1), (39, .getfield 51, 3), (42, .ifCond .eq 12, 3), (45, .iload_n 3, 1), (46, .iload_n 2, 1), (47, .if_icmp .ne 7, 3), (50, .iconst 1, 1), (51, .goto 4, 3), (54, .iconst 0, 1), (55, .putfield 51, 3), (58, .iload_n 3, 1), (59, .ireturn, 1)] : List (Nat × Instr × Nat)), decode cX2_move e.1 = .ok (e.2.1, e.2.2) := by decide +kernel
theorem jX2_move : ∀ e ∈ iX2_move, decode cX2_move e.1 = .ok (e.2.1, e.2.2) := jX2_move_0
theorem jX2_settle_0 : ∀ e ∈ ([(0, .aload_n 0, 1), (1, .invokevirtual 129, 3), (4, .iconst 0, 1), (5, .istore_n 1, 1), (6, .iload_n 1, 1), (7, .aload_n 0, 1), (8, .getfield 46, 3), (11, .if_icmp .ge 49, 3), (14, .aload_n 0, 1), (15, .getfield 19, 3), (18, .iload_n 1, 1), (19, .aload_n 0, 1), (20, .iload_n 1, 1), (21, .invokevirtual 143, 3), (24, .lastore, 1), (25, .aload_n 0, 1), (26, .getfield 19, 3), (29, .iload_n 1, 1), (30, .laload, 1), (31, .ldc2_w 163, 3), (34, .lcmp, 1), (35, .ifCond .lt 16, 3), (38, .aload_n 0, 1), (39, .getfield 19, 3), (42, .iload_n 1, 1), (43, .laload, 1), (44, .ldc2_w 165, 3), (47, .lcmp, 1), (48, .ifCond .le 6, 3), (51, .ldc 62, 2), (53, .ireturn, 1), (54, .iinc 1 1, 3), (57, .goto (-51), 3), (60, .iconst 0, 1), (61, .istore_n 1, 1), (62, .iconst 0, 1), (63, .istore_n 2, 1), (64, .iload_n 2, 1), (65, .aload_n 0, 1), (66, .getfield 46, 3)] : List (Nat × Instr × Nat)), decode cX2_settle e.1 = .ok (e.2.1, e.2.2) := by decide +kernel
theorem jX2_settle_1 : ∀ e ∈ ([(69, .if_icmp .ge 42, 3), (72, .aload_n 0, 1), (73, .getfield 9, 3), (76, .iload_n 2, 1), (77, .iaload, 1), (78, .i2l, 1), (79, .aload_n 0, 1), (80, .getfield 19, 3), (83, .iload_n 2, 1), (84, .laload, 1), (85, .lcmp, 1), (86, .ifCond .eq 19, 3), (89, .aload_n 0, 1), (90, .getfield 9, 3), (93, .iload_n 2, 1), (94, .aload_n 0, 1), (95, .getfield 19, 3), (98, .iload_n 2, 1), (99, .laload, 1), (100, .l2i, 1), (101, .iastore, 1), (102, .iinc 1 1, 3), (105, .iinc 2 1, 3), (108, .goto (-44), 3), (111, .aload_n 0, 1), (112, .aload_n 0, 1), (113, .getfield 51, 3), (116, .ifCond .eq 11, 3), (119, .iload_n 1, 1), (120, .ifCond .ne 7, 3), (123, .iconst 1, 1), (124, .goto 4, 3), (127, .iconst 0, 1), (128, .putfield 51, 3), (131, .iload_n 1, 1), (132, .ireturn, 1)] : List (Nat × Instr × Nat)), decode cX2_settle e.1 = .ok (e.2.1, e.2.2) := by decide +kernel
set_option maxRecDepth 100000 in
theorem jX2_settle : ∀ e ∈ iX2_settle, decode cX2_settle e.1 = .ok (e.2.1, e.2.2) := (List.forall_mem_append.mpr ⟨jX2_settle_0, jX2_settle_1⟩)
theorem jX2_isWithin_0 : ∀ e ∈ ([(0, .iload_n 0, 1), (1, .iload_n 1, 1), (2, .ineg, 1), (3, .if_icmp .lt 12, 3), (6, .iload_n 0, 1), (7, .iload_n 1, 1), (8, .if_icmp .gt 7, 3), (11, .iconst 1, 1), (12, .goto 4, 3), (15, .iconst 0, 1), (16, .ireturn, 1)] : List (Nat × Instr × Nat)), decode cX2_isWithin e.1 = .ok (e.2.1, e.2.2) := by decide +kernel
theorem jX2_isWithin : ∀ e ∈ iX2_isWithin, decode cX2_isWithin e.1 = .ok (e.2.1, e.2.2) := jX2_isWithin_0
theorem jX2_isStrength_0 : ∀ e ∈ ([(0, .iload_n 0, 1), (1, .ifCond .lt 23, 3), (4, .iload_n 0, 1), (5, .iconst 4, 1), (6, .if_icmp .ge 18, 3), (9, .iload_n 1, 1), (10, .iconst 1, 1), (11, .if_icmp .lt 13, 3), (14, .iload_n 1, 1), (15, .bipush 9, 2), (17, .if_icmp .gt 7, 3), (20, .iconst 1, 1), (21, .goto 4, 3), (24, .iconst 0, 1), (25, .ireturn, 1)] : List (Nat × Instr × Nat)), decode cX2_isStrength e.1 = .ok (e.2.1, e.2.2) := by decide +kernel
theorem jX2_isStrength : ∀ e ∈ iX2_isStrength, decode cX2_isStrength e.1 = .ok (e.2.1, e.2.2) := jX2_isStrength_0
theorem jX2_isPart_0 : ∀ e ∈ ([(0, .iload_n 0, 1), (1, .ifCond .eq 8, 3), (4, .iload_n 0, 1), (5, .iconst 1, 1), (6, .if_icmp .ne 7, 3), (9, .iconst 1, 1), (10, .goto 4, 3), (13, .iconst 0, 1), (14, .ireturn, 1)] : List (Nat × Instr × Nat)), decode cX2_isPart e.1 = .ok (e.2.1, e.2.2) := by decide +kernel
theorem jX2_isPart : ∀ e ∈ iX2_isPart, decode cX2_isPart e.1 = .ok (e.2.1, e.2.2) := jX2_isPart_0
theorem jX2_isEdge_0 : ∀ e ∈ ([(0, .iload_n 1, 1), (1, .ifCond .lt 15, 3), (4, .iload_n 1, 1), (5, .aload_n 0, 1), (6, .getfield 46, 3), (9, .if_icmp .ge 7, 3), (12, .iconst 1, 1), (13, .goto 4, 3), (16, .iconst 0, 1), (17, .ireturn, 1)] : List (Nat × Instr × Nat)), decode cX2_isEdge e.1 = .ok (e.2.1, e.2.2) := by decide +kernel
theorem jX2_isEdge : ∀ e ∈ iX2_isEdge, decode cX2_isEdge e.1 = .ok (e.2.1, e.2.2) := jX2_isEdge_0
theorem jX2_isWish_0 : ∀ e ∈ ([(0, .iload_n 1, 1), (1, .ifCond .lt 25, 3), (4, .iload_n 1, 1), (5, .bipush 9, 2), (7, .if_icmp .ge 19, 3), (10, .aload_n 0, 1), (11, .getfield 25, 3), (14, .iload_n 1, 1), (15, .aaload, 1), (16, .getfield 81, 3), (19, .ifCond .eq 7, 3), (22, .iconst 1, 1), (23, .goto 4, 3), (26, .iconst 0, 1), (27, .ireturn, 1)] : List (Nat × Instr × Nat)), decode cX2_isWish e.1 = .ok (e.2.1, e.2.2) := by decide +kernel
theorem jX2_isWish : ∀ e ∈ iX2_isWish, decode cX2_isWish e.1 = .ok (e.2.1, e.2.2) := jX2_isWish_0
theorem jX2_areAllZero_0 : ∀ e ∈ ([(0, .iload_n 1, 1), (1, .istore_n 2, 1), (2, .iload_n 2, 1), (3, .aload_n 0, 1), (4, .arraylength, 1), (5, .if_icmp .ge 17, 3), (8, .aload_n 0, 1), (9, .iload_n 2, 1), (10, .iaload, 1), (11, .ifCond .eq 5, 3), (14, .iconst 0, 1), (15, .ireturn, 1), (16, .iinc 2 1, 3), (19, .goto (-17), 3), (22, .iconst 1, 1), (23, .ireturn, 1)] : List (Nat × Instr × Nat)), decode cX2_areAllZero e.1 = .ok (e.2.1, e.2.2) := by decide +kernel
theorem jX2_areAllZero : ∀ e ∈ iX2_areAllZero, decode cX2_areAllZero e.1 = .ok (e.2.1, e.2.2) := jX2_areAllZero_0
theorem jX2_addWish_0 : ∀ e ∈ ([(0, .aload_n 0, 1), (1, .invokevirtual 167, 3), (4, .istore 6, 2), (6, .iload 6, 2), (8, .iconst (-1), 1), (9, .if_icmp .ne 6, 3), (12, .ldc 50, 2), (14, .ireturn, 1), (15, .aload_n 0, 1), (16, .getfield 25, 3), (19, .iload 6, 2), (21, .aaload, 1), (22, .astore 7, 2), (24, .aload 7, 2), (26, .aload_n 1, 1), (27, .iload_n 2, 1), (28, .iload_n 3, 1), (29, .iload 4, 2), (31, .iload 5, 2), (33, .invokevirtual 170, 3), (36, .aload_n 0, 1), (37, .aload 7, 2), (39, .invokevirtual 91, 3), (42, .ifCond .eq 12, 3), (45, .aload 7, 2), (47, .iconst 0, 1), (48, .putfield 81, 3), (51, .ldc 95, 2), (53, .ireturn, 1), (54, .iload 6, 2), (56, .ireturn, 1)] : List (Nat × Instr × Nat)), decode cX2_addWish e.1 = .ok (e.2.1, e.2.2) := by decide +kernel
theorem jX2_addWish : ∀ e ∈ iX2_addWish, decode cX2_addWish e.1 = .ok (e.2.1, e.2.2) := jX2_addWish_0
theorem jX2_freeWish_0 : ∀ e ∈ ([(0, .iconst 0, 1), (1, .istore_n 1, 1), (2, .iload_n 1, 1), (3, .bipush 9, 2), (5, .if_icmp .ge 23, 3), (8, .aload_n 0, 1), (9, .getfield 25, 3), (12, .iload_n 1, 1), (13, .aaload, 1), (14, .getfield 81, 3), (17, .ifCond .ne 5, 3), (20, .iload_n 1, 1), (21, .ireturn, 1), (22, .iinc 1 1, 3), (25, .goto (-23), 3), (28, .iconst (-1), 1), (29, .ireturn, 1)] : List (Nat × Instr × Nat)), decode cX2_freeWish e.1 = .ok (e.2.1, e.2.2) := by decide +kernel
theorem jX2_freeWish : ∀ e ∈ iX2_freeWish, decode cX2_freeWish e.1 = .ok (e.2.1, e.2.2) := jX2_freeWish_0
theorem jX2_countWishes_0 : ∀ e ∈ ([(0, .iconst 0, 1), (1, .istore_n 1, 1), (2, .iconst 0, 1), (3, .istore_n 2, 1), (4, .iload_n 2, 1), (5, .bipush 9, 2), (7, .if_icmp .ge 24, 3), (10, .aload_n 0, 1), (11, .getfield 25, 3), (14, .iload_n 2, 1), (15, .aaload, 1), (16, .getfield 81, 3), (19, .ifCond .eq 6, 3), (22, .iinc 1 1, 3), (25, .iinc 2 1, 3), (28, .goto (-24), 3), (31, .iload_n 1, 1), (32, .ireturn, 1)] : List (Nat × Instr × Nat)), decode cX2_countWishes e.1 = .ok (e.2.1, e.2.2) := by decide +kernel
theorem jX2_countWishes : ∀ e ∈ iX2_countWishes, decode cX2_countWishes e.1 = .ok (e.2.1, e.2.2) := jX2_countWishes_0
theorem jX2_countUnmet_0 : ∀ e ∈ ([(0, .aload_n 0, 1), (1, .invokevirtual 129, 3), (4, .iconst 0, 1), (5, .istore_n 1, 1), (6, .iconst 0, 1), (7, .istore_n 2, 1), (8, .iload_n 2, 1), (9, .bipush 9, 2), (11, .if_icmp .ge 42, 3), (14, .aload_n 0, 1), (15, .getfield 25, 3), (18, .iload_n 2, 1), (19, .aaload, 1), (20, .invokevirtual 155, 3), (23, .ifCond .eq 24, 3), (26, .aload_n 0, 1), (27, .getfield 33, 3), (30, .aload_n 0, 1), (31, .getfield 25, 3), (34, .iload_n 2, 1), (35, .aaload, 1), (36, .invokevirtual 151, 3), (39, .lconst 0, 1), (40, .lcmp, 1), (41, .ifCond .eq 6, 3), (44, .iinc 1 1, 3), (47, .iinc 2 1, 3), (50, .goto (-42), 3), (53, .iload_n 1, 1), (54, .ireturn, 1)] : List (Nat × Instr × Nat)), decode cX2_countUnmet e.1 = .ok (e.2.1, e.2.2) := by decide +kernel
theorem jX2_countUnmet : ∀ e ∈ iX2_countUnmet, decode cX2_countUnmet e.1 = .ok (e.2.1, e.2.2) := jX2_countUnmet_0
theorem jX2_countingWishes_0 : ∀ e ∈ ([(0, .iconst 0, 1), (1, .istore_n 2, 1), (2, .iconst 0, 1), (3, .istore_n 3, 1), (4, .iload_n 3, 1), (5, .bipush 9, 2), (7, .if_icmp .ge 40, 3), (10, .aload_n 0, 1), (11, .getfield 25, 3), (14, .iload_n 3, 1), (15, .aaload, 1), (16, .invokevirtual 155, 3), (19, .ifCond .eq 22, 3), (22, .aload_n 0, 1), (23, .getfield 25, 3), (26, .iload_n 3, 1), (27, .aaload, 1), (28, .getfield 99, 3), (31, .iload_n 1, 1), (32, .if_icmp .gt 9, 3), (35, .iload_n 2, 1), (36, .iconst 1, 1), (37, .iload_n 3, 1), (38, .ishl, 1), (39, .ior, 1), (40, .istore_n 2, 1), (41, .iinc 3 1, 3), (44, .goto (-40), 3), (47, .iload_n 2, 1), (48, .ireturn, 1)] : List (Nat × Instr × Nat)), decode cX2_countingWishes e.1 = .ok (e.2.1, e.2.2) := by decide +kernel
theorem jX2_countingWishes : ∀ e ∈ iX2_countingWishes, decode cX2_countingWishes e.1 = .ok (e.2.1, e.2.2) := jX2_countingWishes_0
theorem jX2_findSetting_0 : ∀ e ∈ ([(0, .aload_n 0, 1), (1, .getfield 51, 3), (4, .ifCond .ne 39, 3), (7, .aload_n 0, 1), (8, .getfield 33, 3), (11, .aload_n 0, 1), (12, .getfield 25, 3), (15, .aload_n 0, 1), (16, .iconst 4, 1), (17, .invokevirtual 111, 3), (20, .aload_n 0, 1), (21, .getfield 9, 3), (24, .aload_n 0, 1), (25, .getfield 46, 3), (28, .invokevirtual 174, 3), (31, .aload_n 0, 1), (32, .getfield 33, 3), (35, .invokevirtual 178, 3), (38, .aload_n 0, 1), (39, .iconst 1, 1), (40, .putfield 51, 3), (43, .return_, 1)] : List (Nat × Instr × Nat)), decode cX2_findSetting e.1 = .ok (e.2.1, e.2.2) := by decide +kernel
theorem jX2_findSetting : ∀ e ∈ iX2_findSetting, decode cX2_findSetting e.1 = .ok (e.2.1, e.2.2) := jX2_findSetting_0
theorem jX2_clashes_0 : ∀ e ∈ ([(0, .aload_n 1, 1), (1, .invokevirtual 155, 3), (4, .ifCond .eq 10, 3), (7, .aload_n 1, 1), (8, .getfield 99, 3), (11, .ifCond .eq 10, 3), (14, .aload_n 0, 1), (15, .iconst 0, 1), (16, .putfield 51, 3), (19, .iconst 0, 1), (20, .ireturn, 1), (21, .aload_n 0, 1), (22, .getfield 37, 3), (25, .aload_n 0, 1), (26, .getfield 25, 3), (29, .aload_n 0, 1), (30, .iconst 4, 1), (31, .invokevirtual 111, 3), (34, .aload_n 0, 1), (35, .getfield 9, 3), (38, .aload_n 0, 1), (39, .getfield 46, 3), (42, .invokevirtual 174, 3), (45, .aload_n 0, 1), (46, .getfield 37, 3), (49, .iconst 1, 1), (50, .invokevirtual 181, 3), (53, .aload_n 0, 1), (54, .getfield 37, 3), (57, .invokevirtual 185, 3), (60, .ifCond .ne 13, 3), (63, .aload_n 0, 1), (64, .aload_n 0, 1), (65, .invokevirtual 188, 3), (68, .putfield 123, 3), (71, .iconst 1, 1), (72, .ireturn, 1), (73, .aload_n 0, 1), (74, .getfield 37, 3), (77, .invokevirtual 178, 3)] : List (Nat × Instr × Nat)), decode cX2_clashes e.1 = .ok (e.2.1, e.2.2) := by decide +kernel
theorem jX2_clashes_1 : ∀ e ∈ ([(80, .aload_n 0, 1), (81, .getfield 33, 3), (84, .astore_n 2, 1), (85, .aload_n 0, 1), (86, .aload_n 0, 1), (87, .getfield 37, 3), (90, .putfield 33, 3), (93, .aload_n 0, 1), (94, .aload_n 2, 1), (95, .putfield 37, 3), (98, .aload_n 0, 1), (99, .iconst 1, 1), (100, .putfield 51, 3), (103, .iconst 0, 1), (104, .ireturn, 1)] : List (Nat × Instr × Nat)), decode cX2_clashes e.1 = .ok (e.2.1, e.2.2) := by decide +kernel
set_option maxRecDepth 100000 in
theorem jX2_clashes : ∀ e ∈ iX2_clashes, decode cX2_clashes e.1 = .ok (e.2.1, e.2.2) := (List.forall_mem_append.mpr ⟨jX2_clashes_0, jX2_clashes_1⟩)
theorem jX2_leastQuarrel_0 : ∀ e ∈ ([(0, .aload_n 0, 1), (1, .iconst 0, 1), (2, .invokevirtual 111, 3), (5, .istore_n 1, 1), (6, .iconst 0, 1), (7, .istore_n 2, 1), (8, .iload_n 2, 1), (9, .bipush 9, 2), (11, .if_icmp .ge 62, 3), (14, .iload_n 1, 1), (15, .iconst 1, 1), (16, .iload_n 2, 1), (17, .ishl, 1), (18, .iconst (-1), 1), (19, .ixor, 1), (20, .iand, 1), (21, .istore_n 3, 1), (22, .iload_n 3, 1), (23, .iload_n 1, 1), (24, .if_icmp .eq 43, 3), (27, .aload_n 0, 1), (28, .getfield 37, 3), (31, .aload_n 0, 1), (32, .getfield 25, 3), (35, .iload_n 3, 1), (36, .aload_n 0, 1), (37, .getfield 9, 3), (40, .aload_n 0, 1), (41, .getfield 46, 3), (44, .invokevirtual 174, 3), (47, .aload_n 0, 1), (48, .getfield 37, 3), (51, .iconst 1, 1), (52, .invokevirtual 181, 3), (55, .aload_n 0, 1), (56, .getfield 37, 3), (59, .invokevirtual 185, 3), (62, .ifCond .ne 5, 3), (65, .iload_n 3, 1), (66, .istore_n 1, 1)] : List (Nat × Instr × Nat)), decode cX2_leastQuarrel e.1 = .ok (e.2.1, e.2.2) := by decide +kernel
theorem jX2_leastQuarrel_1 : ∀ e ∈ ([(67, .iinc 2 1, 3), (70, .goto (-62), 3), (73, .iload_n 1, 1), (74, .ireturn, 1)] : List (Nat × Instr × Nat)), decode cX2_leastQuarrel e.1 = .ok (e.2.1, e.2.2) := by decide +kernel
set_option maxRecDepth 100000 in
theorem jX2_leastQuarrel : ∀ e ∈ iX2_leastQuarrel, decode cX2_leastQuarrel e.1 = .ok (e.2.1, e.2.2) := (List.forall_mem_append.mpr ⟨jX2_leastQuarrel_0, jX2_leastQuarrel_1⟩)
theorem jX2_isNearerWithout_0 : ∀ e ∈ ([(0, .aload_n 0, 1), (1, .getfield 37, 3), (4, .aload_n 0, 1), (5, .getfield 33, 3), (8, .invokevirtual 191, 3), (11, .aload_n 0, 1), (12, .getfield 37, 3), (15, .iload_n 2, 1), (16, .invokevirtual 195, 3), (19, .aload_n 0, 1), (20, .getfield 37, 3), (23, .invokevirtual 178, 3), (26, .aload_n 0, 1), (27, .getfield 37, 3), (30, .aload_n 1, 1), (31, .invokevirtual 151, 3), (34, .aload_n 0, 1), (35, .getfield 33, 3), (38, .getfield 135, 3), (41, .lmul, 1), (42, .aload_n 0, 1), (43, .getfield 33, 3), (46, .aload_n 1, 1), (47, .invokevirtual 151, 3), (50, .aload_n 0, 1), (51, .getfield 37, 3), (54, .getfield 135, 3), (57, .lmul, 1), (58, .lcmp, 1), (59, .ifCond .ge 7, 3), (62, .iconst 1, 1), (63, .goto 4, 3), (66, .iconst 0, 1), (67, .ireturn, 1)] : List (Nat × Instr × Nat)), decode cX2_isNearerWithout e.1 = .ok (e.2.1, e.2.2) := by decide +kernel
theorem jX2_isNearerWithout : ∀ e ∈ iX2_isNearerWithout, decode cX2_isNearerWithout e.1 = .ok (e.2.1, e.2.2) := jX2_isNearerWithout_0
theorem jX2_pixelOf_0 : ∀ e ∈ ([(0, .aload_n 0, 1), (1, .getfield 33, 3), (4, .getfield 135, 3), (7, .lconst 0, 1), (8, .lcmp, 1), (9, .ifCond .gt 5, 3), (12, .lconst 0, 1), (13, .lreturn, 1), (14, .ldc2_w 198, 3), (17, .aload_n 0, 1), (18, .getfield 33, 3), (21, .getfield 132, 3), (24, .iload_n 1, 1), (25, .laload, 1), (26, .lmul, 1), (27, .aload_n 0, 1), (28, .getfield 33, 3), (31, .getfield 135, 3), (34, .ladd, 1), (35, .ldc2_w 198, 3), (38, .aload_n 0, 1), (39, .getfield 33, 3), (42, .getfield 135, 3), (45, .lmul, 1), (46, .invokestatic 200, 3), (49, .lreturn, 1)] : List (Nat × Instr × Nat)), decode cX2_pixelOf e.1 = .ok (e.2.1, e.2.2) := by decide +kernel
theorem jX2_pixelOf : ∀ e ∈ iX2_pixelOf, decode cX2_pixelOf e.1 = .ok (e.2.1, e.2.2) := jX2_pixelOf_0
theorem jX2_inLeastTerms_0 : ∀ e ∈ ([(0, .lload_n 0, 1), (1, .invokestatic 206, 3), (4, .lload_n 2, 1), (5, .invokestatic 210, 3), (8, .lstore 5, 2), (10, .iload 4, 2), (12, .ifCond .ne 7, 3), (15, .lload_n 0, 1), (16, .goto 4, 3), (19, .lload_n 2, 1), (20, .lstore 7, 2), (22, .lload 5, 2), (24, .lconst 0, 1), (25, .lcmp, 1), (26, .ifCond .ne 8, 3), (29, .lload 7, 2), (31, .goto 8, 3), (34, .lload 7, 2), (36, .lload 5, 2), (38, .ldiv, 1), (39, .lreturn, 1)] : List (Nat × Instr × Nat)), decode cX2_inLeastTerms e.1 = .ok (e.2.1, e.2.2) := by decide +kernel
theorem jX2_inLeastTerms : ∀ e ∈ iX2_inLeastTerms, decode cX2_inLeastTerms e.1 = .ok (e.2.1, e.2.2) := jX2_inLeastTerms_0
theorem jX2_greatestDivisor_0 : ∀ e ∈ ([(0, .iconst 0, 1), (1, .istore 4, 2), (3, .iload 4, 2), (5, .sipush 200, 3), (8, .if_icmp .ge 25, 3), (11, .lload_n 2, 1), (12, .lconst 0, 1), (13, .lcmp, 1), (14, .ifCond .eq 19, 3), (17, .lload_n 0, 1), (18, .lload_n 2, 1), (19, .lrem, 1), (20, .lstore 5, 2), (22, .lload_n 2, 1), (23, .lstore_n 0, 1), (24, .lload 5, 2), (26, .lstore_n 2, 1), (27, .iinc 4 1, 3), (30, .goto (-27), 3), (33, .lload_n 0, 1), (34, .lreturn, 1)] : List (Nat × Instr × Nat)), decode cX2_greatestDivisor e.1 = .ok (e.2.1, e.2.2) := by decide +kernel
theorem jX2_greatestDivisor : ∀ e ∈ iX2_greatestDivisor, decode cX2_greatestDivisor e.1 = .ok (e.2.1, e.2.2) := jX2_greatestDivisor_0
theorem jX3_in_0 : ∀ e ∈ ([(0, .lload_n 0, 1), (1, .lload_n 2, 1), (2, .lcmp, 1), (3, .ifCond .lt 14, 3), (6, .lload_n 0, 1), (7, .lload 4, 2), (9, .lcmp, 1), (10, .ifCond .gt 7, 3), (13, .iconst 1, 1), (14, .goto 4, 3), (17, .iconst 0, 1), (18, .ireturn, 1)] : List (Nat × Instr × Nat)), decode cX3_in e.1 = .ok (e.2.1, e.2.2) := by decide +kernel
theorem jX3_in : ∀ e ∈ iX3_in, decode cX3_in e.1 = .ok (e.2.1, e.2.2) := jX3_in_0
theorem jX3_size_0 : ∀ e ∈ ([(0, .lload_n 0, 1), (1, .lconst 0, 1), (2, .lcmp, 1), (3, .ifCond .ge 8, 3), (6, .lload_n 0, 1), (7, .lneg, 1), (8, .goto 4, 3), (11, .lload_n 0, 1), (12, .lreturn, 1)] : List (Nat × Instr × Nat)), decode cX3_size e.1 = .ok (e.2.1, e.2.2) := by decide +kernel
theorem jX3_size : ∀ e ∈ iX3_size, decode cX3_size e.1 = .ok (e.2.1, e.2.2) := jX3_size_0
theorem jX3_divisor_0 : ∀ e ∈ ([(0, .lload_n 0, 1), (1, .invokestatic 57, 3), (4, .lstore 4, 2), (6, .lload_n 2, 1), (7, .invokestatic 57, 3), (10, .lstore 6, 2), (12, .lload 6, 2), (14, .lconst 0, 1), (15, .lcmp, 1), (16, .ifCond .eq 21, 3), (19, .lload 4, 2), (21, .lload 6, 2), (23, .lrem, 1), (24, .lstore 8, 2), (26, .lload 6, 2), (28, .lstore 4, 2), (30, .lload 8, 2), (32, .lstore 6, 2), (34, .goto (-22), 3), (37, .lload 4, 2), (39, .lreturn, 1)] : List (Nat × Instr × Nat)), decode cX3_divisor e.1 = .ok (e.2.1, e.2.2) := by decide +kernel
theorem jX3_divisor : ∀ e ∈ iX3_divisor, decode cX3_divisor e.1 = .ok (e.2.1, e.2.2) := jX3_divisor_0
theorem jX3_putRow_0 : ∀ e ∈ ([(0, .iconst 0, 1), (1, .istore_n 3, 1), (2, .iload_n 3, 1), (3, .aload_n 0, 1), (4, .getfield 61, 3), (7, .if_icmp .ge 53, 3), (10, .aload_n 0, 1), (11, .getfield 38, 3), (14, .bipush 6, 2), (16, .iload_n 1, 1), (17, .imul, 1), (18, .iload_n 3, 1), (19, .iadd, 1), (20, .iload_n 2, 1), (21, .bipush 9, 2), (23, .if_icmp .ge 17, 3), (26, .aload_n 0, 1), (27, .getfield 35, 3), (30, .iconst 5, 1), (31, .iload_n 2, 1), (32, .imul, 1), (33, .iload_n 3, 1), (34, .iadd, 1), (35, .iaload, 1), (36, .i2l, 1), (37, .goto 16, 3), (40, .iload_n 2, 1), (41, .bipush 9, 2), (43, .isub, 1), (44, .iload_n 3, 1), (45, .if_icmp .ne 7, 3), (48, .lconst 1, 1), (49, .goto 4, 3), (52, .lconst 0, 1), (53, .lastore, 1), (54, .iinc 3 1, 3), (57, .goto (-55), 3), (60, .aload_n 0, 1), (61, .getfield 38, 3), (64, .bipush 6, 2)] : List (Nat × Instr × Nat)), decode cX3_putRow e.1 = .ok (e.2.1, e.2.2) := by decide +kernel
theorem jX3_putRow_1 : ∀ e ∈ ([(66, .iload_n 1, 1), (67, .imul, 1), (68, .iconst 5, 1), (69, .iadd, 1), (70, .iload_n 2, 1), (71, .bipush 9, 2), (73, .if_icmp .ge 13, 3), (76, .aload_n 0, 1), (77, .getfield 29, 3), (80, .iload_n 2, 1), (81, .iaload, 1), (82, .i2l, 1), (83, .goto 13, 3), (86, .aload_n 0, 1), (87, .getfield 7, 3), (90, .iload_n 2, 1), (91, .bipush 9, 2), (93, .isub, 1), (94, .iaload, 1), (95, .i2l, 1), (96, .lastore, 1), (97, .return_, 1)] : List (Nat × Instr × Nat)), decode cX3_putRow e.1 = .ok (e.2.1, e.2.2) := by decide +kernel
set_option maxRecDepth 100000 in
theorem jX3_putRow : ∀ e ∈ iX3_putRow, decode cX3_putRow e.1 = .ok (e.2.1, e.2.2) := (List.forall_mem_append.mpr ⟨jX3_putRow_0, jX3_putRow_1⟩)
theorem jX3_swapRows_0 : ∀ e ∈ ([(0, .iconst 0, 1), (1, .istore_n 3, 1), (2, .iload_n 3, 1), (3, .bipush 6, 2), (5, .if_icmp .ge 57, 3), (8, .aload_n 0, 1), (9, .getfield 38, 3), (12, .bipush 6, 2), (14, .iload_n 1, 1), (15, .imul, 1), (16, .iload_n 3, 1), (17, .iadd, 1), (18, .laload, 1), (19, .lstore 4, 2), (21, .aload_n 0, 1), (22, .getfield 38, 3), (25, .bipush 6, 2), (27, .iload_n 1, 1), (28, .imul, 1), (29, .iload_n 3, 1), (30, .iadd, 1), (31, .aload_n 0, 1), (32, .getfield 38, 3), (35, .bipush 6, 2), (37, .iload_n 2, 1), (38, .imul, 1), (39, .iload_n 3, 1), (40, .iadd, 1), (41, .laload, 1), (42, .lastore, 1), (43, .aload_n 0, 1), (44, .getfield 38, 3), (47, .bipush 6, 2), (49, .iload_n 2, 1), (50, .imul, 1), (51, .iload_n 3, 1), (52, .iadd, 1), (53, .lload 4, 2), (55, .lastore, 1), (56, .iinc 3 1, 3)] : List (Nat × Instr × Nat)), decode cX3_swapRows e.1 = .ok (e.2.1, e.2.2) := by decide +kernel
theorem jX3_swapRows_1 : ∀ e ∈ ([(59, .goto (-57), 3), (62, .return_, 1)] : List (Nat × Instr × Nat)), decode cX3_swapRows e.1 = .ok (e.2.1, e.2.2) := by decide +kernel
set_option maxRecDepth 100000 in
theorem jX3_swapRows : ∀ e ∈ iX3_swapRows, decode cX3_swapRows e.1 = .ok (e.2.1, e.2.2) := (List.forall_mem_append.mpr ⟨jX3_swapRows_0, jX3_swapRows_1⟩)
theorem jX3_meet_0 : ∀ e ∈ ([(0, .lconst 1, 1), (1, .lstore_n 1, 1), (2, .iconst 0, 1), (3, .istore_n 3, 1), (4, .iload_n 3, 1), (5, .aload_n 0, 1), (6, .getfield 61, 3), (9, .if_icmp .ge 179, 3), (12, .iload_n 3, 1), (13, .istore 4, 2), (15, .iload 4, 2), (17, .aload_n 0, 1), (18, .getfield 61, 3), (21, .if_icmp .ge 26, 3), (24, .aload_n 0, 1), (25, .getfield 38, 3), (28, .bipush 6, 2), (30, .iload 4, 2), (32, .imul, 1), (33, .iload_n 3, 1), (34, .iadd, 1), (35, .laload, 1), (36, .lconst 0, 1), (37, .lcmp, 1), (38, .ifCond .ne 9, 3), (41, .iinc 4 1, 3), (44, .goto (-29), 3), (47, .iload 4, 2), (49, .aload_n 0, 1), (50, .getfield 61, 3), (53, .if_icmp .ne 5, 3), (56, .iconst 0, 1), (57, .ireturn, 1), (58, .aload_n 0, 1), (59, .iload_n 3, 1), (60, .iload 4, 2), (62, .invokevirtual 65, 3), (65, .aload_n 0, 1), (66, .getfield 38, 3), (69, .bipush 6, 2)] : List (Nat × Instr × Nat)), decode cX3_meet e.1 = .ok (e.2.1, e.2.2) := by decide +kernel
theorem jX3_meet_1 : ∀ e ∈ ([(71, .iload_n 3, 1), (72, .imul, 1), (73, .iload_n 3, 1), (74, .iadd, 1), (75, .laload, 1), (76, .lstore 5, 2), (78, .iconst 0, 1), (79, .istore 7, 2), (81, .iload 7, 2), (83, .aload_n 0, 1), (84, .getfield 61, 3), (87, .if_icmp .ge 92, 3), (90, .aload_n 0, 1), (91, .getfield 38, 3), (94, .bipush 6, 2), (96, .iload 7, 2), (98, .imul, 1), (99, .iload_n 3, 1), (100, .iadd, 1), (101, .laload, 1), (102, .lstore 8, 2), (104, .iconst 0, 1), (105, .istore 10, 2), (107, .iload 10, 2), (109, .bipush 6, 2), (111, .if_icmp .ge 62, 3), (114, .iload 7, 2), (116, .iload_n 3, 1), (117, .if_icmp .eq 56, 3), (120, .aload_n 0, 1), (121, .getfield 38, 3), (124, .bipush 6, 2), (126, .iload 7, 2), (128, .imul, 1), (129, .iload 10, 2), (131, .iadd, 1), (132, .aload_n 0, 1), (133, .getfield 38, 3), (136, .bipush 6, 2), (138, .iload 7, 2)] : List (Nat × Instr × Nat)), decode cX3_meet e.1 = .ok (e.2.1, e.2.2) := by decide +kernel
theorem jX3_meet_2 : ∀ e ∈ ([(140, .imul, 1), (141, .iload 10, 2), (143, .iadd, 1), (144, .laload, 1), (145, .lload 5, 2), (147, .lmul, 1), (148, .lload 8, 2), (150, .aload_n 0, 1), (151, .getfield 38, 3), (154, .bipush 6, 2), (156, .iload_n 3, 1), (157, .imul, 1), (158, .iload 10, 2), (160, .iadd, 1), (161, .laload, 1), (162, .lmul, 1), (163, .lsub, 1), (164, .lload_n 1, 1), (165, .ldiv, 1), (166, .lastore, 1), (167, .iinc 10 1, 3), (170, .goto (-63), 3), (173, .iinc 7 1, 3), (176, .goto (-95), 3), (179, .lload 5, 2), (181, .lstore_n 1, 1), (182, .iinc 3 1, 3), (185, .goto (-181), 3), (188, .aload_n 0, 1), (189, .lload_n 1, 1), (190, .invokestatic 57, 3), (193, .putfield 69, 3), (196, .iconst 0, 1), (197, .istore_n 3, 1), (198, .iload_n 3, 1), (199, .aload_n 0, 1), (200, .getfield 61, 3), (203, .if_icmp .ge 47, 3), (206, .aload_n 0, 1), (207, .getfield 42, 3)] : List (Nat × Instr × Nat)), decode cX3_meet e.1 = .ok (e.2.1, e.2.2) := by decide +kernel
theorem jX3_meet_3 : ∀ e ∈ ([(210, .iload_n 3, 1), (211, .lload_n 1, 1), (212, .lconst 0, 1), (213, .lcmp, 1), (214, .ifCond .ge 18, 3), (217, .aload_n 0, 1), (218, .getfield 38, 3), (221, .bipush 6, 2), (223, .iload_n 3, 1), (224, .imul, 1), (225, .iconst 5, 1), (226, .iadd, 1), (227, .laload, 1), (228, .lneg, 1), (229, .goto 14, 3), (232, .aload_n 0, 1), (233, .getfield 38, 3), (236, .bipush 6, 2), (238, .iload_n 3, 1), (239, .imul, 1), (240, .iconst 5, 1), (241, .iadd, 1), (242, .laload, 1), (243, .lastore, 1), (244, .iinc 3 1, 3), (247, .goto (-49), 3), (250, .iconst 1, 1), (251, .ireturn, 1)] : List (Nat × Instr × Nat)), decode cX3_meet e.1 = .ok (e.2.1, e.2.2) := by decide +kernel
set_option maxRecDepth 100000 in
theorem jX3_meet : ∀ e ∈ iX3_meet, decode cX3_meet e.1 = .ok (e.2.1, e.2.2) := (List.forall_mem_append.mpr ⟨jX3_meet_0, (List.forall_mem_append.mpr ⟨jX3_meet_1, (List.forall_mem_append.mpr ⟨jX3_meet_2, jX3_meet_3⟩)⟩)⟩)
theorem jX3_offBy_0 : ∀ e ∈ ([(0, .aload_n 0, 1), (1, .getfield 29, 3), (4, .iload_n 1, 1), (5, .iaload, 1), (6, .ineg, 1), (7, .i2l, 1), (8, .lload_n 3, 1), (9, .lmul, 1), (10, .lstore 5, 2), (12, .iconst 0, 1), (13, .istore 7, 2), (15, .iload 7, 2), (17, .aload_n 0, 1), (18, .getfield 61, 3), (21, .if_icmp .ge 31, 3), (24, .lload 5, 2), (26, .aload_n 0, 1), (27, .getfield 35, 3), (30, .iconst 5, 1), (31, .iload_n 1, 1), (32, .imul, 1), (33, .iload 7, 2), (35, .iadd, 1), (36, .iaload, 1), (37, .i2l, 1), (38, .aload_n 2, 1), (39, .iload 7, 2), (41, .laload, 1), (42, .lmul, 1), (43, .ladd, 1), (44, .lstore 5, 2), (46, .iinc 7 1, 3), (49, .goto (-34), 3), (52, .aload_n 0, 1), (53, .getfield 20, 3), (56, .iload_n 1, 1), (57, .iaload, 1), (58, .ifCond .ne 11, 3), (61, .lload 5, 2), (63, .invokestatic 57, 3)] : List (Nat × Instr × Nat)), decode cX3_offBy e.1 = .ok (e.2.1, e.2.2) := by decide +kernel
theorem jX3_offBy_1 : ∀ e ∈ ([(66, .goto 43, 3), (69, .aload_n 0, 1), (70, .getfield 20, 3), (73, .iload_n 1, 1), (74, .iaload, 1), (75, .iconst 1, 1), (76, .if_icmp .ne 19, 3), (79, .lload 5, 2), (81, .lconst 0, 1), (82, .lcmp, 1), (83, .ifCond .le 8, 3), (86, .lload 5, 2), (88, .goto 21, 3), (91, .lconst 0, 1), (92, .goto 17, 3), (95, .lload 5, 2), (97, .lconst 0, 1), (98, .lcmp, 1), (99, .ifCond .ge 9, 3), (102, .lload 5, 2), (104, .lneg, 1), (105, .goto 4, 3), (108, .lconst 0, 1), (109, .lreturn, 1)] : List (Nat × Instr × Nat)), decode cX3_offBy e.1 = .ok (e.2.1, e.2.2) := by decide +kernel
set_option maxRecDepth 100000 in
theorem jX3_offBy : ∀ e ∈ iX3_offBy, decode cX3_offBy e.1 = .ok (e.2.1, e.2.2) := (List.forall_mem_append.mpr ⟨jX3_offBy_0, jX3_offBy_1⟩)
theorem jX3_isLive_0 : ∀ e ∈ ([(0, .aload_n 0, 1), (1, .getfield 73, 3), (4, .iload_n 1, 1), (5, .ishr, 1), (6, .iconst 1, 1), (7, .iand, 1), (8, .iconst 1, 1), (9, .if_icmp .ne 7, 3), (12, .iconst 1, 1), (13, .goto 4, 3), (16, .iconst 0, 1), (17, .ireturn, 1)] : List (Nat × Instr × Nat)), decode cX3_isLive e.1 = .ok (e.2.1, e.2.2) := by decide +kernel
theorem jX3_isLive : ∀ e ∈ iX3_isLive, decode cX3_isLive e.1 = .ok (e.2.1, e.2.2) := jX3_isLive_0
theorem jX3_weigh_0 : ∀ e ∈ ([(0, .iconst 0, 1), (1, .istore_n 1, 1), (2, .iload_n 1, 1), (3, .bipush 8, 2), (5, .if_icmp .ge 16, 3), (8, .aload_n 0, 1), (9, .getfield 48, 3), (12, .iload_n 1, 1), (13, .lconst 0, 1), (14, .lastore, 1), (15, .iinc 1 1, 3), (18, .goto (-16), 3), (21, .iconst 0, 1), (22, .istore_n 1, 1), (23, .iload_n 1, 1), (24, .bipush 9, 2), (26, .if_icmp .ge 73, 3), (29, .aload_n 0, 1), (30, .iload_n 1, 1), (31, .invokevirtual 76, 3), (34, .ifCond .eq 59, 3), (37, .aload_n 0, 1), (38, .iload_n 1, 1), (39, .aload_n 0, 1), (40, .getfield 42, 3), (43, .aload_n 0, 1), (44, .getfield 69, 3), (47, .invokevirtual 80, 3), (50, .lstore_n 2, 1), (51, .aload_n 0, 1), (52, .getfield 23, 3), (55, .iload_n 1, 1), (56, .iaload, 1), (57, .ifCond .ne 11, 3), (60, .lload_n 2, 1), (61, .lconst 0, 1), (62, .lcmp, 1), (63, .ifCond .le 30, 3), (66, .iconst 0, 1), (67, .ireturn, 1)] : List (Nat × Instr × Nat)), decode cX3_weigh e.1 = .ok (e.2.1, e.2.2) := by decide +kernel
theorem jX3_weigh_1 : ∀ e ∈ ([(68, .aload_n 0, 1), (69, .getfield 48, 3), (72, .aload_n 0, 1), (73, .getfield 23, 3), (76, .iload_n 1, 1), (77, .iaload, 1), (78, .iconst 1, 1), (79, .isub, 1), (80, .dup2, 1), (81, .laload, 1), (82, .aload_n 0, 1), (83, .getfield 26, 3), (86, .iload_n 1, 1), (87, .iaload, 1), (88, .i2l, 1), (89, .lload_n 2, 1), (90, .lmul, 1), (91, .ladd, 1), (92, .lastore, 1), (93, .iinc 1 1, 3), (96, .goto (-73), 3), (99, .iconst 0, 1), (100, .istore_n 1, 1), (101, .iload_n 1, 1), (102, .aload_n 0, 1), (103, .getfield 61, 3), (106, .if_icmp .ge 39, 3), (109, .aload_n 0, 1), (110, .getfield 48, 3), (113, .iconst 3, 1), (114, .iload_n 1, 1), (115, .iadd, 1), (116, .aload_n 0, 1), (117, .getfield 42, 3), (120, .iload_n 1, 1), (121, .laload, 1), (122, .aload_n 0, 1), (123, .getfield 7, 3), (126, .iload_n 1, 1), (127, .iaload, 1)] : List (Nat × Instr × Nat)), decode cX3_weigh e.1 = .ok (e.2.1, e.2.2) := by decide +kernel
theorem jX3_weigh_2 : ∀ e ∈ ([(128, .i2l, 1), (129, .aload_n 0, 1), (130, .getfield 69, 3), (133, .lmul, 1), (134, .lsub, 1), (135, .invokestatic 57, 3), (138, .lastore, 1), (139, .iinc 1 1, 3), (142, .goto (-41), 3), (145, .iconst 1, 1), (146, .ireturn, 1)] : List (Nat × Instr × Nat)), decode cX3_weigh e.1 = .ok (e.2.1, e.2.2) := by decide +kernel
set_option maxRecDepth 100000 in
theorem jX3_weigh : ∀ e ∈ iX3_weigh, decode cX3_weigh e.1 = .ok (e.2.1, e.2.2) := (List.forall_mem_append.mpr ⟨jX3_weigh_0, (List.forall_mem_append.mpr ⟨jX3_weigh_1, jX3_weigh_2⟩)⟩)
theorem jX3_isLess_0 : ∀ e ∈ ([(0, .iconst 0, 1), (1, .istore_n 1, 1), (2, .iload_n 1, 1), (3, .bipush 8, 2), (5, .if_icmp .ge 54, 3), (8, .aload_n 0, 1), (9, .getfield 48, 3), (12, .iload_n 1, 1), (13, .laload, 1), (14, .aload_n 0, 1), (15, .getfield 84, 3), (18, .lmul, 1), (19, .lstore_n 2, 1), (20, .aload_n 0, 1), (21, .getfield 51, 3), (24, .iload_n 1, 1), (25, .laload, 1), (26, .aload_n 0, 1), (27, .getfield 69, 3), (30, .lmul, 1), (31, .lstore 4, 2), (33, .lload_n 2, 1), (34, .lload 4, 2), (36, .lcmp, 1), (37, .ifCond .eq 16, 3), (40, .lload_n 2, 1), (41, .lload 4, 2), (43, .lcmp, 1), (44, .ifCond .ge 7, 3), (47, .iconst 1, 1), (48, .goto 4, 3), (51, .iconst 0, 1), (52, .ireturn, 1), (53, .iinc 1 1, 3), (56, .goto (-54), 3), (59, .iconst 0, 1), (60, .ireturn, 1)] : List (Nat × Instr × Nat)), decode cX3_isLess e.1 = .ok (e.2.1, e.2.2) := by decide +kernel
theorem jX3_isLess : ∀ e ∈ iX3_isLess, decode cX3_isLess e.1 = .ok (e.2.1, e.2.2) := jX3_isLess_0
theorem jX3_solve_0 : ∀ e ∈ ([(0, .iconst 0, 1), (1, .istore_n 1, 1), (2, .aload_n 0, 1), (3, .lconst 1, 1), (4, .putfield 84, 3), (7, .iconst 0, 1), (8, .istore_n 2, 1), (9, .iload_n 2, 1), (10, .sipush 16384, 3), (13, .if_icmp .ge 239, 3), (16, .iconst 0, 1), (17, .istore_n 3, 1), (18, .iconst 1, 1), (19, .istore 4, 2), (21, .iconst 0, 1), (22, .istore 5, 2), (24, .iload 5, 2), (26, .bipush 14, 2), (28, .if_icmp .ge 65, 3), (31, .iload_n 2, 1), (32, .iload 5, 2), (34, .ishr, 1), (35, .iconst 1, 1), (36, .iand, 1), (37, .iconst 1, 1), (38, .if_icmp .ne 49, 3), (41, .iinc 3 1, 3), (44, .iload 4, 2), (46, .ifCond .eq 38, 3), (49, .iload 5, 2), (51, .bipush 9, 2), (53, .if_icmp .ge 15, 3), (56, .aload_n 0, 1), (57, .iload 5, 2), (59, .invokevirtual 76, 3), (62, .ifCond .eq 22, 3), (65, .goto 15, 3), (68, .iload 5, 2), (70, .bipush 9, 2), (72, .isub, 1)] : List (Nat × Instr × Nat)), decode cX3_solve e.1 = .ok (e.2.1, e.2.2) := by decide +kernel
theorem jX3_solve_1 : ∀ e ∈ ([(73, .aload_n 0, 1), (74, .getfield 61, 3), (77, .if_icmp .ge 7, 3), (80, .iconst 1, 1), (81, .goto 4, 3), (84, .iconst 0, 1), (85, .istore 4, 2), (87, .iinc 5 1, 3), (90, .goto (-66), 3), (93, .iload 4, 2), (95, .ifCond .eq 151, 3), (98, .iload_n 3, 1), (99, .aload_n 0, 1), (100, .getfield 61, 3), (103, .if_icmp .eq 6, 3), (106, .goto 140, 3), (109, .iconst 0, 1), (110, .istore 5, 2), (112, .iconst 0, 1), (113, .istore 6, 2), (115, .iload 6, 2), (117, .bipush 14, 2), (119, .if_icmp .ge 30, 3), (122, .iload_n 2, 1), (123, .iload 6, 2), (125, .ishr, 1), (126, .iconst 1, 1), (127, .iand, 1), (128, .iconst 1, 1), (129, .if_icmp .ne 14, 3), (132, .aload_n 0, 1), (133, .iload 5, 2), (135, .iload 6, 2), (137, .invokevirtual 87, 3), (140, .iinc 5 1, 3), (143, .iinc 6 1, 3), (146, .goto (-31), 3), (149, .aload_n 0, 1), (150, .invokevirtual 90, 3), (153, .ifCond .eq 93, 3)] : List (Nat × Instr × Nat)), decode cX3_solve e.1 = .ok (e.2.1, e.2.2) := by decide +kernel
theorem jX3_solve_2 : ∀ e ∈ ([(156, .aload_n 0, 1), (157, .invokevirtual 94, 3), (160, .ifCond .eq 86, 3), (163, .iload_n 1, 1), (164, .ifCond .eq 10, 3), (167, .aload_n 0, 1), (168, .invokevirtual 97, 3), (171, .ifCond .eq 75, 3), (174, .iconst 1, 1), (175, .istore_n 1, 1), (176, .aload_n 0, 1), (177, .aload_n 0, 1), (178, .getfield 69, 3), (181, .putfield 84, 3), (184, .iconst 0, 1), (185, .istore 6, 2), (187, .iload 6, 2), (189, .bipush 8, 2), (191, .if_icmp .ge 23, 3), (194, .aload_n 0, 1), (195, .getfield 51, 3), (198, .iload 6, 2), (200, .aload_n 0, 1), (201, .getfield 48, 3), (204, .iload 6, 2), (206, .laload, 1), (207, .lastore, 1), (208, .iinc 6 1, 3), (211, .goto (-24), 3), (214, .iconst 0, 1), (215, .istore 6, 2), (217, .iload 6, 2), (219, .aload_n 0, 1), (220, .getfield 61, 3), (223, .if_icmp .ge 23, 3), (226, .aload_n 0, 1), (227, .getfield 45, 3), (230, .iload 6, 2), (232, .aload_n 0, 1), (233, .getfield 42, 3)] : List (Nat × Instr × Nat)), decode cX3_solve e.1 = .ok (e.2.1, e.2.2) := by decide +kernel
theorem jX3_solve_3 : ∀ e ∈ ([(236, .iload 6, 2), (238, .laload, 1), (239, .lastore, 1), (240, .iinc 6 1, 3), (243, .goto (-26), 3), (246, .iinc 2 1, 3), (249, .goto (-240), 3), (252, .iload_n 1, 1), (253, .ireturn, 1)] : List (Nat × Instr × Nat)), decode cX3_solve e.1 = .ok (e.2.1, e.2.2) := by decide +kernel
set_option maxRecDepth 100000 in
theorem jX3_solve : ∀ e ∈ iX3_solve, decode cX3_solve e.1 = .ok (e.2.1, e.2.2) := (List.forall_mem_append.mpr ⟨jX3_solve_0, (List.forall_mem_append.mpr ⟨jX3_solve_1, (List.forall_mem_append.mpr ⟨jX3_solve_2, jX3_solve_3⟩)⟩)⟩)
theorem jX3_allLive_0 : ∀ e ∈ ([(0, .iconst 0, 1), (1, .istore_n 1, 1), (2, .iconst 0, 1), (3, .istore_n 2, 1), (4, .iload_n 2, 1), (5, .bipush 9, 2), (7, .if_icmp .ge 37, 3), (10, .iload_n 1, 1), (11, .aload_n 0, 1), (12, .getfield 16, 3), (15, .iload_n 2, 1), (16, .baload, 1), (17, .ifCond .eq 18, 3), (20, .aload_n 0, 1), (21, .getfield 32, 3), (24, .iload_n 2, 1), (25, .baload, 1), (26, .ifCond .ne 9, 3), (29, .iconst 1, 1), (30, .iload_n 2, 1), (31, .ishl, 1), (32, .goto 4, 3), (35, .iconst 0, 1), (36, .ior, 1), (37, .istore_n 1, 1), (38, .iinc 2 1, 3), (41, .goto (-37), 3), (44, .iload_n 1, 1), (45, .ireturn, 1)] : List (Nat × Instr × Nat)), decode cX3_allLive e.1 = .ok (e.2.1, e.2.2) := by decide +kernel
theorem jX3_allLive : ∀ e ∈ iX3_allLive, decode cX3_allLive e.1 = .ok (e.2.1, e.2.2) := jX3_allLive_0
theorem jX3_set_0 : ∀ e ∈ ([(0, .aload_n 0, 1), (1, .aload_n 0, 1), (2, .invokevirtual 100, 3), (5, .putfield 73, 3), (8, .aload_n 0, 1), (9, .invokevirtual 104, 3), (12, .istore_n 1, 1), (13, .return_, 1)] : List (Nat × Instr × Nat)), decode cX3_set e.1 = .ok (e.2.1, e.2.2) := by decide +kernel
theorem jX3_set : ∀ e ∈ iX3_set, decode cX3_set e.1 = .ok (e.2.1, e.2.2) := jX3_set_0
theorem jX3_clashes_0 : ∀ e ∈ ([(0, .aload_n 0, 1), (1, .invokevirtual 100, 3), (4, .istore_n 1, 1), (5, .iconst 0, 1), (6, .istore_n 2, 1), (7, .iload_n 2, 1), (8, .bipush 9, 2), (10, .if_icmp .ge 30, 3), (13, .iload_n 1, 1), (14, .aload_n 0, 1), (15, .getfield 23, 3), (18, .iload_n 2, 1), (19, .iaload, 1), (20, .ifCond .ne 7, 3), (23, .iconst (-1), 1), (24, .goto 8, 3), (27, .iconst 1, 1), (28, .iload_n 2, 1), (29, .ishl, 1), (30, .iconst (-1), 1), (31, .ixor, 1), (32, .iand, 1), (33, .istore_n 1, 1), (34, .iinc 2 1, 3), (37, .goto (-30), 3), (40, .aload_n 0, 1), (41, .iload_n 1, 1), (42, .putfield 73, 3), (45, .aload_n 0, 1), (46, .invokevirtual 104, 3), (49, .ifCond .eq 5, 3), (52, .iconst 0, 1), (53, .ireturn, 1), (54, .iconst 0, 1), (55, .istore_n 2, 1), (56, .iload_n 2, 1), (57, .bipush 9, 2), (59, .if_icmp .ge 41, 3), (62, .iload_n 1, 1), (63, .iload_n 2, 1)] : List (Nat × Instr × Nat)), decode cX3_clashes e.1 = .ok (e.2.1, e.2.2) := by decide +kernel
theorem jX3_clashes_1 : ∀ e ∈ ([(64, .ishr, 1), (65, .iconst 1, 1), (66, .iand, 1), (67, .iconst 1, 1), (68, .if_icmp .ne 26, 3), (71, .aload_n 0, 1), (72, .iload_n 1, 1), (73, .iconst 1, 1), (74, .iload_n 2, 1), (75, .ishl, 1), (76, .iconst (-1), 1), (77, .ixor, 1), (78, .iand, 1), (79, .putfield 73, 3), (82, .aload_n 0, 1), (83, .invokevirtual 104, 3), (86, .ifCond .ne 8, 3), (89, .aload_n 0, 1), (90, .getfield 73, 3), (93, .istore_n 1, 1), (94, .iinc 2 1, 3), (97, .goto (-41), 3), (100, .aload_n 0, 1), (101, .iload_n 1, 1), (102, .putfield 107, 3), (105, .iconst 1, 1), (106, .ireturn, 1)] : List (Nat × Instr × Nat)), decode cX3_clashes e.1 = .ok (e.2.1, e.2.2) := by decide +kernel
set_option maxRecDepth 100000 in
theorem jX3_clashes : ∀ e ∈ iX3_clashes, decode cX3_clashes e.1 = .ok (e.2.1, e.2.2) := (List.forall_mem_append.mpr ⟨jX3_clashes_0, jX3_clashes_1⟩)
theorem jX3_noEdge_0 : ∀ e ∈ ([(0, .iload_n 1, 1), (1, .i2l, 1), (2, .lconst 0, 1), (3, .aload_n 0, 1), (4, .getfield 61, 3), (7, .iconst 1, 1), (8, .isub, 1), (9, .i2l, 1), (10, .invokestatic 110, 3), (13, .ifCond .ne 7, 3), (16, .iconst 1, 1), (17, .goto 4, 3), (20, .iconst 0, 1), (21, .ireturn, 1)] : List (Nat × Instr × Nat)), decode cX3_noEdge e.1 = .ok (e.2.1, e.2.2) := by decide +kernel
theorem jX3_noEdge : ∀ e ∈ iX3_noEdge, decode cX3_noEdge e.1 = .ok (e.2.1, e.2.2) := jX3_noEdge_0
theorem jX3_noWish_0 : ∀ e ∈ ([(0, .iload_n 1, 1), (1, .i2l, 1), (2, .lconst 0, 1), (3, .ldc2_w 114, 3), (6, .invokestatic 110, 3), (9, .ifCond .eq 12, 3), (12, .aload_n 0, 1), (13, .getfield 16, 3), (16, .iload_n 1, 1), (17, .baload, 1), (18, .ifCond .ne 7, 3), (21, .iconst 1, 1), (22, .goto 4, 3), (25, .iconst 0, 1), (26, .ireturn, 1)] : List (Nat × Instr × Nat)), decode cX3_noWish e.1 = .ok (e.2.1, e.2.2) := by decide +kernel
theorem jX3_noWish : ∀ e ∈ iX3_noWish, decode cX3_noWish e.1 = .ok (e.2.1, e.2.2) := jX3_noWish_0
theorem jX3_edge_0 : ∀ e ∈ ([(0, .iload_n 1, 1), (1, .i2l, 1), (2, .ldc2_w 116, 3), (5, .ldc2_w 118, 3), (8, .invokestatic 110, 3), (11, .ifCond .ne 6, 3), (14, .ldc 120, 2), (16, .ireturn, 1), (17, .aload_n 0, 1), (18, .getfield 61, 3), (21, .iconst 5, 1), (22, .if_icmp .ne 6, 3), (25, .ldc 121, 2), (27, .ireturn, 1), (28, .aload_n 0, 1), (29, .getfield 7, 3), (32, .aload_n 0, 1), (33, .getfield 61, 3), (36, .iload_n 1, 1), (37, .iastore, 1), (38, .aload_n 0, 1), (39, .dup, 1), (40, .getfield 61, 3), (43, .iconst 1, 1), (44, .iadd, 1), (45, .putfield 61, 3), (48, .aload_n 0, 1), (49, .getfield 61, 3), (52, .iconst 1, 1), (53, .isub, 1), (54, .ireturn, 1)] : List (Nat × Instr × Nat)), decode cX3_edge e.1 = .ok (e.2.1, e.2.2) := by decide +kernel
theorem jX3_edge : ∀ e ∈ iX3_edge, decode cX3_edge e.1 = .ok (e.2.1, e.2.2) := jX3_edge_0
theorem jX3_factor_0 : ∀ e ∈ ([(0, .iload_n 1, 1), (1, .i2l, 1), (2, .lconst 0, 1), (3, .ldc2_w 122, 3), (6, .invokestatic 110, 3), (9, .ifCond .eq 17, 3), (12, .iload_n 2, 1), (13, .i2l, 1), (14, .ldc2_w 124, 3), (17, .ldc2_w 126, 3), (20, .invokestatic 110, 3), (23, .ifCond .ne 6, 3), (26, .ldc 120, 2), (28, .ireturn, 1), (29, .aload_n 0, 1), (30, .getfield 13, 3), (33, .iload_n 1, 1), (34, .iaload, 1), (35, .istore_n 3, 1), (36, .aload_n 0, 1), (37, .getfield 13, 3), (40, .iload_n 1, 1), (41, .iload_n 2, 1), (42, .iastore, 1), (43, .iload_n 3, 1), (44, .ireturn, 1)] : List (Nat × Instr × Nat)), decode cX3_factor e.1 = .ok (e.2.1, e.2.2) := by decide +kernel
theorem jX3_factor : ∀ e ∈ iX3_factor, decode cX3_factor e.1 = .ok (e.2.1, e.2.2) := jX3_factor_0
theorem jX3_add_0 : ∀ e ∈ ([(0, .aload_n 0, 1), (1, .getfield 128, 3), (4, .bipush 9, 2), (6, .if_icmp .ne 6, 3), (9, .ldc 121, 2), (11, .ireturn, 1), (12, .iconst 0, 1), (13, .istore 5, 2), (15, .aload_n 0, 1), (16, .getfield 16, 3), (19, .iload 5, 2), (21, .baload, 1), (22, .ifCond .eq 9, 3), (25, .iinc 5 1, 3), (28, .goto (-13), 3), (31, .aload_n 0, 1), (32, .getfield 16, 3), (35, .iload 5, 2), (37, .iconst 1, 1), (38, .bastore, 1), (39, .aload_n 0, 1), (40, .getfield 32, 3), (43, .iload 5, 2), (45, .iconst 0, 1), (46, .bastore, 1), (47, .aload_n 0, 1), (48, .getfield 20, 3), (51, .iload 5, 2), (53, .iload_n 1, 1), (54, .iastore, 1), (55, .aload_n 0, 1), (56, .getfield 23, 3), (59, .iload 5, 2), (61, .iload_n 2, 1), (62, .iastore, 1), (63, .aload_n 0, 1), (64, .getfield 26, 3), (67, .iload 5, 2), (69, .iload_n 3, 1), (70, .iastore, 1)] : List (Nat × Instr × Nat)), decode cX3_add e.1 = .ok (e.2.1, e.2.2) := by decide +kernel
theorem jX3_add_1 : ∀ e ∈ ([(71, .aload_n 0, 1), (72, .getfield 29, 3), (75, .iload 5, 2), (77, .iload 4, 2), (79, .iastore, 1), (80, .iconst 0, 1), (81, .istore 6, 2), (83, .iload 6, 2), (85, .iconst 5, 1), (86, .if_icmp .ge 28, 3), (89, .aload_n 0, 1), (90, .getfield 35, 3), (93, .iconst 5, 1), (94, .iload 5, 2), (96, .imul, 1), (97, .iload 6, 2), (99, .iadd, 1), (100, .aload_n 0, 1), (101, .getfield 54, 3), (104, .iload 6, 2), (106, .iaload, 1), (107, .iastore, 1), (108, .iinc 6 1, 3), (111, .goto (-28), 3), (114, .iload_n 2, 1), (115, .ifCond .ne 21, 3), (118, .aload_n 0, 1), (119, .invokevirtual 131, 3), (122, .ifCond .eq 14, 3), (125, .aload_n 0, 1), (126, .getfield 16, 3), (129, .iload 5, 2), (131, .iconst 0, 1), (132, .bastore, 1), (133, .ldc 134, 2), (135, .ireturn, 1), (136, .aload_n 0, 1), (137, .dup, 1), (138, .getfield 128, 3), (141, .iconst 1, 1)] : List (Nat × Instr × Nat)), decode cX3_add e.1 = .ok (e.2.1, e.2.2) := by decide +kernel
theorem jX3_add_2 : ∀ e ∈ ([(142, .iadd, 1), (143, .putfield 128, 3), (146, .iload 5, 2), (148, .ireturn, 1)] : List (Nat × Instr × Nat)), decode cX3_add e.1 = .ok (e.2.1, e.2.2) := by decide +kernel
set_option maxRecDepth 100000 in
theorem jX3_add : ∀ e ∈ iX3_add, decode cX3_add e.1 = .ok (e.2.1, e.2.2) := (List.forall_mem_append.mpr ⟨jX3_add_0, (List.forall_mem_append.mpr ⟨jX3_add_1, jX3_add_2⟩)⟩)
theorem jX3_isStrength_0 : ∀ e ∈ ([(0, .iload_n 0, 1), (1, .i2l, 1), (2, .lconst 0, 1), (3, .ldc2_w 126, 3), (6, .invokestatic 110, 3), (9, .ifCond .eq 19, 3), (12, .iload_n 1, 1), (13, .i2l, 1), (14, .lconst 1, 1), (15, .ldc2_w 135, 3), (18, .invokestatic 110, 3), (21, .ifCond .eq 7, 3), (24, .iconst 1, 1), (25, .goto 4, 3), (28, .iconst 0, 1), (29, .ireturn, 1)] : List (Nat × Instr × Nat)), decode cX3_isStrength e.1 = .ok (e.2.1, e.2.2) := by decide +kernel
theorem jX3_isStrength : ∀ e ∈ iX3_isStrength, decode cX3_isStrength e.1 = .ok (e.2.1, e.2.2) := jX3_isStrength_0
theorem jX3_wish_0 : ∀ e ∈ ([(0, .iload_n 1, 1), (1, .i2l, 1), (2, .lconst 0, 1), (3, .ldc2_w 137, 3), (6, .invokestatic 110, 3), (9, .ifCond .eq 26, 3), (12, .iload_n 2, 1), (13, .iload_n 3, 1), (14, .invokestatic 139, 3), (17, .ifCond .eq 18, 3), (20, .iload 4, 2), (22, .i2l, 1), (23, .ldc2_w 143, 3), (26, .ldc2_w 145, 3), (29, .invokestatic 110, 3), (32, .ifCond .ne 6, 3), (35, .ldc 120, 2), (37, .ireturn, 1), (38, .iconst 0, 1), (39, .istore 5, 2), (41, .iconst 0, 1), (42, .istore 6, 2), (44, .iconst 0, 1), (45, .istore 7, 2), (47, .iload 7, 2), (49, .iconst 5, 1), (50, .if_icmp .ge 62, 3), (53, .iload 5, 2), (55, .ifCond .ne 13, 3), (58, .aload_n 0, 1), (59, .getfield 13, 3), (62, .iload 7, 2), (64, .iaload, 1), (65, .ifCond .eq 7, 3), (68, .iconst 1, 1), (69, .goto 4, 3), (72, .iconst 0, 1), (73, .istore 5, 2), (75, .iload 6, 2), (77, .ifCond .ne 22, 3)] : List (Nat × Instr × Nat)), decode cX3_wish e.1 = .ok (e.2.1, e.2.2) := by decide +kernel
theorem jX3_wish_1 : ∀ e ∈ ([(80, .aload_n 0, 1), (81, .getfield 13, 3), (84, .iload 7, 2), (86, .iaload, 1), (87, .ifCond .eq 16, 3), (90, .iload 7, 2), (92, .aload_n 0, 1), (93, .getfield 61, 3), (96, .if_icmp .lt 7, 3), (99, .iconst 1, 1), (100, .goto 4, 3), (103, .iconst 0, 1), (104, .istore 6, 2), (106, .iinc 7 1, 3), (109, .goto (-62), 3), (112, .iload 5, 2), (114, .ifCond .eq 8, 3), (117, .iload 6, 2), (119, .ifCond .eq 6, 3), (122, .ldc 147, 2), (124, .ireturn, 1), (125, .iconst 0, 1), (126, .istore 7, 2), (128, .iload 7, 2), (130, .iconst 5, 1), (131, .if_icmp .ge 31, 3), (134, .aload_n 0, 1), (135, .getfield 54, 3), (138, .iload 7, 2), (140, .aload_n 0, 1), (141, .getfield 13, 3), (144, .iload 7, 2), (146, .iaload, 1), (147, .iastore, 1), (148, .aload_n 0, 1), (149, .getfield 13, 3), (152, .iload 7, 2), (154, .iconst 0, 1), (155, .iastore, 1), (156, .iinc 7 1, 3)] : List (Nat × Instr × Nat)), decode cX3_wish e.1 = .ok (e.2.1, e.2.2) := by decide +kernel
theorem jX3_wish_2 : ∀ e ∈ ([(159, .goto (-31), 3), (162, .aload_n 0, 1), (163, .iload_n 1, 1), (164, .iload_n 2, 1), (165, .iload_n 3, 1), (166, .iload 4, 2), (168, .invokevirtual 148, 3), (171, .ireturn, 1)] : List (Nat × Instr × Nat)), decode cX3_wish e.1 = .ok (e.2.1, e.2.2) := by decide +kernel
set_option maxRecDepth 100000 in
theorem jX3_wish : ∀ e ∈ iX3_wish, decode cX3_wish e.1 = .ok (e.2.1, e.2.2) := (List.forall_mem_append.mpr ⟨jX3_wish_0, (List.forall_mem_append.mpr ⟨jX3_wish_1, jX3_wish_2⟩)⟩)
theorem jX3_side_0 : ∀ e ∈ ([(0, .aload_n 0, 1), (1, .iload_n 1, 1), (2, .invokevirtual 152, 3), (5, .ifCond .ne 19, 3), (8, .aload_n 0, 1), (9, .iload_n 2, 1), (10, .invokevirtual 152, 3), (13, .ifCond .ne 11, 3), (16, .aload_n 0, 1), (17, .iload_n 3, 1), (18, .invokevirtual 152, 3), (21, .ifCond .eq 6, 3), (24, .ldc 155, 2), (26, .ireturn, 1), (27, .iload 4, 2), (29, .i2l, 1), (30, .lconst 0, 1), (31, .ldc2_w 145, 3), (34, .invokestatic 110, 3), (37, .ifCond .eq 13, 3), (40, .iload 5, 2), (42, .iload 6, 2), (44, .invokestatic 139, 3), (47, .ifCond .ne 6, 3), (50, .ldc 120, 2), (52, .ireturn, 1), (53, .iconst 0, 1), (54, .istore 7, 2), (56, .iload 7, 2), (58, .iconst 5, 1), (59, .if_icmp .ge 51, 3), (62, .aload_n 0, 1), (63, .getfield 54, 3), (66, .iload 7, 2), (68, .iload 7, 2), (70, .iload_n 1, 1), (71, .if_icmp .ne 7, 3), (74, .iconst 1, 1), (75, .goto 4, 3), (78, .iconst 0, 1)] : List (Nat × Instr × Nat)), decode cX3_side e.1 = .ok (e.2.1, e.2.2) := by decide +kernel
theorem jX3_side_1 : ∀ e ∈ ([(79, .iload 7, 2), (81, .iload_n 2, 1), (82, .if_icmp .ne 7, 3), (85, .iconst 1, 1), (86, .goto 4, 3), (89, .iconst 0, 1), (90, .iadd, 1), (91, .iload 7, 2), (93, .iload_n 3, 1), (94, .if_icmp .ne 7, 3), (97, .iconst 1, 1), (98, .goto 4, 3), (101, .iconst 0, 1), (102, .isub, 1), (103, .iastore, 1), (104, .iinc 7 1, 3), (107, .goto (-51), 3), (110, .aload_n 0, 1), (111, .iconst 0, 1), (112, .iload 5, 2), (114, .iload 6, 2), (116, .iload 4, 2), (118, .ineg, 1), (119, .invokevirtual 148, 3), (122, .ireturn, 1)] : List (Nat × Instr × Nat)), decode cX3_side e.1 = .ok (e.2.1, e.2.2) := by decide +kernel
set_option maxRecDepth 100000 in
theorem jX3_side : ∀ e ∈ iX3_side, decode cX3_side e.1 = .ok (e.2.1, e.2.2) := (List.forall_mem_append.mpr ⟨jX3_side_0, jX3_side_1⟩)
theorem jX3_take_0 : ∀ e ∈ ([(0, .aload_n 0, 1), (1, .iload_n 1, 1), (2, .invokevirtual 156, 3), (5, .ifCond .eq 6, 3), (8, .ldc 155, 2), (10, .ireturn, 1), (11, .aload_n 0, 1), (12, .getfield 16, 3), (15, .iload_n 1, 1), (16, .iconst 0, 1), (17, .bastore, 1), (18, .aload_n 0, 1), (19, .dup, 1), (20, .getfield 128, 3), (23, .iconst 1, 1), (24, .isub, 1), (25, .putfield 128, 3), (28, .aload_n 0, 1), (29, .getfield 128, 3), (32, .ireturn, 1)] : List (Nat × Instr × Nat)), decode cX3_take e.1 = .ok (e.2.1, e.2.2) := by decide +kernel
theorem jX3_take : ∀ e ∈ iX3_take, decode cX3_take e.1 = .ok (e.2.1, e.2.2) := jX3_take_0
theorem jX3_hide_0 : ∀ e ∈ ([(0, .aload_n 0, 1), (1, .iload_n 1, 1), (2, .invokevirtual 156, 3), (5, .ifCond .eq 6, 3), (8, .ldc 155, 2), (10, .ireturn, 1), (11, .aload_n 0, 1), (12, .getfield 32, 3), (15, .iload_n 1, 1), (16, .baload, 1), (17, .istore_n 3, 1), (18, .aload_n 0, 1), (19, .getfield 32, 3), (22, .iload_n 1, 1), (23, .iload_n 2, 1), (24, .bastore, 1), (25, .iload_n 3, 1), (26, .ifCond .eq 33, 3), (29, .iload_n 2, 1), (30, .ifCond .ne 29, 3), (33, .aload_n 0, 1), (34, .getfield 23, 3), (37, .iload_n 1, 1), (38, .iaload, 1), (39, .ifCond .ne 20, 3), (42, .aload_n 0, 1), (43, .invokevirtual 131, 3), (46, .ifCond .eq 13, 3), (49, .aload_n 0, 1), (50, .getfield 32, 3), (53, .iload_n 1, 1), (54, .iconst 1, 1), (55, .bastore, 1), (56, .ldc 134, 2), (58, .ireturn, 1), (59, .iload_n 3, 1), (60, .ifCond .eq 7, 3), (63, .iconst 1, 1), (64, .goto 4, 3), (67, .iconst 0, 1)] : List (Nat × Instr × Nat)), decode cX3_hide e.1 = .ok (e.2.1, e.2.2) := by decide +kernel
theorem jX3_hide_1 : ∀ e ∈ ([(68, .ireturn, 1)] : List (Nat × Instr × Nat)), decode cX3_hide e.1 = .ok (e.2.1, e.2.2) := by decide +kernel
set_option maxRecDepth 100000 in
theorem jX3_hide : ∀ e ∈ iX3_hide, decode cX3_hide e.1 = .ok (e.2.1, e.2.2) := (List.forall_mem_append.mpr ⟨jX3_hide_0, jX3_hide_1⟩)
theorem jX3_drag_0 : ∀ e ∈ ([(0, .aload_n 0, 1), (1, .iload_n 1, 1), (2, .invokevirtual 156, 3), (5, .ifCond .eq 6, 3), (8, .ldc 155, 2), (10, .ireturn, 1), (11, .iload_n 2, 1), (12, .i2l, 1), (13, .ldc2_w 143, 3), (16, .ldc2_w 145, 3), (19, .invokestatic 110, 3), (22, .ifCond .ne 6, 3), (25, .ldc 120, 2), (27, .ireturn, 1), (28, .aload_n 0, 1), (29, .getfield 29, 3), (32, .iload_n 1, 1), (33, .iaload, 1), (34, .istore_n 3, 1), (35, .aload_n 0, 1), (36, .getfield 29, 3), (39, .iload_n 1, 1), (40, .iload_n 2, 1), (41, .iastore, 1), (42, .aload_n 0, 1), (43, .getfield 32, 3), (46, .iload_n 1, 1), (47, .baload, 1), (48, .ifCond .ne 29, 3), (51, .aload_n 0, 1), (52, .getfield 23, 3), (55, .iload_n 1, 1), (56, .iaload, 1), (57, .ifCond .ne 20, 3), (60, .aload_n 0, 1), (61, .invokevirtual 131, 3), (64, .ifCond .eq 13, 3), (67, .aload_n 0, 1), (68, .getfield 29, 3), (71, .iload_n 1, 1)] : List (Nat × Instr × Nat)), decode cX3_drag e.1 = .ok (e.2.1, e.2.2) := by decide +kernel
theorem jX3_drag_1 : ∀ e ∈ ([(72, .iload_n 3, 1), (73, .iastore, 1), (74, .ldc 134, 2), (76, .ireturn, 1), (77, .iload_n 3, 1), (78, .ireturn, 1)] : List (Nat × Instr × Nat)), decode cX3_drag e.1 = .ok (e.2.1, e.2.2) := by decide +kernel
set_option maxRecDepth 100000 in
theorem jX3_drag : ∀ e ∈ iX3_drag, decode cX3_drag e.1 = .ok (e.2.1, e.2.2) := (List.forall_mem_append.mpr ⟨jX3_drag_0, jX3_drag_1⟩)
theorem jX3_strength_0 : ∀ e ∈ ([(0, .aload_n 0, 1), (1, .iload_n 1, 1), (2, .invokevirtual 156, 3), (5, .ifCond .eq 6, 3), (8, .ldc 155, 2), (10, .ireturn, 1), (11, .iload_n 2, 1), (12, .iload_n 3, 1), (13, .invokestatic 139, 3), (16, .ifCond .ne 6, 3), (19, .ldc 120, 2), (21, .ireturn, 1), (22, .aload_n 0, 1), (23, .getfield 23, 3), (26, .iload_n 1, 1), (27, .iaload, 1), (28, .istore 4, 2), (30, .aload_n 0, 1), (31, .getfield 23, 3), (34, .iload_n 1, 1), (35, .iload_n 2, 1), (36, .iastore, 1), (37, .aload_n 0, 1), (38, .getfield 32, 3), (41, .iload_n 1, 1), (42, .baload, 1), (43, .ifCond .ne 25, 3), (46, .iload_n 2, 1), (47, .ifCond .ne 21, 3), (50, .aload_n 0, 1), (51, .invokevirtual 131, 3), (54, .ifCond .eq 14, 3), (57, .aload_n 0, 1), (58, .getfield 23, 3), (61, .iload_n 1, 1), (62, .iload 4, 2), (64, .iastore, 1), (65, .ldc 134, 2), (67, .ireturn, 1), (68, .aload_n 0, 1)] : List (Nat × Instr × Nat)), decode cX3_strength e.1 = .ok (e.2.1, e.2.2) := by decide +kernel
theorem jX3_strength_1 : ∀ e ∈ ([(69, .getfield 26, 3), (72, .iload_n 1, 1), (73, .iload_n 3, 1), (74, .iastore, 1), (75, .iconst 1, 1), (76, .ireturn, 1)] : List (Nat × Instr × Nat)), decode cX3_strength e.1 = .ok (e.2.1, e.2.2) := by decide +kernel
set_option maxRecDepth 100000 in
theorem jX3_strength : ∀ e ∈ iX3_strength, decode cX3_strength e.1 = .ok (e.2.1, e.2.2) := (List.forall_mem_append.mpr ⟨jX3_strength_0, jX3_strength_1⟩)
theorem jX3_told_0 : ∀ e ∈ ([(0, .aload_n 0, 1), (1, .iload_n 1, 1), (2, .invokevirtual 156, 3), (5, .ifCond .eq 6, 3), (8, .ldc 155, 2), (10, .ireturn, 1), (11, .iload_n 2, 1), (12, .tableswitch 79 0 4 #[36, 43, 50, 57, 64], 36), (48, .aload_n 0, 1), (49, .getfield 20, 3), (52, .iload_n 1, 1), (53, .iaload, 1), (54, .ireturn, 1), (55, .aload_n 0, 1), (56, .getfield 23, 3), (59, .iload_n 1, 1), (60, .iaload, 1), (61, .ireturn, 1), (62, .aload_n 0, 1), (63, .getfield 26, 3), (66, .iload_n 1, 1), (67, .iaload, 1), (68, .ireturn, 1), (69, .aload_n 0, 1), (70, .getfield 29, 3), (73, .iload_n 1, 1), (74, .iaload, 1), (75, .ireturn, 1), (76, .aload_n 0, 1), (77, .getfield 32, 3), (80, .iload_n 1, 1), (81, .baload, 1), (82, .ifCond .eq 7, 3), (85, .iconst 1, 1), (86, .goto 4, 3), (89, .iconst 0, 1), (90, .ireturn, 1), (91, .iload_n 2, 1), (92, .i2l, 1), (93, .ldc2_w 159, 3)] : List (Nat × Instr × Nat)), decode cX3_told e.1 = .ok (e.2.1, e.2.2) := by decide +kernel
theorem jX3_told_1 : ∀ e ∈ ([(96, .ldc2_w 135, 3), (99, .invokestatic 110, 3), (102, .ifCond .eq 18, 3), (105, .aload_n 0, 1), (106, .getfield 35, 3), (109, .iconst 5, 1), (110, .iload_n 1, 1), (111, .imul, 1), (112, .iload_n 2, 1), (113, .iadd, 1), (114, .iconst 5, 1), (115, .isub, 1), (116, .iaload, 1), (117, .goto 5, 3), (120, .ldc 120, 2), (122, .ireturn, 1)] : List (Nat × Instr × Nat)), decode cX3_told e.1 = .ok (e.2.1, e.2.2) := by decide +kernel
set_option maxRecDepth 100000 in
theorem jX3_told : ∀ e ∈ iX3_told, decode cX3_told e.1 = .ok (e.2.1, e.2.2) := (List.forall_mem_append.mpr ⟨jX3_told_0, jX3_told_1⟩)
theorem jX3_count_0 : ∀ e ∈ ([(0, .iload_n 1, 1), (1, .i2l, 1), (2, .lconst 0, 1), (3, .ldc2_w 126, 3), (6, .invokestatic 110, 3), (9, .ifCond .ne 6, 3), (12, .ldc 120, 2), (14, .ireturn, 1), (15, .iload_n 1, 1), (16, .iconst 2, 1), (17, .if_icmp .ge 19, 3), (20, .iload_n 1, 1), (21, .ifCond .ne 10, 3), (24, .aload_n 0, 1), (25, .getfield 61, 3), (28, .goto 7, 3), (31, .aload_n 0, 1), (32, .getfield 128, 3), (35, .ireturn, 1), (36, .aload_n 0, 1), (37, .invokevirtual 161, 3), (40, .iconst 0, 1), (41, .istore_n 2, 1), (42, .iconst 0, 1), (43, .istore_n 3, 1), (44, .iload_n 3, 1), (45, .bipush 9, 2), (47, .if_icmp .ge 75, 3), (50, .aload_n 0, 1), (51, .getfield 16, 3), (54, .iload_n 3, 1), (55, .baload, 1), (56, .ifCond .eq 60, 3), (59, .aload_n 0, 1), (60, .getfield 32, 3), (63, .iload_n 3, 1), (64, .baload, 1), (65, .ifCond .ne 51, 3), (68, .iload_n 2, 1), (69, .iload_n 1, 1)] : List (Nat × Instr × Nat)), decode cX3_count e.1 = .ok (e.2.1, e.2.2) := by decide +kernel
theorem jX3_count_1 : ∀ e ∈ ([(70, .iconst 2, 1), (71, .if_icmp .ne 20, 3), (74, .aload_n 0, 1), (75, .getfield 23, 3), (78, .iload_n 3, 1), (79, .iaload, 1), (80, .ifCond .ne 7, 3), (83, .iconst 1, 1), (84, .goto 30, 3), (87, .iconst 0, 1), (88, .goto 26, 3), (91, .aload_n 0, 1), (92, .iload_n 3, 1), (93, .aload_n 0, 1), (94, .getfield 45, 3), (97, .aload_n 0, 1), (98, .getfield 84, 3), (101, .invokevirtual 80, 3), (104, .lconst 0, 1), (105, .lcmp, 1), (106, .ifCond .le 7, 3), (109, .iconst 1, 1), (110, .goto 4, 3), (113, .iconst 0, 1), (114, .iadd, 1), (115, .istore_n 2, 1), (116, .iinc 3 1, 3), (119, .goto (-75), 3), (122, .iload_n 2, 1), (123, .ireturn, 1)] : List (Nat × Instr × Nat)), decode cX3_count e.1 = .ok (e.2.1, e.2.2) := by decide +kernel
set_option maxRecDepth 100000 in
theorem jX3_count : ∀ e ∈ iX3_count, decode cX3_count e.1 = .ok (e.2.1, e.2.2) := (List.forall_mem_append.mpr ⟨jX3_count_0, jX3_count_1⟩)
theorem jX3_quarrel_0 : ∀ e ∈ ([(0, .aload_n 0, 1), (1, .getfield 107, 3), (4, .ireturn, 1)] : List (Nat × Instr × Nat)), decode cX3_quarrel e.1 = .ok (e.2.1, e.2.2) := by decide +kernel
theorem jX3_quarrel : ∀ e ∈ iX3_quarrel, decode cX3_quarrel e.1 = .ok (e.2.1, e.2.2) := jX3_quarrel_0
theorem jX3_at_0 : ∀ e ∈ ([(0, .aload_n 0, 1), (1, .iload_n 1, 1), (2, .invokevirtual 152, 3), (5, .ifCond .eq 6, 3), (8, .ldc 155, 2), (10, .ireturn, 1), (11, .iload_n 2, 1), (12, .i2l, 1), (13, .lconst 0, 1), (14, .lconst 1, 1), (15, .invokestatic 110, 3), (18, .ifCond .ne 6, 3), (21, .ldc 120, 2), (23, .ireturn, 1), (24, .aload_n 0, 1), (25, .invokevirtual 161, 3), (28, .aload_n 0, 1), (29, .getfield 45, 3), (32, .iload_n 1, 1), (33, .laload, 1), (34, .aload_n 0, 1), (35, .getfield 84, 3), (38, .invokestatic 164, 3), (41, .lstore_n 3, 1), (42, .iload_n 2, 1), (43, .ifCond .ne 14, 3), (46, .aload_n 0, 1), (47, .getfield 45, 3), (50, .iload_n 1, 1), (51, .laload, 1), (52, .lload_n 3, 1), (53, .ldiv, 1), (54, .goto 9, 3), (57, .aload_n 0, 1), (58, .getfield 84, 3), (61, .lload_n 3, 1), (62, .ldiv, 1), (63, .l2i, 1), (64, .ireturn, 1)] : List (Nat × Instr × Nat)), decode cX3_at e.1 = .ok (e.2.1, e.2.2) := by decide +kernel
theorem jX3_at : ∀ e ∈ iX3_at, decode cX3_at e.1 = .ok (e.2.1, e.2.2) := jX3_at_0
theorem jX3_floor_0 : ∀ e ∈ ([(0, .lload_n 0, 1), (1, .lload_n 2, 1), (2, .ldiv, 1), (3, .lstore 4, 2), (5, .lload_n 0, 1), (6, .lload_n 2, 1), (7, .lrem, 1), (8, .lconst 0, 1), (9, .lcmp, 1), (10, .ifCond .eq 16, 3), (13, .lload_n 0, 1), (14, .lconst 0, 1), (15, .lcmp, 1), (16, .ifCond .ge 10, 3), (19, .lload 4, 2), (21, .lconst 1, 1), (22, .lsub, 1), (23, .goto 5, 3), (26, .lload 4, 2), (28, .lreturn, 1)] : List (Nat × Instr × Nat)), decode cX3_floor e.1 = .ok (e.2.1, e.2.2) := by decide +kernel
theorem jX3_floor : ∀ e ∈ iX3_floor, decode cX3_floor e.1 = .ok (e.2.1, e.2.2) := jX3_floor_0
theorem jX3_pixelOf_0 : ∀ e ∈ ([(0, .ldc2_w 137, 3), (3, .aload_n 0, 1), (4, .getfield 45, 3), (7, .iload_n 1, 1), (8, .laload, 1), (9, .lmul, 1), (10, .aload_n 0, 1), (11, .getfield 84, 3), (14, .ladd, 1), (15, .ldc2_w 137, 3), (18, .aload_n 0, 1), (19, .getfield 84, 3), (22, .lmul, 1), (23, .invokestatic 168, 3), (26, .lreturn, 1)] : List (Nat × Instr × Nat)), decode cX3_pixelOf e.1 = .ok (e.2.1, e.2.2) := by decide +kernel
theorem jX3_pixelOf : ∀ e ∈ iX3_pixelOf, decode cX3_pixelOf e.1 = .ok (e.2.1, e.2.2) := jX3_pixelOf_0
theorem jX3_pixel_0 : ∀ e ∈ ([(0, .aload_n 0, 1), (1, .iload_n 1, 1), (2, .invokevirtual 152, 3), (5, .ifCond .eq 6, 3), (8, .ldc 155, 2), (10, .ireturn, 1), (11, .aload_n 0, 1), (12, .invokevirtual 161, 3), (15, .aload_n 0, 1), (16, .iload_n 1, 1), (17, .invokevirtual 171, 3), (20, .l2i, 1), (21, .ireturn, 1)] : List (Nat × Instr × Nat)), decode cX3_pixel e.1 = .ok (e.2.1, e.2.2) := by decide +kernel
theorem jX3_pixel : ∀ e ∈ iX3_pixel, decode cX3_pixel e.1 = .ok (e.2.1, e.2.2) := jX3_pixel_0
theorem jX3_off_0 : ∀ e ∈ ([(0, .aload_n 0, 1), (1, .iload_n 1, 1), (2, .invokevirtual 156, 3), (5, .ifCond .eq 7, 3), (8, .ldc2_w 175, 3), (11, .lreturn, 1), (12, .iload_n 2, 1), (13, .i2l, 1), (14, .lconst 0, 1), (15, .lconst 1, 1), (16, .invokestatic 110, 3), (19, .ifCond .ne 7, 3), (22, .ldc2_w 177, 3), (25, .lreturn, 1), (26, .aload_n 0, 1), (27, .invokevirtual 161, 3), (30, .aload_n 0, 1), (31, .iload_n 1, 1), (32, .aload_n 0, 1), (33, .getfield 45, 3), (36, .aload_n 0, 1), (37, .getfield 84, 3), (40, .invokevirtual 80, 3), (43, .lstore_n 3, 1), (44, .lload_n 3, 1), (45, .aload_n 0, 1), (46, .getfield 84, 3), (49, .invokestatic 164, 3), (52, .lstore 5, 2), (54, .iload_n 2, 1), (55, .ifCond .ne 10, 3), (58, .lload_n 3, 1), (59, .lload 5, 2), (61, .ldiv, 1), (62, .goto 10, 3), (65, .aload_n 0, 1), (66, .getfield 84, 3), (69, .lload 5, 2), (71, .ldiv, 1), (72, .lreturn, 1)] : List (Nat × Instr × Nat)), decode cX3_off e.1 = .ok (e.2.1, e.2.2) := by decide +kernel
theorem jX3_off : ∀ e ∈ iX3_off, decode cX3_off e.1 = .ok (e.2.1, e.2.2) := jX3_off_0
theorem jX3_cost_0 : ∀ e ∈ ([(0, .iload_n 1, 1), (1, .i2l, 1), (2, .lconst 1, 1), (3, .ldc2_w 126, 3), (6, .invokestatic 110, 3), (9, .ifCond .eq 13, 3), (12, .iload_n 2, 1), (13, .i2l, 1), (14, .lconst 0, 1), (15, .lconst 1, 1), (16, .invokestatic 110, 3), (19, .ifCond .ne 7, 3), (22, .ldc2_w 177, 3), (25, .lreturn, 1), (26, .aload_n 0, 1), (27, .invokevirtual 161, 3), (30, .aload_n 0, 1), (31, .getfield 51, 3), (34, .iload_n 1, 1), (35, .iconst 1, 1), (36, .isub, 1), (37, .laload, 1), (38, .lstore_n 3, 1), (39, .lload_n 3, 1), (40, .aload_n 0, 1), (41, .getfield 84, 3), (44, .invokestatic 164, 3), (47, .lstore 5, 2), (49, .iload_n 2, 1), (50, .ifCond .ne 10, 3), (53, .lload_n 3, 1), (54, .lload 5, 2), (56, .ldiv, 1), (57, .goto 10, 3), (60, .aload_n 0, 1), (61, .getfield 84, 3), (64, .lload 5, 2), (66, .ldiv, 1), (67, .lreturn, 1)] : List (Nat × Instr × Nat)), decode cX3_cost e.1 = .ok (e.2.1, e.2.2) := by decide +kernel
theorem jX3_cost : ∀ e ∈ iX3_cost, decode cX3_cost e.1 = .ok (e.2.1, e.2.2) := jX3_cost_0
theorem jX3_why_0 : ∀ e ∈ ([(0, .aload_n 0, 1), (1, .iload_n 1, 1), (2, .invokevirtual 156, 3), (5, .ifCond .eq 6, 3), (8, .ldc 155, 2), (10, .ireturn, 1), (11, .aload_n 0, 1), (12, .getfield 32, 3), (15, .iload_n 1, 1), (16, .baload, 1), (17, .ifCond .eq 5, 3), (20, .iconst 0, 1), (21, .ireturn, 1), (22, .aload_n 0, 1), (23, .invokevirtual 161, 3), (26, .aload_n 0, 1), (27, .iload_n 1, 1), (28, .aload_n 0, 1), (29, .getfield 45, 3), (32, .aload_n 0, 1), (33, .getfield 84, 3), (36, .invokevirtual 80, 3), (39, .lstore_n 2, 1), (40, .aload_n 0, 1), (41, .getfield 84, 3), (44, .lstore 4, 2), (46, .lload_n 2, 1), (47, .lconst 0, 1), (48, .lcmp, 1), (49, .ifCond .ne 5, 3), (52, .iconst 0, 1), (53, .ireturn, 1), (54, .aload_n 0, 1), (55, .invokevirtual 100, 3), (58, .istore 6, 2), (60, .iconst 0, 1), (61, .istore 7, 2), (63, .iconst 0, 1), (64, .istore 8, 2), (66, .iload 8, 2)] : List (Nat × Instr × Nat)), decode cX3_why e.1 = .ok (e.2.1, e.2.2) := by decide +kernel
theorem jX3_why_1 : ∀ e ∈ ([(68, .bipush 9, 2), (70, .if_icmp .ge 100, 3), (73, .iload 8, 2), (75, .iload_n 1, 1), (76, .if_icmp .eq 88, 3), (79, .iload 6, 2), (81, .iload 8, 2), (83, .ishr, 1), (84, .iconst 1, 1), (85, .iand, 1), (86, .iconst 1, 1), (87, .if_icmp .ne 77, 3), (90, .aload_n 0, 1), (91, .getfield 23, 3), (94, .iload 8, 2), (96, .iaload, 1), (97, .aload_n 0, 1), (98, .getfield 23, 3), (101, .iload_n 1, 1), (102, .iaload, 1), (103, .if_icmp .gt 61, 3), (106, .aload_n 0, 1), (107, .iload 6, 2), (109, .iconst 1, 1), (110, .iload 8, 2), (112, .ishl, 1), (113, .iconst (-1), 1), (114, .ixor, 1), (115, .iand, 1), (116, .putfield 73, 3), (119, .aload_n 0, 1), (120, .invokevirtual 104, 3), (123, .istore 9, 2), (125, .iload 7, 2), (127, .aload_n 0, 1), (128, .iload_n 1, 1), (129, .aload_n 0, 1), (130, .getfield 45, 3), (133, .aload_n 0, 1), (134, .getfield 84, 3)] : List (Nat × Instr × Nat)), decode cX3_why e.1 = .ok (e.2.1, e.2.2) := by decide +kernel
theorem jX3_why_2 : ∀ e ∈ ([(137, .invokevirtual 80, 3), (140, .lload 4, 2), (142, .lmul, 1), (143, .lload_n 2, 1), (144, .aload_n 0, 1), (145, .getfield 84, 3), (148, .lmul, 1), (149, .lcmp, 1), (150, .ifCond .ge 10, 3), (153, .iconst 1, 1), (154, .iload 8, 2), (156, .ishl, 1), (157, .goto 4, 3), (160, .iconst 0, 1), (161, .ior, 1), (162, .istore 7, 2), (164, .iinc 8 1, 3), (167, .goto (-101), 3), (170, .iload 7, 2), (172, .ireturn, 1)] : List (Nat × Instr × Nat)), decode cX3_why e.1 = .ok (e.2.1, e.2.2) := by decide +kernel
set_option maxRecDepth 100000 in
theorem jX3_why : ∀ e ∈ iX3_why, decode cX3_why e.1 = .ok (e.2.1, e.2.2) := (List.forall_mem_append.mpr ⟨jX3_why_0, (List.forall_mem_append.mpr ⟨jX3_why_1, jX3_why_2⟩)⟩)
theorem jX3_stay_0 : ∀ e ∈ ([(0, .aload_n 0, 1), (1, .iload_n 1, 1), (2, .invokevirtual 152, 3), (5, .ifCond .eq 8, 3), (8, .ldc 155, 2), (10, .goto 9, 3), (13, .aload_n 0, 1), (14, .getfield 7, 3), (17, .iload_n 1, 1), (18, .iaload, 1), (19, .ireturn, 1)] : List (Nat × Instr × Nat)), decode cX3_stay e.1 = .ok (e.2.1, e.2.2) := by decide +kernel
theorem jX3_stay : ∀ e ∈ iX3_stay, decode cX3_stay e.1 = .ok (e.2.1, e.2.2) := jX3_stay_0
theorem jX3_move_0 : ∀ e ∈ ([(0, .aload_n 0, 1), (1, .iload_n 1, 1), (2, .invokevirtual 152, 3), (5, .ifCond .eq 6, 3), (8, .ldc 155, 2), (10, .ireturn, 1), (11, .iload_n 2, 1), (12, .i2l, 1), (13, .ldc2_w 116, 3), (16, .ldc2_w 118, 3), (19, .invokestatic 110, 3), (22, .ifCond .ne 6, 3), (25, .ldc 120, 2), (27, .ireturn, 1), (28, .aload_n 0, 1), (29, .getfield 7, 3), (32, .iload_n 1, 1), (33, .iaload, 1), (34, .istore_n 3, 1), (35, .aload_n 0, 1), (36, .getfield 7, 3), (39, .iload_n 1, 1), (40, .iload_n 2, 1), (41, .iastore, 1), (42, .iload_n 3, 1), (43, .ireturn, 1)] : List (Nat × Instr × Nat)), decode cX3_move e.1 = .ok (e.2.1, e.2.2) := by decide +kernel
theorem jX3_move : ∀ e ∈ iX3_move, decode cX3_move e.1 = .ok (e.2.1, e.2.2) := jX3_move_0
theorem jX3_settle_0 : ∀ e ∈ ([(0, .aload_n 0, 1), (1, .invokevirtual 161, 3), (4, .iconst 0, 1), (5, .istore_n 1, 1), (6, .iload_n 1, 1), (7, .aload_n 0, 1), (8, .getfield 61, 3), (11, .if_icmp .ge 29, 3), (14, .aload_n 0, 1), (15, .iload_n 1, 1), (16, .invokevirtual 171, 3), (19, .ldc2_w 116, 3), (22, .ldc2_w 118, 3), (25, .invokestatic 110, 3), (28, .ifCond .ne 6, 3), (31, .ldc 147, 2), (33, .ireturn, 1), (34, .iinc 1 1, 3), (37, .goto (-31), 3), (40, .iconst 0, 1), (41, .istore_n 1, 1), (42, .iconst 0, 1), (43, .istore_n 2, 1), (44, .iload_n 2, 1), (45, .aload_n 0, 1), (46, .getfield 61, 3), (49, .if_icmp .ge 41, 3), (52, .aload_n 0, 1), (53, .iload_n 2, 1), (54, .invokevirtual 171, 3), (57, .l2i, 1), (58, .istore_n 3, 1), (59, .iload_n 1, 1), (60, .aload_n 0, 1), (61, .getfield 7, 3), (64, .iload_n 2, 1), (65, .iaload, 1), (66, .iload_n 3, 1), (67, .if_icmp .eq 7, 3), (70, .iconst 1, 1)] : List (Nat × Instr × Nat)), decode cX3_settle e.1 = .ok (e.2.1, e.2.2) := by decide +kernel
theorem jX3_settle_1 : ∀ e ∈ ([(71, .goto 4, 3), (74, .iconst 0, 1), (75, .iadd, 1), (76, .istore_n 1, 1), (77, .aload_n 0, 1), (78, .getfield 7, 3), (81, .iload_n 2, 1), (82, .iload_n 3, 1), (83, .iastore, 1), (84, .iinc 2 1, 3), (87, .goto (-43), 3), (90, .iload_n 1, 1), (91, .ireturn, 1)] : List (Nat × Instr × Nat)), decode cX3_settle e.1 = .ok (e.2.1, e.2.2) := by decide +kernel
set_option maxRecDepth 100000 in
theorem jX3_settle : ∀ e ∈ iX3_settle, decode cX3_settle e.1 = .ok (e.2.1, e.2.2) := (List.forall_mem_append.mpr ⟨jX3_settle_0, jX3_settle_1⟩)
theorem jJ6_bitCount_0f7a4_0 : ∀ e ∈ ([(0, .iload_n 0, 1), (1, .iload_n 0, 1), (2, .iconst 1, 1), (3, .iushr, 1), (4, .ldc_w 265, 3), (7, .iand, 1), (8, .isub, 1), (9, .istore_n 0, 1), (10, .iload_n 0, 1), (11, .ldc_w 266, 3), (14, .iand, 1), (15, .iload_n 0, 1), (16, .iconst 2, 1), (17, .iushr, 1), (18, .ldc_w 266, 3), (21, .iand, 1), (22, .iadd, 1), (23, .istore_n 0, 1), (24, .iload_n 0, 1), (25, .iload_n 0, 1), (26, .iconst 4, 1), (27, .iushr, 1), (28, .iadd, 1), (29, .ldc_w 267, 3), (32, .iand, 1), (33, .istore_n 0, 1), (34, .iload_n 0, 1), (35, .iload_n 0, 1), (36, .bipush 8, 2), (38, .iushr, 1), (39, .iadd, 1), (40, .istore_n 0, 1), (41, .iload_n 0, 1), (42, .iload_n 0, 1), (43, .bipush 16, 2), (45, .iushr, 1), (46, .iadd, 1), (47, .istore_n 0, 1), (48, .iload_n 0, 1), (49, .bipush 63, 2)] : List (Nat × Instr × Nat)), decode cJ6_bitCount_0f7a4 e.1 = .ok (e.2.1, e.2.2) := by decide +kernel
theorem jJ6_bitCount_0f7a4_1 : ∀ e ∈ ([(51, .iand, 1), (52, .ireturn, 1)] : List (Nat × Instr × Nat)), decode cJ6_bitCount_0f7a4 e.1 = .ok (e.2.1, e.2.2) := by decide +kernel
set_option maxRecDepth 100000 in
theorem jJ6_bitCount_0f7a4 : ∀ e ∈ iJ6_bitCount_0f7a4, decode cJ6_bitCount_0f7a4 e.1 = .ok (e.2.1, e.2.2) := (List.forall_mem_append.mpr ⟨jJ6_bitCount_0f7a4_0, jJ6_bitCount_0f7a4_1⟩)
theorem jJ9_floorDiv_f86c9_0 : ∀ e ∈ ([(0, .lload_n 0, 1), (1, .lload_n 2, 1), (2, .ldiv, 1), (3, .lstore 4, 2), (5, .lload_n 0, 1), (6, .lload_n 2, 1), (7, .lxor, 1), (8, .lconst 0, 1), (9, .lcmp, 1), (10, .ifCond .ge 17, 3), (13, .lload 4, 2), (15, .lload_n 2, 1), (16, .lmul, 1), (17, .lload_n 0, 1), (18, .lcmp, 1), (19, .ifCond .eq 8, 3), (22, .lload 4, 2), (24, .lconst 1, 1), (25, .lsub, 1), (26, .lreturn, 1), (27, .lload 4, 2), (29, .lreturn, 1)] : List (Nat × Instr × Nat)), decode cJ9_floorDiv_f86c9 e.1 = .ok (e.2.1, e.2.2) := by decide +kernel
theorem jJ9_floorDiv_f86c9 : ∀ e ∈ iJ9_floorDiv_f86c9, decode cJ9_floorDiv_f86c9 e.1 = .ok (e.2.1, e.2.2) := jJ9_floorDiv_f86c9_0
theorem jJ9_abs_067f4_0 : ∀ e ∈ ([(0, .lload_n 0, 1), (1, .lconst 0, 1), (2, .lcmp, 1), (3, .ifCond .ge 8, 3), (6, .lload_n 0, 1), (7, .lneg, 1), (8, .goto 4, 3), (11, .lload_n 0, 1), (12, .lreturn, 1)] : List (Nat × Instr × Nat)), decode cJ9_abs_067f4 e.1 = .ok (e.2.1, e.2.2) := by decide +kernel
theorem jJ9_abs_067f4 : ∀ e ∈ iJ9_abs_067f4, decode cJ9_abs_067f4 e.1 = .ok (e.2.1, e.2.2) := jJ9_abs_067f4_0
theorem jJ9_max_f86c9_0 : ∀ e ∈ ([(0, .lload_n 0, 1), (1, .lload_n 2, 1), (2, .lcmp, 1), (3, .ifCond .lt 7, 3), (6, .lload_n 0, 1), (7, .goto 4, 3), (10, .lload_n 2, 1), (11, .lreturn, 1)] : List (Nat × Instr × Nat)), decode cJ9_max_f86c9 e.1 = .ok (e.2.1, e.2.2) := by decide +kernel
theorem jJ9_max_f86c9 : ∀ e ∈ iJ9_max_f86c9, decode cJ9_max_f86c9 e.1 = .ok (e.2.1, e.2.2) := jJ9_max_f86c9_0
theorem jJ9_min_7cf53_0 : ∀ e ∈ ([(0, .iload_n 0, 1), (1, .iload_n 1, 1), (2, .if_icmp .gt 7, 3), (5, .iload_n 0, 1), (6, .goto 4, 3), (9, .iload_n 1, 1), (10, .ireturn, 1)] : List (Nat × Instr × Nat)), decode cJ9_min_7cf53 e.1 = .ok (e.2.1, e.2.2) := by decide +kernel
theorem jJ9_min_7cf53 : ∀ e ∈ iJ9_min_7cf53, decode cJ9_min_7cf53 e.1 = .ok (e.2.1, e.2.2) := jJ9_min_7cf53_0
theorem jJ7_fill_d0a16_0 : ∀ e ∈ ([(0, .iconst 0, 1), (1, .istore_n 3, 1), (2, .aload_n 0, 1), (3, .arraylength, 1), (4, .istore 4, 2), (6, .iload_n 3, 1), (7, .iload 4, 2), (9, .if_icmp .ge 13, 3), (12, .aload_n 0, 1), (13, .iload_n 3, 1), (14, .lload_n 1, 1), (15, .lastore, 1), (16, .iinc 3 1, 3), (19, .goto (-13), 3), (22, .return_, 1)] : List (Nat × Instr × Nat)), decode cJ7_fill_d0a16 e.1 = .ok (e.2.1, e.2.2) := by decide +kernel
theorem jJ7_fill_d0a16 : ∀ e ∈ iJ7_fill_d0a16, decode cJ7_fill_d0a16 e.1 = .ok (e.2.1, e.2.2) := jJ7_fill_d0a16_0
theorem jJ7_fill_53178_0 : ∀ e ∈ ([(0, .iconst 0, 1), (1, .istore_n 2, 1), (2, .aload_n 0, 1), (3, .arraylength, 1), (4, .istore_n 3, 1), (5, .iload_n 2, 1), (6, .iload_n 3, 1), (7, .if_icmp .ge 13, 3), (10, .aload_n 0, 1), (11, .iload_n 2, 1), (12, .iload_n 1, 1), (13, .iastore, 1), (14, .iinc 2 1, 3), (17, .goto (-12), 3), (20, .return_, 1)] : List (Nat × Instr × Nat)), decode cJ7_fill_53178 e.1 = .ok (e.2.1, e.2.2) := by decide +kernel
theorem jJ7_fill_53178 : ∀ e ∈ iJ7_fill_53178, decode cJ7_fill_53178 e.1 = .ok (e.2.1, e.2.2) := jJ7_fill_53178_0
theorem jL_law_0 : ∀ e ∈ ([(0, .new 7, 3), (3, .dup, 1), (4, .invokespecial 9, 3), (7, .astore_n 1, 1), (8, .new 10, 3), (11, .dup, 1), (12, .invokespecial 12, 3), (15, .astore_n 2, 1), (16, .iconst 0, 1), (17, .istore_n 3, 1), (18, .iload_n 3, 1), (19, .aload_n 0, 1), (20, .arraylength, 1), (21, .bipush 7, 2), (23, .isub, 1), (24, .if_icmp .gt 723, 3), (27, .aload_n 0, 1), (28, .iload_n 3, 1), (29, .iaload, 1), (30, .bipush 31, 2), (32, .iand, 1), (33, .tableswitch 708 0 18 #[91, 114, 147, 200, 275, 298, 347, 380, 423, 456, 479, 492, 525, 548, 582, 616, 639, 662, 695], 91), (124, .aload_n 1, 1), (125, .aload_n 0, 1), (126, .iload_n 3, 1), (127, .iconst 1, 1), (128, .iadd, 1), (129, .iaload, 1), (130, .invokevirtual 13, 3), (133, .aload_n 2, 1), (134, .aload_n 0, 1), (135, .iload_n 3, 1), (136, .iconst 1, 1), (137, .iadd, 1), (138, .iaload, 1), (139, .invokevirtual 17, 3), (142, .if_icmp .eq 599, 3), (145, .iconst 0, 1), (146, .ireturn, 1), (147, .aload_n 1, 1)] : List (Nat × Instr × Nat)), decode code e.1 = .ok (e.2.1, e.2.2) := by decide +kernel
theorem jL_law_1 : ∀ e ∈ ([(148, .aload_n 0, 1), (149, .iload_n 3, 1), (150, .iconst 1, 1), (151, .iadd, 1), (152, .iaload, 1), (153, .aload_n 0, 1), (154, .iload_n 3, 1), (155, .iconst 2, 1), (156, .iadd, 1), (157, .iaload, 1), (158, .invokevirtual 18, 3), (161, .aload_n 2, 1), (162, .aload_n 0, 1), (163, .iload_n 3, 1), (164, .iconst 1, 1), (165, .iadd, 1), (166, .iaload, 1), (167, .aload_n 0, 1), (168, .iload_n 3, 1), (169, .iconst 2, 1), (170, .iadd, 1), (171, .iaload, 1), (172, .invokevirtual 22, 3), (175, .if_icmp .eq 566, 3), (178, .iconst 0, 1), (179, .ireturn, 1), (180, .aload_n 1, 1), (181, .aload_n 0, 1), (182, .iload_n 3, 1), (183, .iconst 1, 1), (184, .iadd, 1), (185, .iaload, 1), (186, .aload_n 0, 1), (187, .iload_n 3, 1), (188, .iconst 2, 1), (189, .iadd, 1), (190, .iaload, 1), (191, .aload_n 0, 1), (192, .iload_n 3, 1), (193, .iconst 3, 1)] : List (Nat × Instr × Nat)), decode code e.1 = .ok (e.2.1, e.2.2) := by decide +kernel
theorem jL_law_2 : ∀ e ∈ ([(194, .iadd, 1), (195, .iaload, 1), (196, .aload_n 0, 1), (197, .iload_n 3, 1), (198, .iconst 4, 1), (199, .iadd, 1), (200, .iaload, 1), (201, .invokevirtual 23, 3), (204, .aload_n 2, 1), (205, .aload_n 0, 1), (206, .iload_n 3, 1), (207, .iconst 1, 1), (208, .iadd, 1), (209, .iaload, 1), (210, .aload_n 0, 1), (211, .iload_n 3, 1), (212, .iconst 2, 1), (213, .iadd, 1), (214, .iaload, 1), (215, .aload_n 0, 1), (216, .iload_n 3, 1), (217, .iconst 3, 1), (218, .iadd, 1), (219, .iaload, 1), (220, .aload_n 0, 1), (221, .iload_n 3, 1), (222, .iconst 4, 1), (223, .iadd, 1), (224, .iaload, 1), (225, .invokevirtual 27, 3), (228, .if_icmp .eq 513, 3), (231, .iconst 0, 1), (232, .ireturn, 1), (233, .aload_n 1, 1), (234, .aload_n 0, 1), (235, .iload_n 3, 1), (236, .iconst 1, 1), (237, .iadd, 1), (238, .iaload, 1), (239, .aload_n 0, 1)] : List (Nat × Instr × Nat)), decode code e.1 = .ok (e.2.1, e.2.2) := by decide +kernel
theorem jL_law_3 : ∀ e ∈ ([(240, .iload_n 3, 1), (241, .iconst 2, 1), (242, .iadd, 1), (243, .iaload, 1), (244, .aload_n 0, 1), (245, .iload_n 3, 1), (246, .iconst 3, 1), (247, .iadd, 1), (248, .iaload, 1), (249, .aload_n 0, 1), (250, .iload_n 3, 1), (251, .iconst 4, 1), (252, .iadd, 1), (253, .iaload, 1), (254, .aload_n 0, 1), (255, .iload_n 3, 1), (256, .iconst 5, 1), (257, .iadd, 1), (258, .iaload, 1), (259, .aload_n 0, 1), (260, .iload_n 3, 1), (261, .bipush 6, 2), (263, .iadd, 1), (264, .iaload, 1), (265, .invokevirtual 28, 3), (268, .aload_n 2, 1), (269, .aload_n 0, 1), (270, .iload_n 3, 1), (271, .iconst 1, 1), (272, .iadd, 1), (273, .iaload, 1), (274, .aload_n 0, 1), (275, .iload_n 3, 1), (276, .iconst 2, 1), (277, .iadd, 1), (278, .iaload, 1), (279, .aload_n 0, 1), (280, .iload_n 3, 1), (281, .iconst 3, 1), (282, .iadd, 1)] : List (Nat × Instr × Nat)), decode code e.1 = .ok (e.2.1, e.2.2) := by decide +kernel
theorem jL_law_4 : ∀ e ∈ ([(283, .iaload, 1), (284, .aload_n 0, 1), (285, .iload_n 3, 1), (286, .iconst 4, 1), (287, .iadd, 1), (288, .iaload, 1), (289, .aload_n 0, 1), (290, .iload_n 3, 1), (291, .iconst 5, 1), (292, .iadd, 1), (293, .iaload, 1), (294, .aload_n 0, 1), (295, .iload_n 3, 1), (296, .bipush 6, 2), (298, .iadd, 1), (299, .iaload, 1), (300, .invokevirtual 32, 3), (303, .if_icmp .eq 438, 3), (306, .iconst 0, 1), (307, .ireturn, 1), (308, .aload_n 1, 1), (309, .aload_n 0, 1), (310, .iload_n 3, 1), (311, .iconst 1, 1), (312, .iadd, 1), (313, .iaload, 1), (314, .invokevirtual 33, 3), (317, .aload_n 2, 1), (318, .aload_n 0, 1), (319, .iload_n 3, 1), (320, .iconst 1, 1), (321, .iadd, 1), (322, .iaload, 1), (323, .invokevirtual 36, 3), (326, .if_icmp .eq 415, 3), (329, .iconst 0, 1), (330, .ireturn, 1), (331, .aload_n 1, 1), (332, .aload_n 0, 1), (333, .iload_n 3, 1)] : List (Nat × Instr × Nat)), decode code e.1 = .ok (e.2.1, e.2.2) := by decide +kernel
theorem jL_law_5 : ∀ e ∈ ([(334, .iconst 1, 1), (335, .iadd, 1), (336, .iaload, 1), (337, .aload_n 0, 1), (338, .iload_n 3, 1), (339, .iconst 2, 1), (340, .iadd, 1), (341, .iaload, 1), (342, .ifCond .eq 7, 3), (345, .iconst 1, 1), (346, .goto 4, 3), (349, .iconst 0, 1), (350, .invokevirtual 37, 3), (353, .aload_n 2, 1), (354, .aload_n 0, 1), (355, .iload_n 3, 1), (356, .iconst 1, 1), (357, .iadd, 1), (358, .iaload, 1), (359, .aload_n 0, 1), (360, .iload_n 3, 1), (361, .iconst 2, 1), (362, .iadd, 1), (363, .iaload, 1), (364, .ifCond .eq 7, 3), (367, .iconst 1, 1), (368, .goto 4, 3), (371, .iconst 0, 1), (372, .invokevirtual 41, 3), (375, .if_icmp .eq 366, 3), (378, .iconst 0, 1), (379, .ireturn, 1), (380, .aload_n 1, 1), (381, .aload_n 0, 1), (382, .iload_n 3, 1), (383, .iconst 1, 1), (384, .iadd, 1), (385, .iaload, 1), (386, .aload_n 0, 1), (387, .iload_n 3, 1)] : List (Nat × Instr × Nat)), decode code e.1 = .ok (e.2.1, e.2.2) := by decide +kernel
theorem jL_law_6 : ∀ e ∈ ([(388, .iconst 2, 1), (389, .iadd, 1), (390, .iaload, 1), (391, .invokevirtual 42, 3), (394, .aload_n 2, 1), (395, .aload_n 0, 1), (396, .iload_n 3, 1), (397, .iconst 1, 1), (398, .iadd, 1), (399, .iaload, 1), (400, .aload_n 0, 1), (401, .iload_n 3, 1), (402, .iconst 2, 1), (403, .iadd, 1), (404, .iaload, 1), (405, .invokevirtual 45, 3), (408, .if_icmp .eq 333, 3), (411, .iconst 0, 1), (412, .ireturn, 1), (413, .aload_n 1, 1), (414, .aload_n 0, 1), (415, .iload_n 3, 1), (416, .iconst 1, 1), (417, .iadd, 1), (418, .iaload, 1), (419, .aload_n 0, 1), (420, .iload_n 3, 1), (421, .iconst 2, 1), (422, .iadd, 1), (423, .iaload, 1), (424, .aload_n 0, 1), (425, .iload_n 3, 1), (426, .iconst 3, 1), (427, .iadd, 1), (428, .iaload, 1), (429, .invokevirtual 46, 3), (432, .aload_n 2, 1), (433, .aload_n 0, 1), (434, .iload_n 3, 1), (435, .iconst 1, 1)] : List (Nat × Instr × Nat)), decode code e.1 = .ok (e.2.1, e.2.2) := by decide +kernel
theorem jL_law_7 : ∀ e ∈ ([(436, .iadd, 1), (437, .iaload, 1), (438, .aload_n 0, 1), (439, .iload_n 3, 1), (440, .iconst 2, 1), (441, .iadd, 1), (442, .iaload, 1), (443, .aload_n 0, 1), (444, .iload_n 3, 1), (445, .iconst 3, 1), (446, .iadd, 1), (447, .iaload, 1), (448, .invokevirtual 50, 3), (451, .if_icmp .eq 290, 3), (454, .iconst 0, 1), (455, .ireturn, 1), (456, .aload_n 1, 1), (457, .aload_n 0, 1), (458, .iload_n 3, 1), (459, .iconst 1, 1), (460, .iadd, 1), (461, .iaload, 1), (462, .aload_n 0, 1), (463, .iload_n 3, 1), (464, .iconst 2, 1), (465, .iadd, 1), (466, .iaload, 1), (467, .invokevirtual 51, 3), (470, .aload_n 2, 1), (471, .aload_n 0, 1), (472, .iload_n 3, 1), (473, .iconst 1, 1), (474, .iadd, 1), (475, .iaload, 1), (476, .aload_n 0, 1), (477, .iload_n 3, 1), (478, .iconst 2, 1), (479, .iadd, 1), (480, .iaload, 1), (481, .invokevirtual 54, 3)] : List (Nat × Instr × Nat)), decode code e.1 = .ok (e.2.1, e.2.2) := by decide +kernel
theorem jL_law_8 : ∀ e ∈ ([(484, .if_icmp .eq 257, 3), (487, .iconst 0, 1), (488, .ireturn, 1), (489, .aload_n 1, 1), (490, .aload_n 0, 1), (491, .iload_n 3, 1), (492, .iconst 1, 1), (493, .iadd, 1), (494, .iaload, 1), (495, .invokevirtual 55, 3), (498, .aload_n 2, 1), (499, .aload_n 0, 1), (500, .iload_n 3, 1), (501, .iconst 1, 1), (502, .iadd, 1), (503, .iaload, 1), (504, .invokevirtual 58, 3), (507, .if_icmp .eq 234, 3), (510, .iconst 0, 1), (511, .ireturn, 1), (512, .aload_n 1, 1), (513, .invokevirtual 59, 3), (516, .aload_n 2, 1), (517, .invokevirtual 63, 3), (520, .if_icmp .eq 221, 3), (523, .iconst 0, 1), (524, .ireturn, 1), (525, .aload_n 1, 1), (526, .aload_n 0, 1), (527, .iload_n 3, 1), (528, .iconst 1, 1), (529, .iadd, 1), (530, .iaload, 1), (531, .aload_n 0, 1), (532, .iload_n 3, 1), (533, .iconst 2, 1), (534, .iadd, 1), (535, .iaload, 1), (536, .invokevirtual 64, 3), (539, .aload_n 2, 1)] : List (Nat × Instr × Nat)), decode code e.1 = .ok (e.2.1, e.2.2) := by decide +kernel
theorem jL_law_9 : ∀ e ∈ ([(540, .aload_n 0, 1), (541, .iload_n 3, 1), (542, .iconst 1, 1), (543, .iadd, 1), (544, .iaload, 1), (545, .aload_n 0, 1), (546, .iload_n 3, 1), (547, .iconst 2, 1), (548, .iadd, 1), (549, .iaload, 1), (550, .invokevirtual 67, 3), (553, .if_icmp .eq 188, 3), (556, .iconst 0, 1), (557, .ireturn, 1), (558, .aload_n 1, 1), (559, .aload_n 0, 1), (560, .iload_n 3, 1), (561, .iconst 1, 1), (562, .iadd, 1), (563, .iaload, 1), (564, .invokevirtual 68, 3), (567, .aload_n 2, 1), (568, .aload_n 0, 1), (569, .iload_n 3, 1), (570, .iconst 1, 1), (571, .iadd, 1), (572, .iaload, 1), (573, .invokevirtual 71, 3), (576, .if_icmp .eq 165, 3), (579, .iconst 0, 1), (580, .ireturn, 1), (581, .aload_n 1, 1), (582, .aload_n 0, 1), (583, .iload_n 3, 1), (584, .iconst 1, 1), (585, .iadd, 1), (586, .iaload, 1), (587, .aload_n 0, 1), (588, .iload_n 3, 1), (589, .iconst 2, 1)] : List (Nat × Instr × Nat)), decode code e.1 = .ok (e.2.1, e.2.2) := by decide +kernel
theorem jL_law_10 : ∀ e ∈ ([(590, .iadd, 1), (591, .iaload, 1), (592, .invokevirtual 72, 3), (595, .aload_n 2, 1), (596, .aload_n 0, 1), (597, .iload_n 3, 1), (598, .iconst 1, 1), (599, .iadd, 1), (600, .iaload, 1), (601, .aload_n 0, 1), (602, .iload_n 3, 1), (603, .iconst 2, 1), (604, .iadd, 1), (605, .iaload, 1), (606, .invokevirtual 76, 3), (609, .lcmp, 1), (610, .ifCond .eq 131, 3), (613, .iconst 0, 1), (614, .ireturn, 1), (615, .aload_n 1, 1), (616, .aload_n 0, 1), (617, .iload_n 3, 1), (618, .iconst 1, 1), (619, .iadd, 1), (620, .iaload, 1), (621, .aload_n 0, 1), (622, .iload_n 3, 1), (623, .iconst 2, 1), (624, .iadd, 1), (625, .iaload, 1), (626, .invokevirtual 77, 3), (629, .aload_n 2, 1), (630, .aload_n 0, 1), (631, .iload_n 3, 1), (632, .iconst 1, 1), (633, .iadd, 1), (634, .iaload, 1), (635, .aload_n 0, 1), (636, .iload_n 3, 1), (637, .iconst 2, 1)] : List (Nat × Instr × Nat)), decode code e.1 = .ok (e.2.1, e.2.2) := by decide +kernel
theorem jL_law_11 : ∀ e ∈ ([(638, .iadd, 1), (639, .iaload, 1), (640, .invokevirtual 80, 3), (643, .lcmp, 1), (644, .ifCond .eq 97, 3), (647, .iconst 0, 1), (648, .ireturn, 1), (649, .aload_n 1, 1), (650, .aload_n 0, 1), (651, .iload_n 3, 1), (652, .iconst 1, 1), (653, .iadd, 1), (654, .iaload, 1), (655, .invokevirtual 81, 3), (658, .aload_n 2, 1), (659, .aload_n 0, 1), (660, .iload_n 3, 1), (661, .iconst 1, 1), (662, .iadd, 1), (663, .iaload, 1), (664, .invokevirtual 84, 3), (667, .if_icmp .eq 74, 3), (670, .iconst 0, 1), (671, .ireturn, 1), (672, .aload_n 1, 1), (673, .aload_n 0, 1), (674, .iload_n 3, 1), (675, .iconst 1, 1), (676, .iadd, 1), (677, .iaload, 1), (678, .invokevirtual 85, 3), (681, .aload_n 2, 1), (682, .aload_n 0, 1), (683, .iload_n 3, 1), (684, .iconst 1, 1), (685, .iadd, 1), (686, .iaload, 1), (687, .invokevirtual 88, 3), (690, .if_icmp .eq 51, 3), (693, .iconst 0, 1)] : List (Nat × Instr × Nat)), decode code e.1 = .ok (e.2.1, e.2.2) := by decide +kernel
theorem jL_law_12 : ∀ e ∈ ([(694, .ireturn, 1), (695, .aload_n 1, 1), (696, .aload_n 0, 1), (697, .iload_n 3, 1), (698, .iconst 1, 1), (699, .iadd, 1), (700, .iaload, 1), (701, .aload_n 0, 1), (702, .iload_n 3, 1), (703, .iconst 2, 1), (704, .iadd, 1), (705, .iaload, 1), (706, .invokevirtual 89, 3), (709, .aload_n 2, 1), (710, .aload_n 0, 1), (711, .iload_n 3, 1), (712, .iconst 1, 1), (713, .iadd, 1), (714, .iaload, 1), (715, .aload_n 0, 1), (716, .iload_n 3, 1), (717, .iconst 2, 1), (718, .iadd, 1), (719, .iaload, 1), (720, .invokevirtual 92, 3), (723, .if_icmp .eq 18, 3), (726, .iconst 0, 1), (727, .ireturn, 1), (728, .aload_n 1, 1), (729, .invokevirtual 93, 3), (732, .aload_n 2, 1), (733, .invokevirtual 96, 3), (736, .if_icmp .eq 5, 3), (739, .iconst 0, 1), (740, .ireturn, 1), (741, .iinc 3 7, 3), (744, .goto (-726), 3), (747, .iconst 1, 1), (748, .ireturn, 1)] : List (Nat × Instr × Nat)), decode code e.1 = .ok (e.2.1, e.2.2) := by decide +kernel
set_option maxRecDepth 100000 in
theorem jL_law : ∀ e ∈ iL_law, decode code e.1 = .ok (e.2.1, e.2.2) := (List.forall_mem_append.mpr ⟨jL_law_0, (List.forall_mem_append.mpr ⟨jL_law_1, (List.forall_mem_append.mpr ⟨jL_law_2, (List.forall_mem_append.mpr ⟨jL_law_3, (List.forall_mem_append.mpr ⟨jL_law_4, (List.forall_mem_append.mpr ⟨jL_law_5, (List.forall_mem_append.mpr ⟨jL_law_6, (List.forall_mem_append.mpr ⟨jL_law_7, (List.forall_mem_append.mpr ⟨jL_law_8, (List.forall_mem_append.mpr ⟨jL_law_9, (List.forall_mem_append.mpr ⟨jL_law_10, (List.forall_mem_append.mpr ⟨jL_law_11, jL_law_12⟩)⟩)⟩)⟩)⟩)⟩)⟩)⟩)⟩)⟩)⟩)⟩)
end
section
abbrev mM : Type := List (Nat × Instr × Nat) × ByteArray × MethodName × Nat × Option FieldType × Nat × Bool × Nat × Nat × Nat
abbrev mX0_load : mM := (iX0_load, cX0_load, yX0_load, 6, none, 0, false, 4, 2, 45)
abbrev mX0_addRow : mM := (iX0_addRow, cX0_addRow, yX0_addRow, 6, none, 0, false, 2, 1, 20)
abbrev mX0_copy : mM := (iX0_copy, cX0_copy, yX0_copy, 3, none, 0, false, 1, 1, 60)
abbrev mX0_drop : mM := (iX0_drop, cX0_drop, yX0_drop, 2, none, 0, false, 1, 0, 0)
abbrev mX0_areMustsMet : mM := (iX0_areMustsMet, cX0_areMustsMet, yX0_areMustsMet, 2, some .boolean, 0, false, 0, 1, 21)
abbrev mX0_solve : mM := (iX0_solve, cX0_solve, yX0_solve, 2, none, 0, false, 0, 4, 97)
abbrev mX0_missOf : mM := (iX0_missOf, cX0_missOf, yX0_missOf, 5, some .long, 0, false, 1, 1, 23)
abbrev mX0_lessenCost : mM := (iX0_lessenCost, cX0_lessenCost, yX0_lessenCost, 4, none, 0, false, 1, 3, 74)
abbrev mX0_findEntering : mM := (iX0_findEntering, cX0_findEntering, yX0_findEntering, 5, some .boolean, 0, false, 1, 2, 50)
abbrev mX0_findGrowth : mM := (iX0_findGrowth, cX0_findGrowth, yX0_findGrowth, 7, none, 0, false, 1, 1, 24)
abbrev mX0_slopeOf : mM := (iX0_slopeOf, cX0_slopeOf, yX0_slopeOf, 2, some .long, 0, false, 1, 0, 0)
abbrev mX0_lessens : mM := (iX0_lessens, cX0_lessens, yX0_lessens, 8, some .boolean, 0, false, 3, 0, 0)
abbrev mX0_findLeaving : mM := (iX0_findLeaving, cX0_findLeaving, yX0_findLeaving, 5, some .int, 0, false, 1, 2, 45)
abbrev mX0_firstAtZero : mM := (iX0_firstAtZero, cX0_firstAtZero, yX0_firstAtZero, 13, some .int, 0, false, 0, 0, 0)
abbrev mX0_pass : mM := (iX0_pass, cX0_pass, yX0_pass, 5, none, 0, false, 1, 1, 21)
abbrev mX0_swap : mM := (iX0_swap, cX0_swap, yX0_swap, 8, none, 0, false, 1, 1, 31)
abbrev mX0_putIn : mM := (iX0_putIn, cX0_putIn, yX0_putIn, 12, none, 0, false, 4, 0, 0)
abbrev mX1_become : mM := (iX1_become, cX1_become, yX1_become, 7, none, 1, false, 5, 0, 0)
abbrev mX1_counts : mM := (iX1_counts, cX1_counts, yX1_counts, 1, some .boolean, 1, false, 0, 0, 0)
abbrev mX1_costAbove : mM := (iX1_costAbove, cX1_costAbove, yX1_costAbove, 1, some .int, 1, false, 0, 0, 0)
abbrev mX1_costBelow : mM := (iX1_costBelow, cX1_costBelow, yX1_costBelow, 1, some .int, 1, false, 0, 0, 0)
abbrev mX2_edge : mM := (iX2_edge, cX2_edge, yX2_edge, 2, some .int, 2, false, 1, 1, 21)
abbrev mX2_factor : mM := (iX2_factor, cX2_factor, yX2_factor, 4, some .int, 2, false, 2, 1, 21)
abbrev mX2_wish : mM := (iX2_wish, cX2_wish, yX2_wish, 6, some .int, 2, false, 4, 7, 169)
abbrev mX2_side : mM := (iX2_side, cX2_side, yX2_side, 7, some .int, 2, false, 6, 7, 169)
abbrev mX2_take : mM := (iX2_take, cX2_take, yX2_take, 2, some .int, 2, false, 1, 1, 22)
abbrev mX2_hide : mM := (iX2_hide, cX2_hide, yX2_hide, 5, some .int, 2, false, 2, 6, 142)
abbrev mX2_drag : mM := (iX2_drag, cX2_drag, yX2_drag, 5, some .int, 2, false, 2, 6, 142)
abbrev mX2_strength : mM := (iX2_strength, cX2_strength, yX2_strength, 7, some .int, 2, false, 3, 6, 142)
abbrev mX2_told : mM := (iX2_told, cX2_told, yX2_told, 4, some .int, 2, false, 2, 1, 21)
abbrev mX2_count : mM := (iX2_count, cX2_count, yX2_count, 2, some .int, 2, false, 1, 7, 160)
abbrev mX2_quarrel : mM := (iX2_quarrel, cX2_quarrel, yX2_quarrel, 1, some .int, 2, false, 0, 0, 0)
abbrev mX2_at : mM := (iX2_at, cX2_at, yX2_at, 3, some .int, 2, false, 2, 6, 138)
abbrev mX2_pixel : mM := (iX2_pixel, cX2_pixel, yX2_pixel, 2, some .int, 2, false, 1, 6, 138)
abbrev mX2_off : mM := (iX2_off, cX2_off, yX2_off, 3, some .long, 2, false, 2, 6, 138)
abbrev mX2_cost : mM := (iX2_cost, cX2_cost, yX2_cost, 7, some .long, 2, false, 2, 6, 138)
abbrev mX2_why : mM := (iX2_why, cX2_why, yX2_why, 6, some .int, 2, false, 1, 6, 140)
abbrev mX2_stay : mM := (iX2_stay, cX2_stay, yX2_stay, 2, some .int, 2, false, 1, 1, 21)
abbrev mX2_move : mM := (iX2_move, cX2_move, yX2_move, 4, some .int, 2, false, 2, 1, 21)
abbrev mX2_settle : mM := (iX2_settle, cX2_settle, yX2_settle, 3, some .int, 2, false, 0, 6, 138)
abbrev mX2_isWithin : mM := (iX2_isWithin, cX2_isWithin, yX2_isWithin, 2, some .boolean, 2, true, 2, 0, 0)
abbrev mX2_isStrength : mM := (iX2_isStrength, cX2_isStrength, yX2_isStrength, 2, some .boolean, 2, true, 2, 0, 0)
abbrev mX2_isPart : mM := (iX2_isPart, cX2_isPart, yX2_isPart, 1, some .boolean, 2, true, 1, 0, 0)
abbrev mX2_isEdge : mM := (iX2_isEdge, cX2_isEdge, yX2_isEdge, 2, some .boolean, 2, false, 1, 0, 0)
abbrev mX2_isWish : mM := (iX2_isWish, cX2_isWish, yX2_isWish, 2, some .boolean, 2, false, 1, 0, 0)
abbrev mX2_areAllZero : mM := (iX2_areAllZero, cX2_areAllZero, yX2_areAllZero, 3, some .boolean, 2, true, 2, 0, 0)
abbrev mX2_addWish : mM := (iX2_addWish, cX2_addWish, yX2_addWish, 8, some .int, 2, false, 5, 6, 142)
abbrev mX2_freeWish : mM := (iX2_freeWish, cX2_freeWish, yX2_freeWish, 2, some .int, 2, false, 0, 0, 0)
abbrev mX2_countWishes : mM := (iX2_countWishes, cX2_countWishes, yX2_countWishes, 3, some .int, 2, false, 0, 0, 0)
abbrev mX2_countUnmet : mM := (iX2_countUnmet, cX2_countUnmet, yX2_countUnmet, 3, some .int, 2, false, 0, 6, 138)
abbrev mX2_countingWishes : mM := (iX2_countingWishes, cX2_countingWishes, yX2_countingWishes, 4, some .int, 2, false, 1, 1, 20)
abbrev mX2_findSetting : mM := (iX2_findSetting, cX2_findSetting, yX2_findSetting, 1, none, 2, false, 0, 5, 118)
abbrev mX2_clashes : mM := (iX2_clashes, cX2_clashes, yX2_clashes, 3, some .boolean, 2, false, 1, 5, 120)
abbrev mX2_leastQuarrel : mM := (iX2_leastQuarrel, cX2_leastQuarrel, yX2_leastQuarrel, 4, some .int, 2, false, 0, 4, 97)
abbrev mX2_isNearerWithout : mM := (iX2_isNearerWithout, cX2_isNearerWithout, yX2_isNearerWithout, 3, some .boolean, 2, false, 2, 5, 118)
abbrev mX2_pixelOf : mM := (iX2_pixelOf, cX2_pixelOf, yX2_pixelOf, 2, some .long, 2, false, 1, 1, 25)
abbrev mX2_inLeastTerms : mM := (iX2_inLeastTerms, cX2_inLeastTerms, yX2_inLeastTerms, 9, some .long, 2, true, 3, 1, 26)
abbrev mX2_greatestDivisor : mM := (iX2_greatestDivisor, cX2_greatestDivisor, yX2_greatestDivisor, 7, some .long, 2, true, 2, 0, 0)
abbrev mX3_in : mM := (iX3_in, cX3_in, yX3_in, 6, some .boolean, 3, true, 3, 0, 0)
abbrev mX3_size : mM := (iX3_size, cX3_size, yX3_size, 2, some .long, 3, true, 1, 0, 0)
abbrev mX3_divisor : mM := (iX3_divisor, cX3_divisor, yX3_divisor, 10, some .long, 3, true, 2, 1, 21)
abbrev mX3_putRow : mM := (iX3_putRow, cX3_putRow, yX3_putRow, 4, none, 3, false, 2, 0, 0)
abbrev mX3_swapRows : mM := (iX3_swapRows, cX3_swapRows, yX3_swapRows, 6, none, 3, false, 2, 0, 0)
abbrev mX3_meet : mM := (iX3_meet, cX3_meet, yX3_meet, 11, some .boolean, 3, false, 0, 1, 25)
abbrev mX3_offBy : mM := (iX3_offBy, cX3_offBy, yX3_offBy, 8, some .long, 3, false, 3, 1, 21)
abbrev mX3_isLive : mM := (iX3_isLive, cX3_isLive, yX3_isLive, 2, some .boolean, 3, false, 1, 0, 0)
abbrev mX3_weigh : mM := (iX3_weigh, cX3_weigh, yX3_weigh, 4, some .boolean, 3, false, 0, 2, 48)
abbrev mX3_isLess : mM := (iX3_isLess, cX3_isLess, yX3_isLess, 6, some .boolean, 3, false, 0, 0, 0)
abbrev mX3_solve : mM := (iX3_solve, cX3_solve, yX3_solve, 7, some .boolean, 3, false, 0, 3, 71)
abbrev mX3_allLive : mM := (iX3_allLive, cX3_allLive, yX3_allLive, 3, some .int, 3, false, 0, 0, 0)
abbrev mX3_set : mM := (iX3_set, cX3_set, yX3_set, 2, none, 3, false, 0, 4, 97)
abbrev mX3_clashes : mM := (iX3_clashes, cX3_clashes, yX3_clashes, 3, some .boolean, 3, false, 0, 4, 97)
abbrev mX3_noEdge : mM := (iX3_noEdge, cX3_noEdge, yX3_noEdge, 2, some .boolean, 3, false, 1, 1, 25)
abbrev mX3_noWish : mM := (iX3_noWish, cX3_noWish, yX3_noWish, 2, some .boolean, 3, false, 1, 1, 25)
abbrev mX3_edge : mM := (iX3_edge, cX3_edge, yX3_edge, 2, some .int, 3, false, 1, 1, 25)
abbrev mX3_factor : mM := (iX3_factor, cX3_factor, yX3_factor, 4, some .int, 3, false, 2, 1, 25)
abbrev mX3_add : mM := (iX3_add, cX3_add, yX3_add, 7, some .int, 3, false, 4, 5, 119)
abbrev mX3_isStrength : mM := (iX3_isStrength, cX3_isStrength, yX3_isStrength, 2, some .boolean, 3, true, 2, 1, 25)
abbrev mX3_wish : mM := (iX3_wish, cX3_wish, yX3_wish, 8, some .int, 3, false, 4, 6, 145)
abbrev mX3_side : mM := (iX3_side, cX3_side, yX3_side, 8, some .int, 3, false, 6, 6, 145)
abbrev mX3_take : mM := (iX3_take, cX3_take, yX3_take, 2, some .int, 3, false, 1, 2, 46)
abbrev mX3_hide : mM := (iX3_hide, cX3_hide, yX3_hide, 4, some .int, 3, false, 2, 5, 119)
abbrev mX3_drag : mM := (iX3_drag, cX3_drag, yX3_drag, 4, some .int, 3, false, 2, 5, 119)
abbrev mX3_strength : mM := (iX3_strength, cX3_strength, yX3_strength, 5, some .int, 3, false, 3, 5, 119)
abbrev mX3_told : mM := (iX3_told, cX3_told, yX3_told, 3, some .int, 3, false, 2, 2, 46)
abbrev mX3_count : mM := (iX3_count, cX3_count, yX3_count, 4, some .int, 3, false, 1, 5, 118)
abbrev mX3_quarrel : mM := (iX3_quarrel, cX3_quarrel, yX3_quarrel, 1, some .int, 3, false, 0, 0, 0)
abbrev mX3_at : mM := (iX3_at, cX3_at, yX3_at, 5, some .int, 3, false, 2, 5, 118)
abbrev mX3_floor : mM := (iX3_floor, cX3_floor, yX3_floor, 6, some .long, 3, true, 2, 0, 0)
abbrev mX3_pixelOf : mM := (iX3_pixelOf, cX3_pixelOf, yX3_pixelOf, 2, some .long, 3, false, 1, 1, 25)
abbrev mX3_pixel : mM := (iX3_pixel, cX3_pixel, yX3_pixel, 2, some .int, 3, false, 1, 5, 118)
abbrev mX3_off : mM := (iX3_off, cX3_off, yX3_off, 7, some .long, 3, false, 2, 5, 118)
abbrev mX3_cost : mM := (iX3_cost, cX3_cost, yX3_cost, 7, some .long, 3, false, 2, 5, 118)
abbrev mX3_why : mM := (iX3_why, cX3_why, yX3_why, 10, some .int, 3, false, 1, 5, 118)
abbrev mX3_stay : mM := (iX3_stay, cX3_stay, yX3_stay, 2, some .int, 3, false, 1, 2, 46)
abbrev mX3_move : mM := (iX3_move, cX3_move, yX3_move, 4, some .int, 3, false, 2, 2, 46)
abbrev mX3_settle : mM := (iX3_settle, cX3_settle, yX3_settle, 4, some .int, 3, false, 0, 5, 118)
abbrev mJ6_bitCount_0f7a4 : mM := (iJ6_bitCount_0f7a4, cJ6_bitCount_0f7a4, yJ6_bitCount_0f7a4, 1, some .int, 4, true, 1, 0, 0)
abbrev mJ9_floorDiv_f86c9 : mM := (iJ9_floorDiv_f86c9, cJ9_floorDiv_f86c9, yJ9_floorDiv_f86c9, 6, some .long, 5, true, 2, 0, 0)
abbrev mJ9_abs_067f4 : mM := (iJ9_abs_067f4, cJ9_abs_067f4, yJ9_abs_067f4, 2, some .long, 5, true, 1, 0, 0)
abbrev mJ9_max_f86c9 : mM := (iJ9_max_f86c9, cJ9_max_f86c9, yJ9_max_f86c9, 4, some .long, 5, true, 2, 0, 0)
abbrev mJ9_min_7cf53 : mM := (iJ9_min_7cf53, cJ9_min_7cf53, yJ9_min_7cf53, 2, some .int, 5, true, 2, 0, 0)
abbrev mJ7_fill_d0a16 : mM := (iJ7_fill_d0a16, cJ7_fill_d0a16, yJ7_fill_d0a16, 5, none, 6, true, 2, 0, 0)
abbrev mJ7_fill_53178 : mM := (iJ7_fill_53178, cJ7_fill_53178, yJ7_fill_53178, 4, none, 6, true, 2, 0, 0)
abbrev mL_law : mM := (iL_law, code, x, 4, some .boolean, 7, true, 1, 8, 195)
def MTb : List mM := [mX0_load, mX0_addRow, mX0_copy, mX0_drop, mX0_areMustsMet, mX0_solve, mX0_missOf, mX0_lessenCost, mX0_findEntering, mX0_findGrowth, mX0_slopeOf, mX0_lessens, mX0_findLeaving, mX0_firstAtZero, mX0_pass, mX0_swap, mX0_putIn, mX1_become, mX1_counts, mX1_costAbove, mX1_costBelow, mX2_edge, mX2_factor, mX2_wish, mX2_side, mX2_take, mX2_hide, mX2_drag, mX2_strength, mX2_told, mX2_count, mX2_quarrel, mX2_at, mX2_pixel, mX2_off, mX2_cost, mX2_why, mX2_stay, mX2_move, mX2_settle, mX2_isWithin, mX2_isStrength, mX2_isPart, mX2_isEdge, mX2_isWish, mX2_areAllZero, mX2_addWish, mX2_freeWish, mX2_countWishes, mX2_countUnmet, mX2_countingWishes, mX2_findSetting, mX2_clashes, mX2_leastQuarrel, mX2_isNearerWithout, mX2_pixelOf, mX2_inLeastTerms, mX2_greatestDivisor, mX3_in, mX3_size, mX3_divisor, mX3_putRow, mX3_swapRows, mX3_meet, mX3_offBy, mX3_isLive, mX3_weigh, mX3_isLess, mX3_solve, mX3_allLive, mX3_set, mX3_clashes, mX3_noEdge, mX3_noWish, mX3_edge, mX3_factor, mX3_add, mX3_isStrength, mX3_wish, mX3_side, mX3_take, mX3_hide, mX3_drag, mX3_strength, mX3_told, mX3_count, mX3_quarrel, mX3_at, mX3_floor, mX3_pixelOf, mX3_pixel, mX3_off, mX3_cost, mX3_why, mX3_stay, mX3_move, mX3_settle, mJ6_bitCount_0f7a4, mJ9_floorDiv_f86c9, mJ9_abs_067f4, mJ9_max_f86c9, mJ9_min_7cf53, mJ7_fill_d0a16, mJ7_fill_53178, mL_law]
def cnm : Nat → String := fun o => ([RX0, RX1, RX2, RX3, RJ6, RJ9, RJ7, RL] : List String).getD o ""
def BIG : List Cond := lw_tbl.filter goodWord
theorem bg {w : Cond} (i : Nat) (h : tables_1[i]? = some w) (hg : goodWord w = true) : w ∈ BIG := List.mem_filter.mpr ⟨List.mem_append_right _ (List.mem_of_getElem? h), hg⟩
theorem bgs {w : Cond} (i : Nat) (h : (k2_sels lw_privs)[i]? = some w) (hg : goodWord w = true) : w ∈ BIG := List.mem_filter.mpr ⟨List.mem_append_left _ (List.mem_of_getElem? h), hg⟩
def FTb : List (Nat × Nat × Nat × Nat) := [(0, 9, 0, 0), (0, 15, 0, 1), (0, 19, 0, 4), (0, 23, 0, 5), (0, 26, 0, 6), (0, 29, 0, 7), (0, 34, 0, 8), (0, 37, 0, 9), (0, 40, 0, 10), (0, 43, 0, 11), (0, 46, 0, 12), (0, 49, 0, 13), (0, 58, 0, 3), (0, 62, 0, 2), (0, 69, 1, 3), (0, 80, 1, 5), (0, 83, 1, 6), (0, 100, 1, 2), (0, 130, 0, 14), (0, 133, 0, 15), (1, 9, 1, 6), (1, 15, 1, 2), (1, 19, 1, 3), (1, 22, 1, 4), (1, 25, 1, 5), (1, 28, 1, 1), (1, 32, 1, 0), (2, 9, 2, 0), (2, 13, 2, 1), (2, 16, 2, 2), (2, 19, 2, 3), (2, 25, 2, 4), (2, 33, 2, 7), (2, 37, 2, 8), (2, 46, 2, 5), (2, 51, 2, 9), (2, 81, 1, 0), (2, 88, 1, 1), (2, 96, 1, 5), (2, 99, 1, 3), (2, 102, 1, 4), (2, 105, 1, 2), (2, 108, 1, 6), (2, 123, 2, 6), (2, 132, 0, 1), (2, 135, 0, 0), (3, 7, 3, 1), (3, 13, 3, 2), (3, 16, 3, 3), (3, 20, 3, 4), (3, 23, 3, 5), (3, 26, 3, 6), (3, 29, 3, 7), (3, 32, 3, 8), (3, 35, 3, 9), (3, 38, 3, 12), (3, 42, 3, 13), (3, 45, 3, 15), (3, 48, 3, 17), (3, 51, 3, 18), (3, 54, 3, 20), (3, 61, 3, 0), (3, 69, 3, 14), (3, 73, 3, 19), (3, 84, 3, 16), (3, 107, 3, 11), (3, 128, 3, 10)]
def fTk : Nat → u_T := fun c => ([TX0, TX1, TX2, TX3] : List u_T).getD c TX0
def fNk : Nat → Nat := fun c => ([16, 7, 10, 21] : List Nat).getD c 0
def fTy : Nat → Nat → FieldType := fun c => ([tyX0, tyX1, tyX2, tyX3] : List (Nat → FieldType)).getD c tyX0
def fCd : Nat → Nat → Nat := fun c k => (([[1, 3, 0, 0, 3, 3, 3, 3, 3, 3, 3, 3, 3, 3, 0, 0], [2, 2, 0, 0, 0, 0, 3], [3, 3, 3, 3, 3, 0, 0, 3, 3, 2], [0, 3, 3, 3, 3, 3, 3, 3, 3, 3, 0, 0, 3, 3, 1, 3, 1, 3, 3, 0, 3]] : List (List Nat)).getD c []).getD k 9
def fFn : Nat → Nat → Bool := fun c k => (([[false, true, false, false, true, true, true, true, true, true, true, true, true, true, false, false], [false, false, false, false, false, false, true], [true, true, true, true, true, false, false, false, false, false], [false, true, true, true, true, true, true, true, true, true, false, false, true, true, false, true, false, true, true, false, true]] : List (List Bool)).getD c []).getD k true
def okF (e : Nat × Nat × Nat × Nat) : Prop := e.2.2.1 < 4 ∧ e.2.2.2 < fNk e.2.2.1 ∧ Cond.fieldLink (cnm e.1) e.2.1 (cnm e.2.2.1) (fTk e.2.2.1 e.2.2.2).2.1 (fTk e.2.2.1 e.2.2.2).2.2.1 ∈ BIG
theorem okF_0 : okF (0, 9, 0, 0) := ⟨by decide, by decide, bg 67 (by decide +kernel) (by decide +kernel)⟩
theorem okF_1 : okF (0, 15, 0, 1) := ⟨by decide, by decide, bg 69 (by decide +kernel) (by decide +kernel)⟩
theorem okF_2 : okF (0, 19, 0, 4) := ⟨by decide, by decide, bg 73 (by decide +kernel) (by decide +kernel)⟩
theorem okF_3 : okF (0, 23, 0, 5) := ⟨by decide, by decide, bg 74 (by decide +kernel) (by decide +kernel)⟩
theorem okF_4 : okF (0, 26, 0, 6) := ⟨by decide, by decide, bg 75 (by decide +kernel) (by decide +kernel)⟩
theorem okF_5 : okF (0, 29, 0, 7) := ⟨by decide, by decide, bg 76 (by decide +kernel) (by decide +kernel)⟩
theorem okF_6 : okF (0, 34, 0, 8) := ⟨by decide, by decide, bg 77 (by decide +kernel) (by decide +kernel)⟩
theorem okF_7 : okF (0, 37, 0, 9) := ⟨by decide, by decide, bg 78 (by decide +kernel) (by decide +kernel)⟩
theorem okF_8 : okF (0, 40, 0, 10) := ⟨by decide, by decide, bg 79 (by decide +kernel) (by decide +kernel)⟩
theorem okF_9 : okF (0, 43, 0, 11) := ⟨by decide, by decide, bg 80 (by decide +kernel) (by decide +kernel)⟩
theorem okF_10 : okF (0, 46, 0, 12) := ⟨by decide, by decide, bg 81 (by decide +kernel) (by decide +kernel)⟩
theorem okF_11 : okF (0, 49, 0, 13) := ⟨by decide, by decide, bg 82 (by decide +kernel) (by decide +kernel)⟩
theorem okF_12 : okF (0, 58, 0, 3) := ⟨by decide, by decide, bg 72 (by decide +kernel) (by decide +kernel)⟩
theorem okF_13 : okF (0, 62, 0, 2) := ⟨by decide, by decide, bg 71 (by decide +kernel) (by decide +kernel)⟩
theorem okF_14 : okF (0, 69, 1, 3) := ⟨by decide, by decide, bg 32 (by decide +kernel) (by decide +kernel)⟩
theorem okF_15 : okF (0, 80, 1, 5) := ⟨by decide, by decide, bg 37 (by decide +kernel) (by decide +kernel)⟩
theorem okF_16 : okF (0, 83, 1, 6) := ⟨by decide, by decide, bg 40 (by decide +kernel) (by decide +kernel)⟩
theorem okF_17 : okF (0, 100, 1, 2) := ⟨by decide, by decide, bg 29 (by decide +kernel) (by decide +kernel)⟩
theorem okF_18 : okF (0, 130, 0, 14) := ⟨by decide, by decide, bg 83 (by decide +kernel) (by decide +kernel)⟩
theorem okF_19 : okF (0, 133, 0, 15) := ⟨by decide, by decide, bg 84 (by decide +kernel) (by decide +kernel)⟩
theorem okF_20 : okF (1, 9, 1, 6) := ⟨by decide, by decide, bg 39 (by decide +kernel) (by decide +kernel)⟩
theorem okF_21 : okF (1, 15, 1, 2) := ⟨by decide, by decide, bg 28 (by decide +kernel) (by decide +kernel)⟩
theorem okF_22 : okF (1, 19, 1, 3) := ⟨by decide, by decide, bg 31 (by decide +kernel) (by decide +kernel)⟩
theorem okF_23 : okF (1, 22, 1, 4) := ⟨by decide, by decide, bg 34 (by decide +kernel) (by decide +kernel)⟩
theorem okF_24 : okF (1, 25, 1, 5) := ⟨by decide, by decide, bg 36 (by decide +kernel) (by decide +kernel)⟩
theorem okF_25 : okF (1, 28, 1, 1) := ⟨by decide, by decide, bg 26 (by decide +kernel) (by decide +kernel)⟩
theorem okF_26 : okF (1, 32, 1, 0) := ⟨by decide, by decide, bg 24 (by decide +kernel) (by decide +kernel)⟩
theorem okF_27 : okF (2, 9, 2, 0) := ⟨by decide, by decide, bg 118 (by decide +kernel) (by decide +kernel)⟩
theorem okF_28 : okF (2, 13, 2, 1) := ⟨by decide, by decide, bg 119 (by decide +kernel) (by decide +kernel)⟩
theorem okF_29 : okF (2, 16, 2, 2) := ⟨by decide, by decide, bg 120 (by decide +kernel) (by decide +kernel)⟩
theorem okF_30 : okF (2, 19, 2, 3) := ⟨by decide, by decide, bg 121 (by decide +kernel) (by decide +kernel)⟩
theorem okF_31 : okF (2, 25, 2, 4) := ⟨by decide, by decide, bg 122 (by decide +kernel) (by decide +kernel)⟩
theorem okF_32 : okF (2, 33, 2, 7) := ⟨by decide, by decide, bg 125 (by decide +kernel) (by decide +kernel)⟩
theorem okF_33 : okF (2, 37, 2, 8) := ⟨by decide, by decide, bg 126 (by decide +kernel) (by decide +kernel)⟩
theorem okF_34 : okF (2, 46, 2, 5) := ⟨by decide, by decide, bg 123 (by decide +kernel) (by decide +kernel)⟩
theorem okF_35 : okF (2, 51, 2, 9) := ⟨by decide, by decide, bg 127 (by decide +kernel) (by decide +kernel)⟩
theorem okF_36 : okF (2, 81, 1, 0) := ⟨by decide, by decide, bg 25 (by decide +kernel) (by decide +kernel)⟩
theorem okF_37 : okF (2, 88, 1, 1) := ⟨by decide, by decide, bg 27 (by decide +kernel) (by decide +kernel)⟩
theorem okF_38 : okF (2, 96, 1, 5) := ⟨by decide, by decide, bg 38 (by decide +kernel) (by decide +kernel)⟩
theorem okF_39 : okF (2, 99, 1, 3) := ⟨by decide, by decide, bg 33 (by decide +kernel) (by decide +kernel)⟩
theorem okF_40 : okF (2, 102, 1, 4) := ⟨by decide, by decide, bg 35 (by decide +kernel) (by decide +kernel)⟩
theorem okF_41 : okF (2, 105, 1, 2) := ⟨by decide, by decide, bg 30 (by decide +kernel) (by decide +kernel)⟩
theorem okF_42 : okF (2, 108, 1, 6) := ⟨by decide, by decide, bg 41 (by decide +kernel) (by decide +kernel)⟩
theorem okF_43 : okF (2, 123, 2, 6) := ⟨by decide, by decide, bg 124 (by decide +kernel) (by decide +kernel)⟩
theorem okF_44 : okF (2, 132, 0, 1) := ⟨by decide, by decide, bg 70 (by decide +kernel) (by decide +kernel)⟩
theorem okF_45 : okF (2, 135, 0, 0) := ⟨by decide, by decide, bg 68 (by decide +kernel) (by decide +kernel)⟩
theorem okF_46 : okF (3, 7, 3, 1) := ⟨by decide, by decide, bg 424 (by decide +kernel) (by decide +kernel)⟩
theorem okF_47 : okF (3, 13, 3, 2) := ⟨by decide, by decide, bg 425 (by decide +kernel) (by decide +kernel)⟩
theorem okF_48 : okF (3, 16, 3, 3) := ⟨by decide, by decide, bg 426 (by decide +kernel) (by decide +kernel)⟩
theorem okF_49 : okF (3, 20, 3, 4) := ⟨by decide, by decide, bg 427 (by decide +kernel) (by decide +kernel)⟩
theorem okF_50 : okF (3, 23, 3, 5) := ⟨by decide, by decide, bg 428 (by decide +kernel) (by decide +kernel)⟩
theorem okF_51 : okF (3, 26, 3, 6) := ⟨by decide, by decide, bg 429 (by decide +kernel) (by decide +kernel)⟩
theorem okF_52 : okF (3, 29, 3, 7) := ⟨by decide, by decide, bg 430 (by decide +kernel) (by decide +kernel)⟩
theorem okF_53 : okF (3, 32, 3, 8) := ⟨by decide, by decide, bg 431 (by decide +kernel) (by decide +kernel)⟩
theorem okF_54 : okF (3, 35, 3, 9) := ⟨by decide, by decide, bg 432 (by decide +kernel) (by decide +kernel)⟩
theorem okF_55 : okF (3, 38, 3, 12) := ⟨by decide, by decide, bg 435 (by decide +kernel) (by decide +kernel)⟩
theorem okF_56 : okF (3, 42, 3, 13) := ⟨by decide, by decide, bg 436 (by decide +kernel) (by decide +kernel)⟩
theorem okF_57 : okF (3, 45, 3, 15) := ⟨by decide, by decide, bg 438 (by decide +kernel) (by decide +kernel)⟩
theorem okF_58 : okF (3, 48, 3, 17) := ⟨by decide, by decide, bg 440 (by decide +kernel) (by decide +kernel)⟩
theorem okF_59 : okF (3, 51, 3, 18) := ⟨by decide, by decide, bg 441 (by decide +kernel) (by decide +kernel)⟩
theorem okF_60 : okF (3, 54, 3, 20) := ⟨by decide, by decide, bg 443 (by decide +kernel) (by decide +kernel)⟩
theorem okF_61 : okF (3, 61, 3, 0) := ⟨by decide, by decide, bg 423 (by decide +kernel) (by decide +kernel)⟩
theorem okF_62 : okF (3, 69, 3, 14) := ⟨by decide, by decide, bg 437 (by decide +kernel) (by decide +kernel)⟩
theorem okF_63 : okF (3, 73, 3, 19) := ⟨by decide, by decide, bg 442 (by decide +kernel) (by decide +kernel)⟩
theorem okF_64 : okF (3, 84, 3, 16) := ⟨by decide, by decide, bg 439 (by decide +kernel) (by decide +kernel)⟩
theorem okF_65 : okF (3, 107, 3, 11) := ⟨by decide, by decide, bg 434 (by decide +kernel) (by decide +kernel)⟩
theorem okF_66 : okF (3, 128, 3, 10) := ⟨by decide, by decide, bg 433 (by decide +kernel) (by decide +kernel)⟩
theorem okFc_0 : ∀ e ∈ ([(0, 9, 0, 0), (0, 15, 0, 1), (0, 19, 0, 4), (0, 23, 0, 5), (0, 26, 0, 6), (0, 29, 0, 7), (0, 34, 0, 8), (0, 37, 0, 9), (0, 40, 0, 10), (0, 43, 0, 11), (0, 46, 0, 12), (0, 49, 0, 13), (0, 58, 0, 3), (0, 62, 0, 2), (0, 69, 1, 3), (0, 80, 1, 5), (0, 83, 1, 6), (0, 100, 1, 2), (0, 130, 0, 14), (0, 133, 0, 15), (1, 9, 1, 6), (1, 15, 1, 2), (1, 19, 1, 3), (1, 22, 1, 4), (1, 25, 1, 5), (1, 28, 1, 1), (1, 32, 1, 0), (2, 9, 2, 0), (2, 13, 2, 1), (2, 16, 2, 2)] : List (Nat × Nat × Nat × Nat)), okF e := List.forall_mem_cons.mpr ⟨okF_0, List.forall_mem_cons.mpr ⟨okF_1, List.forall_mem_cons.mpr ⟨okF_2, List.forall_mem_cons.mpr ⟨okF_3, List.forall_mem_cons.mpr ⟨okF_4, List.forall_mem_cons.mpr ⟨okF_5, List.forall_mem_cons.mpr ⟨okF_6, List.forall_mem_cons.mpr ⟨okF_7, List.forall_mem_cons.mpr ⟨okF_8, List.forall_mem_cons.mpr ⟨okF_9, List.forall_mem_cons.mpr ⟨okF_10, List.forall_mem_cons.mpr ⟨okF_11, List.forall_mem_cons.mpr ⟨okF_12, List.forall_mem_cons.mpr ⟨okF_13, List.forall_mem_cons.mpr ⟨okF_14, List.forall_mem_cons.mpr ⟨okF_15, List.forall_mem_cons.mpr ⟨okF_16, List.forall_mem_cons.mpr ⟨okF_17, List.forall_mem_cons.mpr ⟨okF_18, List.forall_mem_cons.mpr ⟨okF_19, List.forall_mem_cons.mpr ⟨okF_20, List.forall_mem_cons.mpr ⟨okF_21, List.forall_mem_cons.mpr ⟨okF_22, List.forall_mem_cons.mpr ⟨okF_23, List.forall_mem_cons.mpr ⟨okF_24, List.forall_mem_cons.mpr ⟨okF_25, List.forall_mem_cons.mpr ⟨okF_26, List.forall_mem_cons.mpr ⟨okF_27, List.forall_mem_cons.mpr ⟨okF_28, List.forall_mem_cons.mpr ⟨okF_29, fun _ h => absurd h List.not_mem_nil⟩⟩⟩⟩⟩⟩⟩⟩⟩⟩⟩⟩⟩⟩⟩⟩⟩⟩⟩⟩⟩⟩⟩⟩⟩⟩⟩⟩⟩⟩
theorem okFc_1 : ∀ e ∈ ([(2, 19, 2, 3), (2, 25, 2, 4), (2, 33, 2, 7), (2, 37, 2, 8), (2, 46, 2, 5), (2, 51, 2, 9), (2, 81, 1, 0), (2, 88, 1, 1), (2, 96, 1, 5), (2, 99, 1, 3), (2, 102, 1, 4), (2, 105, 1, 2), (2, 108, 1, 6), (2, 123, 2, 6), (2, 132, 0, 1), (2, 135, 0, 0), (3, 7, 3, 1), (3, 13, 3, 2), (3, 16, 3, 3), (3, 20, 3, 4), (3, 23, 3, 5), (3, 26, 3, 6), (3, 29, 3, 7), (3, 32, 3, 8), (3, 35, 3, 9), (3, 38, 3, 12), (3, 42, 3, 13), (3, 45, 3, 15), (3, 48, 3, 17), (3, 51, 3, 18)] : List (Nat × Nat × Nat × Nat)), okF e := List.forall_mem_cons.mpr ⟨okF_30, List.forall_mem_cons.mpr ⟨okF_31, List.forall_mem_cons.mpr ⟨okF_32, List.forall_mem_cons.mpr ⟨okF_33, List.forall_mem_cons.mpr ⟨okF_34, List.forall_mem_cons.mpr ⟨okF_35, List.forall_mem_cons.mpr ⟨okF_36, List.forall_mem_cons.mpr ⟨okF_37, List.forall_mem_cons.mpr ⟨okF_38, List.forall_mem_cons.mpr ⟨okF_39, List.forall_mem_cons.mpr ⟨okF_40, List.forall_mem_cons.mpr ⟨okF_41, List.forall_mem_cons.mpr ⟨okF_42, List.forall_mem_cons.mpr ⟨okF_43, List.forall_mem_cons.mpr ⟨okF_44, List.forall_mem_cons.mpr ⟨okF_45, List.forall_mem_cons.mpr ⟨okF_46, List.forall_mem_cons.mpr ⟨okF_47, List.forall_mem_cons.mpr ⟨okF_48, List.forall_mem_cons.mpr ⟨okF_49, List.forall_mem_cons.mpr ⟨okF_50, List.forall_mem_cons.mpr ⟨okF_51, List.forall_mem_cons.mpr ⟨okF_52, List.forall_mem_cons.mpr ⟨okF_53, List.forall_mem_cons.mpr ⟨okF_54, List.forall_mem_cons.mpr ⟨okF_55, List.forall_mem_cons.mpr ⟨okF_56, List.forall_mem_cons.mpr ⟨okF_57, List.forall_mem_cons.mpr ⟨okF_58, List.forall_mem_cons.mpr ⟨okF_59, fun _ h => absurd h List.not_mem_nil⟩⟩⟩⟩⟩⟩⟩⟩⟩⟩⟩⟩⟩⟩⟩⟩⟩⟩⟩⟩⟩⟩⟩⟩⟩⟩⟩⟩⟩⟩
theorem okFc_2 : ∀ e ∈ ([(3, 54, 3, 20), (3, 61, 3, 0), (3, 69, 3, 14), (3, 73, 3, 19), (3, 84, 3, 16), (3, 107, 3, 11), (3, 128, 3, 10)] : List (Nat × Nat × Nat × Nat)), okF e := List.forall_mem_cons.mpr ⟨okF_60, List.forall_mem_cons.mpr ⟨okF_61, List.forall_mem_cons.mpr ⟨okF_62, List.forall_mem_cons.mpr ⟨okF_63, List.forall_mem_cons.mpr ⟨okF_64, List.forall_mem_cons.mpr ⟨okF_65, List.forall_mem_cons.mpr ⟨okF_66, fun _ h => absurd h List.not_mem_nil⟩⟩⟩⟩⟩⟩⟩
theorem FTb_ok : ∀ e ∈ FTb, okF e := (List.forall_mem_append.mpr ⟨okFc_0, (List.forall_mem_append.mpr ⟨okFc_1, okFc_2⟩)⟩)
def CTb : List (Nat × Nat × Int) := [(0, 111, 1000000), (2, 40, 100000), (2, 45, -2000000002), (2, 50, -2000000004), (2, 62, -2000000003), (2, 77, -2000000001), (2, 95, -2000000005), (3, 120, -2000000002), (3, 121, -2000000004), (3, 134, -2000000005), (3, 147, -2000000003), (3, 155, -2000000001), (4, 265, 1431655765), (4, 266, 858993459), (4, 267, 252645135)]
def okC (e : Nat × Nat × Int) : Prop := Cond.constant (cnm e.1) e.2.1 (Int32.ofInt e.2.2) ∈ BIG ∧ -2147483648 ≤ e.2.2 ∧ e.2.2 < 2147483648
theorem okC_0 : okC (0, 111, 1000000) := ⟨bg 221 (by decide +kernel) (by decide +kernel), by decide, by decide⟩
theorem okC_1 : okC (2, 40, 100000) := ⟨bg 153 (by decide +kernel) (by decide +kernel), by decide, by decide⟩
theorem okC_2 : okC (2, 45, -2000000002) := ⟨bg 157 (by decide +kernel) (by decide +kernel), by decide, by decide⟩
theorem okC_3 : okC (2, 50, -2000000004) := ⟨bg 158 (by decide +kernel) (by decide +kernel), by decide, by decide⟩
theorem okC_4 : okC (2, 62, -2000000003) := ⟨bg 173 (by decide +kernel) (by decide +kernel), by decide, by decide⟩
theorem okC_5 : okC (2, 77, -2000000001) := ⟨bg 290 (by decide +kernel) (by decide +kernel), by decide, by decide⟩
theorem okC_6 : okC (2, 95, -2000000005) := ⟨bg 278 (by decide +kernel) (by decide +kernel), by decide, by decide⟩
theorem okC_7 : okC (3, 120, -2000000002) := ⟨bg 497 (by decide +kernel) (by decide +kernel), by decide, by decide⟩
theorem okC_8 : okC (3, 121, -2000000004) := ⟨bg 498 (by decide +kernel) (by decide +kernel), by decide, by decide⟩
theorem okC_9 : okC (3, 134, -2000000005) := ⟨bg 565 (by decide +kernel) (by decide +kernel), by decide, by decide⟩
theorem okC_10 : okC (3, 147, -2000000003) := ⟨bg 517 (by decide +kernel) (by decide +kernel), by decide, by decide⟩
theorem okC_11 : okC (3, 155, -2000000001) := ⟨bg 574 (by decide +kernel) (by decide +kernel), by decide, by decide⟩
theorem okC_12 : okC (4, 265, 1431655765) := ⟨bg 326 (by decide +kernel) (by decide +kernel), by decide, by decide⟩
theorem okC_13 : okC (4, 266, 858993459) := ⟨bg 327 (by decide +kernel) (by decide +kernel), by decide, by decide⟩
theorem okC_14 : okC (4, 267, 252645135) := ⟨bg 328 (by decide +kernel) (by decide +kernel), by decide, by decide⟩
theorem okCc_0 : ∀ e ∈ ([(0, 111, 1000000), (2, 40, 100000), (2, 45, -2000000002), (2, 50, -2000000004), (2, 62, -2000000003), (2, 77, -2000000001), (2, 95, -2000000005), (3, 120, -2000000002), (3, 121, -2000000004), (3, 134, -2000000005), (3, 147, -2000000003), (3, 155, -2000000001), (4, 265, 1431655765), (4, 266, 858993459), (4, 267, 252645135)] : List (Nat × Nat × Int)), okC e := List.forall_mem_cons.mpr ⟨okC_0, List.forall_mem_cons.mpr ⟨okC_1, List.forall_mem_cons.mpr ⟨okC_2, List.forall_mem_cons.mpr ⟨okC_3, List.forall_mem_cons.mpr ⟨okC_4, List.forall_mem_cons.mpr ⟨okC_5, List.forall_mem_cons.mpr ⟨okC_6, List.forall_mem_cons.mpr ⟨okC_7, List.forall_mem_cons.mpr ⟨okC_8, List.forall_mem_cons.mpr ⟨okC_9, List.forall_mem_cons.mpr ⟨okC_10, List.forall_mem_cons.mpr ⟨okC_11, List.forall_mem_cons.mpr ⟨okC_12, List.forall_mem_cons.mpr ⟨okC_13, List.forall_mem_cons.mpr ⟨okC_14, fun _ h => absurd h List.not_mem_nil⟩⟩⟩⟩⟩⟩⟩⟩⟩⟩⟩⟩⟩⟩⟩
theorem CTb_ok : ∀ e ∈ CTb, okC e := okCc_0
def DTb : List (Nat × Nat × Int) := [(0, 148, -1), (2, 147, -2000000001), (2, 149, -2000000002), (2, 163, -100000), (2, 165, 100000), (2, 198, 2), (3, 114, 8), (3, 116, -100000), (3, 118, 100000), (3, 122, 4), (3, 124, -3), (3, 126, 3), (3, 135, 9), (3, 137, 2), (3, 143, -1000), (3, 145, 1000), (3, 159, 5), (3, 175, -2000000001), (3, 177, -2000000002)]
def okD (e : Nat × Nat × Int) : Prop := Cond.constantLong (cnm e.1) e.2.1 (Int64.ofInt e.2.2) ∈ BIG ∧ -9223372036854775808 ≤ e.2.2 ∧ e.2.2 < 9223372036854775808
theorem okD_0 : okD (0, 148, -1) := ⟨bg 249 (by decide +kernel) (by decide +kernel), by decide, by decide⟩
theorem okD_1 : okD (2, 147, -2000000001) := ⟨bg 378 (by decide +kernel) (by decide +kernel), by decide, by decide⟩
theorem okD_2 : okD (2, 149, -2000000002) := ⟨bg 379 (by decide +kernel) (by decide +kernel), by decide, by decide⟩
theorem okD_3 : okD (2, 163, -100000) := ⟨bg 415 (by decide +kernel) (by decide +kernel), by decide, by decide⟩
theorem okD_4 : okD (2, 165, 100000) := ⟨bg 416 (by decide +kernel) (by decide +kernel), by decide, by decide⟩
theorem okD_5 : okD (2, 198, 2) := ⟨bg 370 (by decide +kernel) (by decide +kernel), by decide, by decide⟩
theorem okD_6 : okD (3, 114, 8) := ⟨bg 583 (by decide +kernel) (by decide +kernel), by decide, by decide⟩
theorem okD_7 : okD (3, 116, -100000) := ⟨bg 492 (by decide +kernel) (by decide +kernel), by decide, by decide⟩
theorem okD_8 : okD (3, 118, 100000) := ⟨bg 493 (by decide +kernel) (by decide +kernel), by decide, by decide⟩
theorem okD_9 : okD (3, 122, 4) := ⟨bg 503 (by decide +kernel) (by decide +kernel), by decide, by decide⟩
theorem okD_10 : okD (3, 124, -3) := ⟨bg 504 (by decide +kernel) (by decide +kernel), by decide, by decide⟩
theorem okD_11 : okD (3, 126, 3) := ⟨bg 505 (by decide +kernel) (by decide +kernel), by decide, by decide⟩
theorem okD_12 : okD (3, 135, 9) := ⟨bg 514 (by decide +kernel) (by decide +kernel), by decide, by decide⟩
theorem okD_13 : okD (3, 137, 2) := ⟨bg 510 (by decide +kernel) (by decide +kernel), by decide, by decide⟩
theorem okD_14 : okD (3, 143, -1000) := ⟨bg 515 (by decide +kernel) (by decide +kernel), by decide, by decide⟩
theorem okD_15 : okD (3, 145, 1000) := ⟨bg 516 (by decide +kernel) (by decide +kernel), by decide, by decide⟩
theorem okD_16 : okD (3, 159, 5) := ⟨bg 600 (by decide +kernel) (by decide +kernel), by decide, by decide⟩
theorem okD_17 : okD (3, 175, -2000000001) := ⟨bg 635 (by decide +kernel) (by decide +kernel), by decide, by decide⟩
theorem okD_18 : okD (3, 177, -2000000002) := ⟨bg 636 (by decide +kernel) (by decide +kernel), by decide, by decide⟩
theorem okDc_0 : ∀ e ∈ ([(0, 148, -1), (2, 147, -2000000001), (2, 149, -2000000002), (2, 163, -100000), (2, 165, 100000), (2, 198, 2), (3, 114, 8), (3, 116, -100000), (3, 118, 100000), (3, 122, 4), (3, 124, -3), (3, 126, 3), (3, 135, 9), (3, 137, 2), (3, 143, -1000), (3, 145, 1000), (3, 159, 5), (3, 175, -2000000001), (3, 177, -2000000002)] : List (Nat × Nat × Int)), okD e := List.forall_mem_cons.mpr ⟨okD_0, List.forall_mem_cons.mpr ⟨okD_1, List.forall_mem_cons.mpr ⟨okD_2, List.forall_mem_cons.mpr ⟨okD_3, List.forall_mem_cons.mpr ⟨okD_4, List.forall_mem_cons.mpr ⟨okD_5, List.forall_mem_cons.mpr ⟨okD_6, List.forall_mem_cons.mpr ⟨okD_7, List.forall_mem_cons.mpr ⟨okD_8, List.forall_mem_cons.mpr ⟨okD_9, List.forall_mem_cons.mpr ⟨okD_10, List.forall_mem_cons.mpr ⟨okD_11, List.forall_mem_cons.mpr ⟨okD_12, List.forall_mem_cons.mpr ⟨okD_13, List.forall_mem_cons.mpr ⟨okD_14, List.forall_mem_cons.mpr ⟨okD_15, List.forall_mem_cons.mpr ⟨okD_16, List.forall_mem_cons.mpr ⟨okD_17, List.forall_mem_cons.mpr ⟨okD_18, fun _ h => absurd h List.not_mem_nil⟩⟩⟩⟩⟩⟩⟩⟩⟩⟩⟩⟩⟩⟩⟩⟩⟩⟩⟩
theorem DTb_ok : ∀ e ∈ DTb, okD e := okDc_0
def okM (r : mM) : Prop := (∀ e ∈ r.1, decode r.2.1 e.1 = .ok (e.2.1, e.2.2)) ∧ (r.2.2.2.2.2.1 < 7 → Cond.code r.2.2.1 r.2.1 r.2.2.2.1 r.2.2.2.2.1 ∈ BIG ∧ plainFor r.2.2.1 = true ∧ r.2.2.1.cls = cnm r.2.2.2.2.2.1 ∧ Cond.initialized r.2.2.1.cls ∈ BIG ∧ r.2.2.1.cls ≠ "java/lang/invoke/MethodHandle" ∧ r.2.2.1.cls ≠ "java/lang/invoke/VarHandle" ∧ (parseMethodDescriptor r.2.2.1.desc).map (fun d => d.parameters.length) = some r.2.2.2.2.2.2.2.1)
theorem okM_0 : okM mX0_load := ⟨jX0_load, fun _ => ⟨bg 201 (by decide +kernel) (by decide +kernel), by decide +kernel, by decide +kernel, bg 3 (by decide +kernel) (by decide +kernel), by decide +kernel, by decide +kernel, by decide +kernel⟩⟩
theorem okM_1 : okM mX0_addRow := ⟨jX0_addRow, fun _ => ⟨bg 208 (by decide +kernel) (by decide +kernel), by decide +kernel, by decide +kernel, bg 3 (by decide +kernel) (by decide +kernel), by decide +kernel, by decide +kernel, by decide +kernel⟩⟩
theorem okM_2 : okM mX0_copy := ⟨jX0_copy, fun _ => ⟨bg 395 (by decide +kernel) (by decide +kernel), by decide +kernel, by decide +kernel, bg 3 (by decide +kernel) (by decide +kernel), by decide +kernel, by decide +kernel, by decide +kernel⟩⟩
theorem okM_3 : okM mX0_drop := ⟨jX0_drop, fun _ => ⟨bg 402 (by decide +kernel) (by decide +kernel), by decide +kernel, by decide +kernel, bg 3 (by decide +kernel) (by decide +kernel), by decide +kernel, by decide +kernel, by decide +kernel⟩⟩
theorem okM_4 : okM mX0_areMustsMet := ⟨jX0_areMustsMet, fun _ => ⟨bg 268 (by decide +kernel) (by decide +kernel), by decide +kernel, by decide +kernel, bg 3 (by decide +kernel) (by decide +kernel), by decide +kernel, by decide +kernel, by decide +kernel⟩⟩
theorem okM_5 : okM mX0_solve := ⟨jX0_solve, fun _ => ⟨bg 276 (by decide +kernel) (by decide +kernel), by decide +kernel, by decide +kernel, bg 3 (by decide +kernel) (by decide +kernel), by decide +kernel, by decide +kernel, by decide +kernel⟩⟩
theorem okM_6 : okM mX0_missOf := ⟨jX0_missOf, fun _ => ⟨bg 340 (by decide +kernel) (by decide +kernel), by decide +kernel, by decide +kernel, bg 3 (by decide +kernel) (by decide +kernel), by decide +kernel, by decide +kernel, by decide +kernel⟩⟩
theorem okM_7 : okM mX0_lessenCost := ⟨jX0_lessenCost, fun _ => ⟨bg 220 (by decide +kernel) (by decide +kernel), by decide +kernel, by decide +kernel, bg 3 (by decide +kernel) (by decide +kernel), by decide +kernel, by decide +kernel, by decide +kernel⟩⟩
theorem okM_8 : okM mX0_findEntering := ⟨jX0_findEntering, fun _ => ⟨bg 225 (by decide +kernel) (by decide +kernel), by decide +kernel, by decide +kernel, bg 3 (by decide +kernel) (by decide +kernel), by decide +kernel, by decide +kernel, by decide +kernel⟩⟩
theorem okM_9 : okM mX0_findGrowth := ⟨jX0_findGrowth, fun _ => ⟨bg 229 (by decide +kernel) (by decide +kernel), by decide +kernel, by decide +kernel, bg 3 (by decide +kernel) (by decide +kernel), by decide +kernel, by decide +kernel, by decide +kernel⟩⟩
theorem okM_10 : okM mX0_slopeOf := ⟨jX0_slopeOf, fun _ => ⟨bg 236 (by decide +kernel) (by decide +kernel), by decide +kernel, by decide +kernel, bg 3 (by decide +kernel) (by decide +kernel), by decide +kernel, by decide +kernel, by decide +kernel⟩⟩
theorem okM_11 : okM mX0_lessens := ⟨jX0_lessens, fun _ => ⟨bg 240 (by decide +kernel) (by decide +kernel), by decide +kernel, by decide +kernel, bg 3 (by decide +kernel) (by decide +kernel), by decide +kernel, by decide +kernel, by decide +kernel⟩⟩
theorem okM_12 : okM mX0_findLeaving := ⟨jX0_findLeaving, fun _ => ⟨bg 244 (by decide +kernel) (by decide +kernel), by decide +kernel, by decide +kernel, bg 3 (by decide +kernel) (by decide +kernel), by decide +kernel, by decide +kernel, by decide +kernel⟩⟩
theorem okM_13 : okM mX0_firstAtZero := ⟨jX0_firstAtZero, fun _ => ⟨bg 248 (by decide +kernel) (by decide +kernel), by decide +kernel, by decide +kernel, bg 3 (by decide +kernel) (by decide +kernel), by decide +kernel, by decide +kernel, by decide +kernel⟩⟩
theorem okM_14 : okM mX0_pass := ⟨jX0_pass, fun _ => ⟨bg 253 (by decide +kernel) (by decide +kernel), by decide +kernel, by decide +kernel, bg 3 (by decide +kernel) (by decide +kernel), by decide +kernel, by decide +kernel, by decide +kernel⟩⟩
theorem okM_15 : okM mX0_swap := ⟨jX0_swap, fun _ => ⟨bg 260 (by decide +kernel) (by decide +kernel), by decide +kernel, by decide +kernel, bg 3 (by decide +kernel) (by decide +kernel), by decide +kernel, by decide +kernel, by decide +kernel⟩⟩
theorem okM_16 : okM mX0_putIn := ⟨jX0_putIn, fun _ => ⟨bg 264 (by decide +kernel) (by decide +kernel), by decide +kernel, by decide +kernel, bg 3 (by decide +kernel) (by decide +kernel), by decide +kernel, by decide +kernel, by decide +kernel⟩⟩
theorem okM_17 : okM mX1_become := ⟨jX1_become, fun _ => ⟨bg 185 (by decide +kernel) (by decide +kernel), by decide +kernel, by decide +kernel, bg 2 (by decide +kernel) (by decide +kernel), by decide +kernel, by decide +kernel, by decide +kernel⟩⟩
theorem okM_18 : okM mX1_counts := ⟨jX1_counts, fun _ => ⟨bg 193 (by decide +kernel) (by decide +kernel), by decide +kernel, by decide +kernel, bg 2 (by decide +kernel) (by decide +kernel), by decide +kernel, by decide +kernel, by decide +kernel⟩⟩
theorem okM_19 : okM mX1_costAbove := ⟨jX1_costAbove, fun _ => ⟨bg 212 (by decide +kernel) (by decide +kernel), by decide +kernel, by decide +kernel, bg 2 (by decide +kernel) (by decide +kernel), by decide +kernel, by decide +kernel, by decide +kernel⟩⟩
theorem okM_20 : okM mX1_costBelow := ⟨jX1_costBelow, fun _ => ⟨bg 216 (by decide +kernel) (by decide +kernel), by decide +kernel, by decide +kernel, bg 2 (by decide +kernel) (by decide +kernel), by decide +kernel, by decide +kernel, by decide +kernel⟩⟩
theorem okM_21 : okM mX2_edge := ⟨jX2_edge, fun _ => ⟨bg 152 (by decide +kernel) (by decide +kernel), by decide +kernel, by decide +kernel, bg 1 (by decide +kernel) (by decide +kernel), by decide +kernel, by decide +kernel, by decide +kernel⟩⟩
theorem okM_22 : okM mX2_factor := ⟨jX2_factor, fun _ => ⟨bg 162 (by decide +kernel) (by decide +kernel), by decide +kernel, by decide +kernel, bg 1 (by decide +kernel) (by decide +kernel), by decide +kernel, by decide +kernel, by decide +kernel⟩⟩
theorem okM_23 : okM mX2_wish := ⟨jX2_wish, fun _ => ⟨bg 166 (by decide +kernel) (by decide +kernel), by decide +kernel, by decide +kernel, bg 1 (by decide +kernel) (by decide +kernel), by decide +kernel, by decide +kernel, by decide +kernel⟩⟩
theorem okM_24 : okM mX2_side := ⟨jX2_side, fun _ => ⟨bg 285 (by decide +kernel) (by decide +kernel), by decide +kernel, by decide +kernel, bg 1 (by decide +kernel) (by decide +kernel), by decide +kernel, by decide +kernel, by decide +kernel⟩⟩
theorem okM_25 : okM mX2_take := ⟨jX2_take, fun _ => ⟨bg 294 (by decide +kernel) (by decide +kernel), by decide +kernel, by decide +kernel, bg 1 (by decide +kernel) (by decide +kernel), by decide +kernel, by decide +kernel, by decide +kernel⟩⟩
theorem okM_26 : okM mX2_hide := ⟨jX2_hide, fun _ => ⟨bg 306 (by decide +kernel) (by decide +kernel), by decide +kernel, by decide +kernel, bg 1 (by decide +kernel) (by decide +kernel), by decide +kernel, by decide +kernel, by decide +kernel⟩⟩
theorem okM_27 : okM mX2_drag := ⟨jX2_drag, fun _ => ⟨bg 310 (by decide +kernel) (by decide +kernel), by decide +kernel, by decide +kernel, bg 1 (by decide +kernel) (by decide +kernel), by decide +kernel, by decide +kernel, by decide +kernel⟩⟩
theorem okM_28 : okM mX2_strength := ⟨jX2_strength, fun _ => ⟨bg 314 (by decide +kernel) (by decide +kernel), by decide +kernel, by decide +kernel, bg 1 (by decide +kernel) (by decide +kernel), by decide +kernel, by decide +kernel, by decide +kernel⟩⟩
theorem okM_29 : okM mX2_told := ⟨jX2_told, fun _ => ⟨bg 318 (by decide +kernel) (by decide +kernel), by decide +kernel, by decide +kernel, bg 1 (by decide +kernel) (by decide +kernel), by decide +kernel, by decide +kernel, by decide +kernel⟩⟩
theorem okM_30 : okM mX2_count := ⟨jX2_count, fun _ => ⟨bg 322 (by decide +kernel) (by decide +kernel), by decide +kernel, by decide +kernel, bg 1 (by decide +kernel) (by decide +kernel), by decide +kernel, by decide +kernel, by decide +kernel⟩⟩
theorem okM_31 : okM mX2_quarrel := ⟨jX2_quarrel, fun _ => ⟨bg 347 (by decide +kernel) (by decide +kernel), by decide +kernel, by decide +kernel, bg 1 (by decide +kernel) (by decide +kernel), by decide +kernel, by decide +kernel, by decide +kernel⟩⟩
theorem okM_32 : okM mX2_at := ⟨jX2_at, fun _ => ⟨bg 351 (by decide +kernel) (by decide +kernel), by decide +kernel, by decide +kernel, bg 1 (by decide +kernel) (by decide +kernel), by decide +kernel, by decide +kernel, by decide +kernel⟩⟩
theorem okM_33 : okM mX2_pixel := ⟨jX2_pixel, fun _ => ⟨bg 365 (by decide +kernel) (by decide +kernel), by decide +kernel, by decide +kernel, bg 1 (by decide +kernel) (by decide +kernel), by decide +kernel, by decide +kernel, by decide +kernel⟩⟩
theorem okM_34 : okM mX2_off := ⟨jX2_off, fun _ => ⟨bg 377 (by decide +kernel) (by decide +kernel), by decide +kernel, by decide +kernel, bg 1 (by decide +kernel) (by decide +kernel), by decide +kernel, by decide +kernel, by decide +kernel⟩⟩
theorem okM_35 : okM mX2_cost := ⟨jX2_cost, fun _ => ⟨bg 383 (by decide +kernel) (by decide +kernel), by decide +kernel, by decide +kernel, bg 1 (by decide +kernel) (by decide +kernel), by decide +kernel, by decide +kernel, by decide +kernel⟩⟩
theorem okM_36 : okM mX2_why := ⟨jX2_why, fun _ => ⟨bg 387 (by decide +kernel) (by decide +kernel), by decide +kernel, by decide +kernel, bg 1 (by decide +kernel) (by decide +kernel), by decide +kernel, by decide +kernel, by decide +kernel⟩⟩
theorem okM_37 : okM mX2_stay := ⟨jX2_stay, fun _ => ⟨bg 406 (by decide +kernel) (by decide +kernel), by decide +kernel, by decide +kernel, bg 1 (by decide +kernel) (by decide +kernel), by decide +kernel, by decide +kernel, by decide +kernel⟩⟩
theorem okM_38 : okM mX2_move := ⟨jX2_move, fun _ => ⟨bg 410 (by decide +kernel) (by decide +kernel), by decide +kernel, by decide +kernel, bg 1 (by decide +kernel) (by decide +kernel), by decide +kernel, by decide +kernel, by decide +kernel⟩⟩
theorem okM_39 : okM mX2_settle := ⟨jX2_settle, fun _ => ⟨bg 414 (by decide +kernel) (by decide +kernel), by decide +kernel, by decide +kernel, bg 1 (by decide +kernel) (by decide +kernel), by decide +kernel, by decide +kernel, by decide +kernel⟩⟩
theorem okM_40 : okM mX2_isWithin := ⟨jX2_isWithin, fun _ => ⟨bg 156 (by decide +kernel) (by decide +kernel), by decide +kernel, by decide +kernel, bg 1 (by decide +kernel) (by decide +kernel), by decide +kernel, by decide +kernel, by decide +kernel⟩⟩
theorem okM_41 : okM mX2_isStrength := ⟨jX2_isStrength, fun _ => ⟨bg 169 (by decide +kernel) (by decide +kernel), by decide +kernel, by decide +kernel, bg 1 (by decide +kernel) (by decide +kernel), by decide +kernel, by decide +kernel, by decide +kernel⟩⟩
theorem okM_42 : okM mX2_isPart := ⟨jX2_isPart, fun _ => ⟨bg 354 (by decide +kernel) (by decide +kernel), by decide +kernel, by decide +kernel, bg 1 (by decide +kernel) (by decide +kernel), by decide +kernel, by decide +kernel, by decide +kernel⟩⟩
theorem okM_43 : okM mX2_isEdge := ⟨jX2_isEdge, fun _ => ⟨bg 289 (by decide +kernel) (by decide +kernel), by decide +kernel, by decide +kernel, bg 1 (by decide +kernel) (by decide +kernel), by decide +kernel, by decide +kernel, by decide +kernel⟩⟩
theorem okM_44 : okM mX2_isWish := ⟨jX2_isWish, fun _ => ⟨bg 298 (by decide +kernel) (by decide +kernel), by decide +kernel, by decide +kernel, bg 1 (by decide +kernel) (by decide +kernel), by decide +kernel, by decide +kernel, by decide +kernel⟩⟩
theorem okM_45 : okM mX2_areAllZero := ⟨jX2_areAllZero, fun _ => ⟨bg 172 (by decide +kernel) (by decide +kernel), by decide +kernel, by decide +kernel, bg 1 (by decide +kernel) (by decide +kernel), by decide +kernel, by decide +kernel, by decide +kernel⟩⟩
theorem okM_46 : okM mX2_addWish := ⟨jX2_addWish, fun _ => ⟨bg 177 (by decide +kernel) (by decide +kernel), by decide +kernel, by decide +kernel, bg 1 (by decide +kernel) (by decide +kernel), by decide +kernel, by decide +kernel, by decide +kernel⟩⟩
theorem okM_47 : okM mX2_freeWish := ⟨jX2_freeWish, fun _ => ⟨bg 181 (by decide +kernel) (by decide +kernel), by decide +kernel, by decide +kernel, bg 1 (by decide +kernel) (by decide +kernel), by decide +kernel, by decide +kernel, by decide +kernel⟩⟩
theorem okM_48 : okM mX2_countWishes := ⟨jX2_countWishes, fun _ => ⟨bg 302 (by decide +kernel) (by decide +kernel), by decide +kernel, by decide +kernel, bg 1 (by decide +kernel) (by decide +kernel), by decide +kernel, by decide +kernel, by decide +kernel⟩⟩
theorem okM_49 : okM mX2_countUnmet := ⟨jX2_countUnmet, fun _ => ⟨bg 332 (by decide +kernel) (by decide +kernel), by decide +kernel, by decide +kernel, bg 1 (by decide +kernel) (by decide +kernel), by decide +kernel, by decide +kernel, by decide +kernel⟩⟩
theorem okM_50 : okM mX2_countingWishes := ⟨jX2_countingWishes, fun _ => ⟨bg 197 (by decide +kernel) (by decide +kernel), by decide +kernel, by decide +kernel, bg 1 (by decide +kernel) (by decide +kernel), by decide +kernel, by decide +kernel, by decide +kernel⟩⟩
theorem okM_51 : okM mX2_findSetting := ⟨jX2_findSetting, fun _ => ⟨bg 336 (by decide +kernel) (by decide +kernel), by decide +kernel, by decide +kernel, bg 1 (by decide +kernel) (by decide +kernel), by decide +kernel, by decide +kernel, by decide +kernel⟩⟩
theorem okM_52 : okM mX2_clashes := ⟨jX2_clashes, fun _ => ⟨bg 189 (by decide +kernel) (by decide +kernel), by decide +kernel, by decide +kernel, bg 1 (by decide +kernel) (by decide +kernel), by decide +kernel, by decide +kernel, by decide +kernel⟩⟩
theorem okM_53 : okM mX2_leastQuarrel := ⟨jX2_leastQuarrel, fun _ => ⟨bg 272 (by decide +kernel) (by decide +kernel), by decide +kernel, by decide +kernel, bg 1 (by decide +kernel) (by decide +kernel), by decide +kernel, by decide +kernel, by decide +kernel⟩⟩
theorem okM_54 : okM mX2_isNearerWithout := ⟨jX2_isNearerWithout, fun _ => ⟨bg 391 (by decide +kernel) (by decide +kernel), by decide +kernel, by decide +kernel, bg 1 (by decide +kernel) (by decide +kernel), by decide +kernel, by decide +kernel, by decide +kernel⟩⟩
theorem okM_55 : okM mX2_pixelOf := ⟨jX2_pixelOf, fun _ => ⟨bg 369 (by decide +kernel) (by decide +kernel), by decide +kernel, by decide +kernel, bg 1 (by decide +kernel) (by decide +kernel), by decide +kernel, by decide +kernel, by decide +kernel⟩⟩
theorem okM_56 : okM mX2_inLeastTerms := ⟨jX2_inLeastTerms, fun _ => ⟨bg 357 (by decide +kernel) (by decide +kernel), by decide +kernel, by decide +kernel, bg 1 (by decide +kernel) (by decide +kernel), by decide +kernel, by decide +kernel, by decide +kernel⟩⟩
theorem okM_57 : okM mX2_greatestDivisor := ⟨jX2_greatestDivisor, fun _ => ⟨bg 361 (by decide +kernel) (by decide +kernel), by decide +kernel, by decide +kernel, bg 1 (by decide +kernel) (by decide +kernel), by decide +kernel, by decide +kernel, by decide +kernel⟩⟩
theorem okM_58 : okM mX3_in := ⟨jX3_in, fun _ => ⟨bg 496 (by decide +kernel) (by decide +kernel), by decide +kernel, by decide +kernel, bg 4 (by decide +kernel) (by decide +kernel), by decide +kernel, by decide +kernel, by decide +kernel⟩⟩
theorem okM_59 : okM mX3_size := ⟨jX3_size, fun _ => ⟨bg 552 (by decide +kernel) (by decide +kernel), by decide +kernel, by decide +kernel, bg 4 (by decide +kernel) (by decide +kernel), by decide +kernel, by decide +kernel, by decide +kernel⟩⟩
theorem okM_60 : okM mX3_divisor := ⟨jX3_divisor, fun _ => ⟨bg 619 (by decide +kernel) (by decide +kernel), by decide +kernel, by decide +kernel, bg 4 (by decide +kernel) (by decide +kernel), by decide +kernel, by decide +kernel, by decide +kernel⟩⟩
theorem okM_61 : okM mX3_putRow := ⟨jX3_putRow, fun _ => ⟨bg 541 (by decide +kernel) (by decide +kernel), by decide +kernel, by decide +kernel, bg 4 (by decide +kernel) (by decide +kernel), by decide +kernel, by decide +kernel, by decide +kernel⟩⟩
theorem okM_62 : okM mX3_swapRows := ⟨jX3_swapRows, fun _ => ⟨bg 549 (by decide +kernel) (by decide +kernel), by decide +kernel, by decide +kernel, bg 4 (by decide +kernel) (by decide +kernel), by decide +kernel, by decide +kernel, by decide +kernel⟩⟩
theorem okM_63 : okM mX3_meet := ⟨jX3_meet, fun _ => ⟨bg 545 (by decide +kernel) (by decide +kernel), by decide +kernel, by decide +kernel, bg 4 (by decide +kernel) (by decide +kernel), by decide +kernel, by decide +kernel, by decide +kernel⟩⟩
theorem okM_64 : okM mX3_offBy := ⟨jX3_offBy, fun _ => ⟨bg 560 (by decide +kernel) (by decide +kernel), by decide +kernel, by decide +kernel, bg 4 (by decide +kernel) (by decide +kernel), by decide +kernel, by decide +kernel, by decide +kernel⟩⟩
theorem okM_65 : okM mX3_isLive := ⟨jX3_isLive, fun _ => ⟨bg 537 (by decide +kernel) (by decide +kernel), by decide +kernel, by decide +kernel, bg 4 (by decide +kernel) (by decide +kernel), by decide +kernel, by decide +kernel, by decide +kernel⟩⟩
theorem okM_66 : okM mX3_weigh := ⟨jX3_weigh, fun _ => ⟨bg 556 (by decide +kernel) (by decide +kernel), by decide +kernel, by decide +kernel, bg 4 (by decide +kernel) (by decide +kernel), by decide +kernel, by decide +kernel, by decide +kernel⟩⟩
theorem okM_67 : okM mX3_isLess := ⟨jX3_isLess, fun _ => ⟨bg 564 (by decide +kernel) (by decide +kernel), by decide +kernel, by decide +kernel, bg 4 (by decide +kernel) (by decide +kernel), by decide +kernel, by decide +kernel, by decide +kernel⟩⟩
theorem okM_68 : okM mX3_solve := ⟨jX3_solve, fun _ => ⟨bg 533 (by decide +kernel) (by decide +kernel), by decide +kernel, by decide +kernel, bg 4 (by decide +kernel) (by decide +kernel), by decide +kernel, by decide +kernel, by decide +kernel⟩⟩
theorem okM_69 : okM mX3_allLive := ⟨jX3_allLive, fun _ => ⟨bg 529 (by decide +kernel) (by decide +kernel), by decide +kernel, by decide +kernel, bg 4 (by decide +kernel) (by decide +kernel), by decide +kernel, by decide +kernel, by decide +kernel⟩⟩
theorem okM_70 : okM mX3_set := ⟨jX3_set, fun _ => ⟨bg 608 (by decide +kernel) (by decide +kernel), by decide +kernel, by decide +kernel, bg 4 (by decide +kernel) (by decide +kernel), by decide +kernel, by decide +kernel, by decide +kernel⟩⟩
theorem okM_71 : okM mX3_clashes := ⟨jX3_clashes, fun _ => ⟨bg 525 (by decide +kernel) (by decide +kernel), by decide +kernel, by decide +kernel, bg 4 (by decide +kernel) (by decide +kernel), by decide +kernel, by decide +kernel, by decide +kernel⟩⟩
theorem okM_72 : okM mX3_noEdge := ⟨jX3_noEdge, fun _ => ⟨bg 573 (by decide +kernel) (by decide +kernel), by decide +kernel, by decide +kernel, bg 4 (by decide +kernel) (by decide +kernel), by decide +kernel, by decide +kernel, by decide +kernel⟩⟩
theorem okM_73 : okM mX3_noWish := ⟨jX3_noWish, fun _ => ⟨bg 582 (by decide +kernel) (by decide +kernel), by decide +kernel, by decide +kernel, bg 4 (by decide +kernel) (by decide +kernel), by decide +kernel, by decide +kernel, by decide +kernel⟩⟩
theorem okM_74 : okM mX3_edge := ⟨jX3_edge, fun _ => ⟨bg 491 (by decide +kernel) (by decide +kernel), by decide +kernel, by decide +kernel, bg 4 (by decide +kernel) (by decide +kernel), by decide +kernel, by decide +kernel, by decide +kernel⟩⟩
theorem okM_75 : okM mX3_factor := ⟨jX3_factor, fun _ => ⟨bg 502 (by decide +kernel) (by decide +kernel), by decide +kernel, by decide +kernel, bg 4 (by decide +kernel) (by decide +kernel), by decide +kernel, by decide +kernel, by decide +kernel⟩⟩
theorem okM_76 : okM mX3_add := ⟨jX3_add, fun _ => ⟨bg 521 (by decide +kernel) (by decide +kernel), by decide +kernel, by decide +kernel, bg 4 (by decide +kernel) (by decide +kernel), by decide +kernel, by decide +kernel, by decide +kernel⟩⟩
theorem okM_77 : okM mX3_isStrength := ⟨jX3_isStrength, fun _ => ⟨bg 513 (by decide +kernel) (by decide +kernel), by decide +kernel, by decide +kernel, bg 4 (by decide +kernel) (by decide +kernel), by decide +kernel, by decide +kernel, by decide +kernel⟩⟩
theorem okM_78 : okM mX3_wish := ⟨jX3_wish, fun _ => ⟨bg 509 (by decide +kernel) (by decide +kernel), by decide +kernel, by decide +kernel, bg 4 (by decide +kernel) (by decide +kernel), by decide +kernel, by decide +kernel, by decide +kernel⟩⟩
theorem okM_79 : okM mX3_side := ⟨jX3_side, fun _ => ⟨bg 569 (by decide +kernel) (by decide +kernel), by decide +kernel, by decide +kernel, bg 4 (by decide +kernel) (by decide +kernel), by decide +kernel, by decide +kernel, by decide +kernel⟩⟩
theorem okM_80 : okM mX3_take := ⟨jX3_take, fun _ => ⟨bg 578 (by decide +kernel) (by decide +kernel), by decide +kernel, by decide +kernel, bg 4 (by decide +kernel) (by decide +kernel), by decide +kernel, by decide +kernel, by decide +kernel⟩⟩
theorem okM_81 : okM mX3_hide := ⟨jX3_hide, fun _ => ⟨bg 587 (by decide +kernel) (by decide +kernel), by decide +kernel, by decide +kernel, bg 4 (by decide +kernel) (by decide +kernel), by decide +kernel, by decide +kernel, by decide +kernel⟩⟩
theorem okM_82 : okM mX3_drag := ⟨jX3_drag, fun _ => ⟨bg 591 (by decide +kernel) (by decide +kernel), by decide +kernel, by decide +kernel, bg 4 (by decide +kernel) (by decide +kernel), by decide +kernel, by decide +kernel, by decide +kernel⟩⟩
theorem okM_83 : okM mX3_strength := ⟨jX3_strength, fun _ => ⟨bg 595 (by decide +kernel) (by decide +kernel), by decide +kernel, by decide +kernel, bg 4 (by decide +kernel) (by decide +kernel), by decide +kernel, by decide +kernel, by decide +kernel⟩⟩
theorem okM_84 : okM mX3_told := ⟨jX3_told, fun _ => ⟨bg 599 (by decide +kernel) (by decide +kernel), by decide +kernel, by decide +kernel, bg 4 (by decide +kernel) (by decide +kernel), by decide +kernel, by decide +kernel, by decide +kernel⟩⟩
theorem okM_85 : okM mX3_count := ⟨jX3_count, fun _ => ⟨bg 604 (by decide +kernel) (by decide +kernel), by decide +kernel, by decide +kernel, bg 4 (by decide +kernel) (by decide +kernel), by decide +kernel, by decide +kernel, by decide +kernel⟩⟩
theorem okM_86 : okM mX3_quarrel := ⟨jX3_quarrel, fun _ => ⟨bg 612 (by decide +kernel) (by decide +kernel), by decide +kernel, by decide +kernel, bg 4 (by decide +kernel) (by decide +kernel), by decide +kernel, by decide +kernel, by decide +kernel⟩⟩
theorem okM_87 : okM mX3_at := ⟨jX3_at, fun _ => ⟨bg 616 (by decide +kernel) (by decide +kernel), by decide +kernel, by decide +kernel, bg 4 (by decide +kernel) (by decide +kernel), by decide +kernel, by decide +kernel, by decide +kernel⟩⟩
theorem okM_88 : okM mX3_floor := ⟨jX3_floor, fun _ => ⟨bg 630 (by decide +kernel) (by decide +kernel), by decide +kernel, by decide +kernel, bg 4 (by decide +kernel) (by decide +kernel), by decide +kernel, by decide +kernel, by decide +kernel⟩⟩
theorem okM_89 : okM mX3_pixelOf := ⟨jX3_pixelOf, fun _ => ⟨bg 627 (by decide +kernel) (by decide +kernel), by decide +kernel, by decide +kernel, bg 4 (by decide +kernel) (by decide +kernel), by decide +kernel, by decide +kernel, by decide +kernel⟩⟩
theorem okM_90 : okM mX3_pixel := ⟨jX3_pixel, fun _ => ⟨bg 623 (by decide +kernel) (by decide +kernel), by decide +kernel, by decide +kernel, bg 4 (by decide +kernel) (by decide +kernel), by decide +kernel, by decide +kernel, by decide +kernel⟩⟩
theorem okM_91 : okM mX3_off := ⟨jX3_off, fun _ => ⟨bg 634 (by decide +kernel) (by decide +kernel), by decide +kernel, by decide +kernel, bg 4 (by decide +kernel) (by decide +kernel), by decide +kernel, by decide +kernel, by decide +kernel⟩⟩
theorem okM_92 : okM mX3_cost := ⟨jX3_cost, fun _ => ⟨bg 640 (by decide +kernel) (by decide +kernel), by decide +kernel, by decide +kernel, bg 4 (by decide +kernel) (by decide +kernel), by decide +kernel, by decide +kernel, by decide +kernel⟩⟩
theorem okM_93 : okM mX3_why := ⟨jX3_why, fun _ => ⟨bg 644 (by decide +kernel) (by decide +kernel), by decide +kernel, by decide +kernel, bg 4 (by decide +kernel) (by decide +kernel), by decide +kernel, by decide +kernel, by decide +kernel⟩⟩
theorem okM_94 : okM mX3_stay := ⟨jX3_stay, fun _ => ⟨bg 648 (by decide +kernel) (by decide +kernel), by decide +kernel, by decide +kernel, bg 4 (by decide +kernel) (by decide +kernel), by decide +kernel, by decide +kernel, by decide +kernel⟩⟩
theorem okM_95 : okM mX3_move := ⟨jX3_move, fun _ => ⟨bg 652 (by decide +kernel) (by decide +kernel), by decide +kernel, by decide +kernel, bg 4 (by decide +kernel) (by decide +kernel), by decide +kernel, by decide +kernel, by decide +kernel⟩⟩
theorem okM_96 : okM mX3_settle := ⟨jX3_settle, fun _ => ⟨bg 656 (by decide +kernel) (by decide +kernel), by decide +kernel, by decide +kernel, bg 4 (by decide +kernel) (by decide +kernel), by decide +kernel, by decide +kernel, by decide +kernel⟩⟩
theorem okM_97 : okM mJ6_bitCount_0f7a4 := ⟨jJ6_bitCount_0f7a4, fun _ => ⟨bg 325 (by decide +kernel) (by decide +kernel), by decide +kernel, by decide +kernel, bg 7 (by decide +kernel) (by decide +kernel), by decide +kernel, by decide +kernel, by decide +kernel⟩⟩
theorem okM_98 : okM mJ9_floorDiv_f86c9 := ⟨jJ9_floorDiv_f86c9, fun _ => ⟨bg 373 (by decide +kernel) (by decide +kernel), by decide +kernel, by decide +kernel, bg 5 (by decide +kernel) (by decide +kernel), by decide +kernel, by decide +kernel, by decide +kernel⟩⟩
theorem okM_99 : okM mJ9_abs_067f4 := ⟨jJ9_abs_067f4, fun _ => ⟨bg 256 (by decide +kernel) (by decide +kernel), by decide +kernel, by decide +kernel, bg 5 (by decide +kernel) (by decide +kernel), by decide +kernel, by decide +kernel, by decide +kernel⟩⟩
theorem okM_100 : okM mJ9_max_f86c9 := ⟨jJ9_max_f86c9, fun _ => ⟨bg 343 (by decide +kernel) (by decide +kernel), by decide +kernel, by decide +kernel, bg 5 (by decide +kernel) (by decide +kernel), by decide +kernel, by decide +kernel, by decide +kernel⟩⟩
theorem okM_101 : okM mJ9_min_7cf53 := ⟨jJ9_min_7cf53, fun _ => ⟨bg 204 (by decide +kernel) (by decide +kernel), by decide +kernel, by decide +kernel, bg 5 (by decide +kernel) (by decide +kernel), by decide +kernel, by decide +kernel, by decide +kernel⟩⟩
theorem okM_102 : okM mJ7_fill_d0a16 := ⟨jJ7_fill_d0a16, fun _ => ⟨bg 232 (by decide +kernel) (by decide +kernel), by decide +kernel, by decide +kernel, bg 6 (by decide +kernel) (by decide +kernel), by decide +kernel, by decide +kernel, by decide +kernel⟩⟩
theorem okM_103 : okM mJ7_fill_53178 := ⟨jJ7_fill_53178, fun _ => ⟨bg 281 (by decide +kernel) (by decide +kernel), by decide +kernel, by decide +kernel, bg 6 (by decide +kernel) (by decide +kernel), by decide +kernel, by decide +kernel, by decide +kernel⟩⟩
theorem okM_104 : okM mL_law := ⟨jL_law, fun h => absurd h (by decide)⟩
theorem okMc_0 : ∀ e ∈ ([mX0_load, mX0_addRow, mX0_copy, mX0_drop, mX0_areMustsMet, mX0_solve, mX0_missOf, mX0_lessenCost, mX0_findEntering, mX0_findGrowth, mX0_slopeOf, mX0_lessens, mX0_findLeaving, mX0_firstAtZero, mX0_pass, mX0_swap, mX0_putIn, mX1_become, mX1_counts, mX1_costAbove, mX1_costBelow, mX2_edge, mX2_factor, mX2_wish, mX2_side, mX2_take, mX2_hide, mX2_drag, mX2_strength, mX2_told] : List (mM)), okM e := List.forall_mem_cons.mpr ⟨okM_0, List.forall_mem_cons.mpr ⟨okM_1, List.forall_mem_cons.mpr ⟨okM_2, List.forall_mem_cons.mpr ⟨okM_3, List.forall_mem_cons.mpr ⟨okM_4, List.forall_mem_cons.mpr ⟨okM_5, List.forall_mem_cons.mpr ⟨okM_6, List.forall_mem_cons.mpr ⟨okM_7, List.forall_mem_cons.mpr ⟨okM_8, List.forall_mem_cons.mpr ⟨okM_9, List.forall_mem_cons.mpr ⟨okM_10, List.forall_mem_cons.mpr ⟨okM_11, List.forall_mem_cons.mpr ⟨okM_12, List.forall_mem_cons.mpr ⟨okM_13, List.forall_mem_cons.mpr ⟨okM_14, List.forall_mem_cons.mpr ⟨okM_15, List.forall_mem_cons.mpr ⟨okM_16, List.forall_mem_cons.mpr ⟨okM_17, List.forall_mem_cons.mpr ⟨okM_18, List.forall_mem_cons.mpr ⟨okM_19, List.forall_mem_cons.mpr ⟨okM_20, List.forall_mem_cons.mpr ⟨okM_21, List.forall_mem_cons.mpr ⟨okM_22, List.forall_mem_cons.mpr ⟨okM_23, List.forall_mem_cons.mpr ⟨okM_24, List.forall_mem_cons.mpr ⟨okM_25, List.forall_mem_cons.mpr ⟨okM_26, List.forall_mem_cons.mpr ⟨okM_27, List.forall_mem_cons.mpr ⟨okM_28, List.forall_mem_cons.mpr ⟨okM_29, fun _ h => absurd h List.not_mem_nil⟩⟩⟩⟩⟩⟩⟩⟩⟩⟩⟩⟩⟩⟩⟩⟩⟩⟩⟩⟩⟩⟩⟩⟩⟩⟩⟩⟩⟩⟩
theorem okMc_1 : ∀ e ∈ ([mX2_count, mX2_quarrel, mX2_at, mX2_pixel, mX2_off, mX2_cost, mX2_why, mX2_stay, mX2_move, mX2_settle, mX2_isWithin, mX2_isStrength, mX2_isPart, mX2_isEdge, mX2_isWish, mX2_areAllZero, mX2_addWish, mX2_freeWish, mX2_countWishes, mX2_countUnmet, mX2_countingWishes, mX2_findSetting, mX2_clashes, mX2_leastQuarrel, mX2_isNearerWithout, mX2_pixelOf, mX2_inLeastTerms, mX2_greatestDivisor, mX3_in, mX3_size] : List (mM)), okM e := List.forall_mem_cons.mpr ⟨okM_30, List.forall_mem_cons.mpr ⟨okM_31, List.forall_mem_cons.mpr ⟨okM_32, List.forall_mem_cons.mpr ⟨okM_33, List.forall_mem_cons.mpr ⟨okM_34, List.forall_mem_cons.mpr ⟨okM_35, List.forall_mem_cons.mpr ⟨okM_36, List.forall_mem_cons.mpr ⟨okM_37, List.forall_mem_cons.mpr ⟨okM_38, List.forall_mem_cons.mpr ⟨okM_39, List.forall_mem_cons.mpr ⟨okM_40, List.forall_mem_cons.mpr ⟨okM_41, List.forall_mem_cons.mpr ⟨okM_42, List.forall_mem_cons.mpr ⟨okM_43, List.forall_mem_cons.mpr ⟨okM_44, List.forall_mem_cons.mpr ⟨okM_45, List.forall_mem_cons.mpr ⟨okM_46, List.forall_mem_cons.mpr ⟨okM_47, List.forall_mem_cons.mpr ⟨okM_48, List.forall_mem_cons.mpr ⟨okM_49, List.forall_mem_cons.mpr ⟨okM_50, List.forall_mem_cons.mpr ⟨okM_51, List.forall_mem_cons.mpr ⟨okM_52, List.forall_mem_cons.mpr ⟨okM_53, List.forall_mem_cons.mpr ⟨okM_54, List.forall_mem_cons.mpr ⟨okM_55, List.forall_mem_cons.mpr ⟨okM_56, List.forall_mem_cons.mpr ⟨okM_57, List.forall_mem_cons.mpr ⟨okM_58, List.forall_mem_cons.mpr ⟨okM_59, fun _ h => absurd h List.not_mem_nil⟩⟩⟩⟩⟩⟩⟩⟩⟩⟩⟩⟩⟩⟩⟩⟩⟩⟩⟩⟩⟩⟩⟩⟩⟩⟩⟩⟩⟩⟩
theorem okMc_2 : ∀ e ∈ ([mX3_divisor, mX3_putRow, mX3_swapRows, mX3_meet, mX3_offBy, mX3_isLive, mX3_weigh, mX3_isLess, mX3_solve, mX3_allLive, mX3_set, mX3_clashes, mX3_noEdge, mX3_noWish, mX3_edge, mX3_factor, mX3_add, mX3_isStrength, mX3_wish, mX3_side, mX3_take, mX3_hide, mX3_drag, mX3_strength, mX3_told, mX3_count, mX3_quarrel, mX3_at, mX3_floor, mX3_pixelOf] : List (mM)), okM e := List.forall_mem_cons.mpr ⟨okM_60, List.forall_mem_cons.mpr ⟨okM_61, List.forall_mem_cons.mpr ⟨okM_62, List.forall_mem_cons.mpr ⟨okM_63, List.forall_mem_cons.mpr ⟨okM_64, List.forall_mem_cons.mpr ⟨okM_65, List.forall_mem_cons.mpr ⟨okM_66, List.forall_mem_cons.mpr ⟨okM_67, List.forall_mem_cons.mpr ⟨okM_68, List.forall_mem_cons.mpr ⟨okM_69, List.forall_mem_cons.mpr ⟨okM_70, List.forall_mem_cons.mpr ⟨okM_71, List.forall_mem_cons.mpr ⟨okM_72, List.forall_mem_cons.mpr ⟨okM_73, List.forall_mem_cons.mpr ⟨okM_74, List.forall_mem_cons.mpr ⟨okM_75, List.forall_mem_cons.mpr ⟨okM_76, List.forall_mem_cons.mpr ⟨okM_77, List.forall_mem_cons.mpr ⟨okM_78, List.forall_mem_cons.mpr ⟨okM_79, List.forall_mem_cons.mpr ⟨okM_80, List.forall_mem_cons.mpr ⟨okM_81, List.forall_mem_cons.mpr ⟨okM_82, List.forall_mem_cons.mpr ⟨okM_83, List.forall_mem_cons.mpr ⟨okM_84, List.forall_mem_cons.mpr ⟨okM_85, List.forall_mem_cons.mpr ⟨okM_86, List.forall_mem_cons.mpr ⟨okM_87, List.forall_mem_cons.mpr ⟨okM_88, List.forall_mem_cons.mpr ⟨okM_89, fun _ h => absurd h List.not_mem_nil⟩⟩⟩⟩⟩⟩⟩⟩⟩⟩⟩⟩⟩⟩⟩⟩⟩⟩⟩⟩⟩⟩⟩⟩⟩⟩⟩⟩⟩⟩
theorem okMc_3 : ∀ e ∈ ([mX3_pixel, mX3_off, mX3_cost, mX3_why, mX3_stay, mX3_move, mX3_settle, mJ6_bitCount_0f7a4, mJ9_floorDiv_f86c9, mJ9_abs_067f4, mJ9_max_f86c9, mJ9_min_7cf53, mJ7_fill_d0a16, mJ7_fill_53178, mL_law] : List (mM)), okM e := List.forall_mem_cons.mpr ⟨okM_90, List.forall_mem_cons.mpr ⟨okM_91, List.forall_mem_cons.mpr ⟨okM_92, List.forall_mem_cons.mpr ⟨okM_93, List.forall_mem_cons.mpr ⟨okM_94, List.forall_mem_cons.mpr ⟨okM_95, List.forall_mem_cons.mpr ⟨okM_96, List.forall_mem_cons.mpr ⟨okM_97, List.forall_mem_cons.mpr ⟨okM_98, List.forall_mem_cons.mpr ⟨okM_99, List.forall_mem_cons.mpr ⟨okM_100, List.forall_mem_cons.mpr ⟨okM_101, List.forall_mem_cons.mpr ⟨okM_102, List.forall_mem_cons.mpr ⟨okM_103, List.forall_mem_cons.mpr ⟨okM_104, fun _ h => absurd h List.not_mem_nil⟩⟩⟩⟩⟩⟩⟩⟩⟩⟩⟩⟩⟩⟩⟩
theorem MTb_ok : ∀ e ∈ MTb, okM e := (List.forall_mem_append.mpr ⟨okMc_0, (List.forall_mem_append.mpr ⟨okMc_1, (List.forall_mem_append.mpr ⟨okMc_2, okMc_3⟩)⟩)⟩)
def mth (M : Nat) : mM := MTb.getD M mL_law
def KTb : List (Nat × Nat × Nat) := [(0, 52, 101), (0, 65, 1), (0, 73, 19), (0, 77, 20), (0, 92, 10), (0, 96, 7), (0, 103, 100), (0, 107, 99), (0, 112, 8), (0, 116, 12), (0, 120, 15), (0, 123, 9), (0, 126, 11), (0, 136, 102), (0, 142, 13), (0, 145, 14), (0, 150, 16), (2, 41, 40), (2, 55, 41), (2, 58, 45), (2, 63, 46), (2, 67, 103), (2, 73, 43), (2, 78, 44), (2, 84, 48), (2, 91, 52), (2, 111, 50), (2, 115, 97), (2, 120, 49), (2, 126, 42), (2, 129, 51), (2, 139, 56), (2, 143, 55), (2, 151, 6), (2, 155, 18), (2, 159, 54), (2, 167, 47), (2, 170, 17), (2, 174, 0), (2, 178, 5), (2, 181, 7), (2, 185, 4), (2, 188, 53), (2, 191, 2), (2, 195, 3), (2, 200, 98), (2, 206, 99), (2, 210, 57), (3, 57, 59), (3, 65, 62), (3, 76, 65), (3, 80, 64), (3, 87, 61), (3, 90, 63), (3, 94, 66), (3, 97, 67), (3, 100, 69), (3, 104, 68), (3, 110, 58), (3, 131, 71), (3, 139, 77), (3, 148, 76), (3, 152, 72), (3, 156, 73), (3, 161, 70), (3, 164, 60), (3, 168, 88), (3, 171, 89), (7, 13, 21), (7, 17, 74), (7, 18, 22), (7, 22, 75), (7, 23, 23), (7, 27, 78), (7, 28, 24), (7, 32, 79), (7, 33, 25), (7, 36, 80), (7, 37, 26), (7, 41, 81), (7, 42, 27), (7, 45, 82), (7, 46, 28), (7, 50, 83), (7, 51, 29), (7, 54, 84), (7, 55, 30), (7, 58, 85), (7, 59, 31), (7, 63, 86), (7, 64, 32), (7, 67, 87), (7, 68, 33), (7, 71, 90), (7, 72, 34), (7, 76, 91), (7, 77, 35), (7, 80, 92), (7, 81, 36), (7, 84, 93), (7, 85, 37), (7, 88, 94), (7, 89, 38), (7, 92, 95), (7, 93, 39), (7, 96, 96)]
def okK (e : Nat × Nat × Nat) : Prop := e.2.2 < 104 ∧ Cond.methodLink (cnm e.1) e.2.1 (mth e.2.2).2.2.1 ∈ BIG ∧ ((mth e.2.2).2.2.2.2.2.2.1 = true → Cond.static (mth e.2.2).2.2.1 ∈ BIG) ∧ ((mth e.2.2).2.2.2.2.2.2.1 = false → Cond.instanceMethod (mth e.2.2).2.2.1 ∈ BIG ∧ Cond.selects (mth e.2.2).2.2.1.cls (mth e.2.2).2.2.1 (mth e.2.2).2.2.1 ∈ BIG)
theorem okK_0 : okK (0, 52, 101) := ⟨by decide, bg 202 (by decide +kernel) (by decide +kernel), fun _ => bg 203 (by decide +kernel) (by decide +kernel), fun h => absurd h (by decide)⟩
theorem okK_1 : okK (0, 65, 1) := ⟨by decide, bg 205 (by decide +kernel) (by decide +kernel), fun h => absurd h (by decide), fun _ => ⟨bg 207 (by decide +kernel) (by decide +kernel), bgs 4 (by decide +kernel) (by decide +kernel)⟩⟩
theorem okK_2 : okK (0, 73, 19) := ⟨by decide, bg 209 (by decide +kernel) (by decide +kernel), fun h => absurd h (by decide), fun _ => ⟨bg 210 (by decide +kernel) (by decide +kernel), bg 211 (by decide +kernel) (by decide +kernel)⟩⟩
theorem okK_3 : okK (0, 77, 20) := ⟨by decide, bg 213 (by decide +kernel) (by decide +kernel), fun h => absurd h (by decide), fun _ => ⟨bg 214 (by decide +kernel) (by decide +kernel), bg 215 (by decide +kernel) (by decide +kernel)⟩⟩
theorem okK_4 : okK (0, 92, 10) := ⟨by decide, bg 233 (by decide +kernel) (by decide +kernel), fun h => absurd h (by decide), fun _ => ⟨bg 235 (by decide +kernel) (by decide +kernel), bgs 7 (by decide +kernel) (by decide +kernel)⟩⟩
theorem okK_5 : okK (0, 96, 7) := ⟨by decide, bg 277 (by decide +kernel) (by decide +kernel), fun h => absurd h (by decide), fun _ => ⟨bg 218 (by decide +kernel) (by decide +kernel), bg 219 (by decide +kernel) (by decide +kernel)⟩⟩
theorem okK_6 : okK (0, 103, 100) := ⟨by decide, bg 341 (by decide +kernel) (by decide +kernel), fun _ => bg 342 (by decide +kernel) (by decide +kernel), fun h => absurd h (by decide)⟩
theorem okK_7 : okK (0, 107, 99) := ⟨by decide, bg 254 (by decide +kernel) (by decide +kernel), fun _ => bg 255 (by decide +kernel) (by decide +kernel), fun h => absurd h (by decide)⟩
theorem okK_8 : okK (0, 112, 8) := ⟨by decide, bg 222 (by decide +kernel) (by decide +kernel), fun h => absurd h (by decide), fun _ => ⟨bg 224 (by decide +kernel) (by decide +kernel), bgs 5 (by decide +kernel) (by decide +kernel)⟩⟩
theorem okK_9 : okK (0, 116, 12) := ⟨by decide, bg 241 (by decide +kernel) (by decide +kernel), fun h => absurd h (by decide), fun _ => ⟨bg 243 (by decide +kernel) (by decide +kernel), bgs 9 (by decide +kernel) (by decide +kernel)⟩⟩
theorem okK_10 : okK (0, 120, 15) := ⟨by decide, bg 257 (by decide +kernel) (by decide +kernel), fun h => absurd h (by decide), fun _ => ⟨bg 259 (by decide +kernel) (by decide +kernel), bgs 12 (by decide +kernel) (by decide +kernel)⟩⟩
theorem okK_11 : okK (0, 123, 9) := ⟨by decide, bg 226 (by decide +kernel) (by decide +kernel), fun h => absurd h (by decide), fun _ => ⟨bg 228 (by decide +kernel) (by decide +kernel), bgs 6 (by decide +kernel) (by decide +kernel)⟩⟩
theorem okK_12 : okK (0, 126, 11) := ⟨by decide, bg 237 (by decide +kernel) (by decide +kernel), fun h => absurd h (by decide), fun _ => ⟨bg 239 (by decide +kernel) (by decide +kernel), bgs 8 (by decide +kernel) (by decide +kernel)⟩⟩
theorem okK_13 : okK (0, 136, 102) := ⟨by decide, bg 230 (by decide +kernel) (by decide +kernel), fun _ => bg 231 (by decide +kernel) (by decide +kernel), fun h => absurd h (by decide)⟩
theorem okK_14 : okK (0, 142, 13) := ⟨by decide, bg 245 (by decide +kernel) (by decide +kernel), fun h => absurd h (by decide), fun _ => ⟨bg 247 (by decide +kernel) (by decide +kernel), bgs 10 (by decide +kernel) (by decide +kernel)⟩⟩
theorem okK_15 : okK (0, 145, 14) := ⟨by decide, bg 250 (by decide +kernel) (by decide +kernel), fun h => absurd h (by decide), fun _ => ⟨bg 252 (by decide +kernel) (by decide +kernel), bgs 11 (by decide +kernel) (by decide +kernel)⟩⟩
theorem okK_16 : okK (0, 150, 16) := ⟨by decide, bg 261 (by decide +kernel) (by decide +kernel), fun h => absurd h (by decide), fun _ => ⟨bg 263 (by decide +kernel) (by decide +kernel), bgs 13 (by decide +kernel) (by decide +kernel)⟩⟩
theorem okK_17 : okK (2, 41, 40) := ⟨by decide, bg 154 (by decide +kernel) (by decide +kernel), fun _ => bg 155 (by decide +kernel) (by decide +kernel), fun h => absurd h (by decide)⟩
theorem okK_18 : okK (2, 55, 41) := ⟨by decide, bg 167 (by decide +kernel) (by decide +kernel), fun _ => bg 168 (by decide +kernel) (by decide +kernel), fun h => absurd h (by decide)⟩
theorem okK_19 : okK (2, 58, 45) := ⟨by decide, bg 170 (by decide +kernel) (by decide +kernel), fun _ => bg 171 (by decide +kernel) (by decide +kernel), fun h => absurd h (by decide)⟩
theorem okK_20 : okK (2, 63, 46) := ⟨by decide, bg 174 (by decide +kernel) (by decide +kernel), fun h => absurd h (by decide), fun _ => ⟨bg 176 (by decide +kernel) (by decide +kernel), bgs 0 (by decide +kernel) (by decide +kernel)⟩⟩
theorem okK_21 : okK (2, 67, 103) := ⟨by decide, bg 279 (by decide +kernel) (by decide +kernel), fun _ => bg 280 (by decide +kernel) (by decide +kernel), fun h => absurd h (by decide)⟩
theorem okK_22 : okK (2, 73, 43) := ⟨by decide, bg 286 (by decide +kernel) (by decide +kernel), fun h => absurd h (by decide), fun _ => ⟨bg 288 (by decide +kernel) (by decide +kernel), bgs 15 (by decide +kernel) (by decide +kernel)⟩⟩
theorem okK_23 : okK (2, 78, 44) := ⟨by decide, bg 295 (by decide +kernel) (by decide +kernel), fun h => absurd h (by decide), fun _ => ⟨bg 297 (by decide +kernel) (by decide +kernel), bgs 16 (by decide +kernel) (by decide +kernel)⟩⟩
theorem okK_24 : okK (2, 84, 48) := ⟨by decide, bg 299 (by decide +kernel) (by decide +kernel), fun h => absurd h (by decide), fun _ => ⟨bg 301 (by decide +kernel) (by decide +kernel), bgs 17 (by decide +kernel) (by decide +kernel)⟩⟩
theorem okK_25 : okK (2, 91, 52) := ⟨by decide, bg 186 (by decide +kernel) (by decide +kernel), fun h => absurd h (by decide), fun _ => ⟨bg 188 (by decide +kernel) (by decide +kernel), bgs 2 (by decide +kernel) (by decide +kernel)⟩⟩
theorem okK_26 : okK (2, 111, 50) := ⟨by decide, bg 194 (by decide +kernel) (by decide +kernel), fun h => absurd h (by decide), fun _ => ⟨bg 196 (by decide +kernel) (by decide +kernel), bgs 3 (by decide +kernel) (by decide +kernel)⟩⟩
theorem okK_27 : okK (2, 115, 97) := ⟨by decide, bg 323 (by decide +kernel) (by decide +kernel), fun _ => bg 324 (by decide +kernel) (by decide +kernel), fun h => absurd h (by decide)⟩
theorem okK_28 : okK (2, 120, 49) := ⟨by decide, bg 329 (by decide +kernel) (by decide +kernel), fun h => absurd h (by decide), fun _ => ⟨bg 331 (by decide +kernel) (by decide +kernel), bgs 18 (by decide +kernel) (by decide +kernel)⟩⟩
theorem okK_29 : okK (2, 126, 42) := ⟨by decide, bg 352 (by decide +kernel) (by decide +kernel), fun _ => bg 353 (by decide +kernel) (by decide +kernel), fun h => absurd h (by decide)⟩
theorem okK_30 : okK (2, 129, 51) := ⟨by decide, bg 333 (by decide +kernel) (by decide +kernel), fun h => absurd h (by decide), fun _ => ⟨bg 335 (by decide +kernel) (by decide +kernel), bgs 19 (by decide +kernel) (by decide +kernel)⟩⟩
theorem okK_31 : okK (2, 139, 56) := ⟨by decide, bg 355 (by decide +kernel) (by decide +kernel), fun _ => bg 356 (by decide +kernel) (by decide +kernel), fun h => absurd h (by decide)⟩
theorem okK_32 : okK (2, 143, 55) := ⟨by decide, bg 366 (by decide +kernel) (by decide +kernel), fun h => absurd h (by decide), fun _ => ⟨bg 368 (by decide +kernel) (by decide +kernel), bgs 20 (by decide +kernel) (by decide +kernel)⟩⟩
theorem okK_33 : okK (2, 151, 6) := ⟨by decide, bg 337 (by decide +kernel) (by decide +kernel), fun h => absurd h (by decide), fun _ => ⟨bg 338 (by decide +kernel) (by decide +kernel), bg 339 (by decide +kernel) (by decide +kernel)⟩⟩
theorem okK_34 : okK (2, 155, 18) := ⟨by decide, bg 190 (by decide +kernel) (by decide +kernel), fun h => absurd h (by decide), fun _ => ⟨bg 191 (by decide +kernel) (by decide +kernel), bg 192 (by decide +kernel) (by decide +kernel)⟩⟩
theorem okK_35 : okK (2, 159, 54) := ⟨by decide, bg 388 (by decide +kernel) (by decide +kernel), fun h => absurd h (by decide), fun _ => ⟨bg 390 (by decide +kernel) (by decide +kernel), bgs 21 (by decide +kernel) (by decide +kernel)⟩⟩
theorem okK_36 : okK (2, 167, 47) := ⟨by decide, bg 178 (by decide +kernel) (by decide +kernel), fun h => absurd h (by decide), fun _ => ⟨bg 180 (by decide +kernel) (by decide +kernel), bgs 1 (by decide +kernel) (by decide +kernel)⟩⟩
theorem okK_37 : okK (2, 170, 17) := ⟨by decide, bg 182 (by decide +kernel) (by decide +kernel), fun h => absurd h (by decide), fun _ => ⟨bg 183 (by decide +kernel) (by decide +kernel), bg 184 (by decide +kernel) (by decide +kernel)⟩⟩
theorem okK_38 : okK (2, 174, 0) := ⟨by decide, bg 198 (by decide +kernel) (by decide +kernel), fun h => absurd h (by decide), fun _ => ⟨bg 199 (by decide +kernel) (by decide +kernel), bg 200 (by decide +kernel) (by decide +kernel)⟩⟩
theorem okK_39 : okK (2, 178, 5) := ⟨by decide, bg 273 (by decide +kernel) (by decide +kernel), fun h => absurd h (by decide), fun _ => ⟨bg 274 (by decide +kernel) (by decide +kernel), bg 275 (by decide +kernel) (by decide +kernel)⟩⟩
theorem okK_40 : okK (2, 181, 7) := ⟨by decide, bg 217 (by decide +kernel) (by decide +kernel), fun h => absurd h (by decide), fun _ => ⟨bg 218 (by decide +kernel) (by decide +kernel), bg 219 (by decide +kernel) (by decide +kernel)⟩⟩
theorem okK_41 : okK (2, 185, 4) := ⟨by decide, bg 265 (by decide +kernel) (by decide +kernel), fun h => absurd h (by decide), fun _ => ⟨bg 266 (by decide +kernel) (by decide +kernel), bg 267 (by decide +kernel) (by decide +kernel)⟩⟩
theorem okK_42 : okK (2, 188, 53) := ⟨by decide, bg 269 (by decide +kernel) (by decide +kernel), fun h => absurd h (by decide), fun _ => ⟨bg 271 (by decide +kernel) (by decide +kernel), bgs 14 (by decide +kernel) (by decide +kernel)⟩⟩
theorem okK_43 : okK (2, 191, 2) := ⟨by decide, bg 392 (by decide +kernel) (by decide +kernel), fun h => absurd h (by decide), fun _ => ⟨bg 393 (by decide +kernel) (by decide +kernel), bg 394 (by decide +kernel) (by decide +kernel)⟩⟩
theorem okK_44 : okK (2, 195, 3) := ⟨by decide, bg 399 (by decide +kernel) (by decide +kernel), fun h => absurd h (by decide), fun _ => ⟨bg 400 (by decide +kernel) (by decide +kernel), bg 401 (by decide +kernel) (by decide +kernel)⟩⟩
theorem okK_45 : okK (2, 200, 98) := ⟨by decide, bg 371 (by decide +kernel) (by decide +kernel), fun _ => bg 372 (by decide +kernel) (by decide +kernel), fun h => absurd h (by decide)⟩
theorem okK_46 : okK (2, 206, 99) := ⟨by decide, bg 358 (by decide +kernel) (by decide +kernel), fun _ => bg 255 (by decide +kernel) (by decide +kernel), fun h => absurd h (by decide)⟩
theorem okK_47 : okK (2, 210, 57) := ⟨by decide, bg 359 (by decide +kernel) (by decide +kernel), fun _ => bg 360 (by decide +kernel) (by decide +kernel), fun h => absurd h (by decide)⟩
theorem okK_48 : okK (3, 57, 59) := ⟨by decide, bg 550 (by decide +kernel) (by decide +kernel), fun _ => bg 551 (by decide +kernel) (by decide +kernel), fun h => absurd h (by decide)⟩
theorem okK_49 : okK (3, 65, 62) := ⟨by decide, bg 546 (by decide +kernel) (by decide +kernel), fun h => absurd h (by decide), fun _ => ⟨bg 548 (by decide +kernel) (by decide +kernel), bgs 29 (by decide +kernel) (by decide +kernel)⟩⟩
theorem okK_50 : okK (3, 76, 65) := ⟨by decide, bg 534 (by decide +kernel) (by decide +kernel), fun h => absurd h (by decide), fun _ => ⟨bg 536 (by decide +kernel) (by decide +kernel), bgs 26 (by decide +kernel) (by decide +kernel)⟩⟩
theorem okK_51 : okK (3, 80, 64) := ⟨by decide, bg 557 (by decide +kernel) (by decide +kernel), fun h => absurd h (by decide), fun _ => ⟨bg 559 (by decide +kernel) (by decide +kernel), bgs 31 (by decide +kernel) (by decide +kernel)⟩⟩
theorem okK_52 : okK (3, 87, 61) := ⟨by decide, bg 538 (by decide +kernel) (by decide +kernel), fun h => absurd h (by decide), fun _ => ⟨bg 540 (by decide +kernel) (by decide +kernel), bgs 27 (by decide +kernel) (by decide +kernel)⟩⟩
theorem okK_53 : okK (3, 90, 63) := ⟨by decide, bg 542 (by decide +kernel) (by decide +kernel), fun h => absurd h (by decide), fun _ => ⟨bg 544 (by decide +kernel) (by decide +kernel), bgs 28 (by decide +kernel) (by decide +kernel)⟩⟩
theorem okK_54 : okK (3, 94, 66) := ⟨by decide, bg 553 (by decide +kernel) (by decide +kernel), fun h => absurd h (by decide), fun _ => ⟨bg 555 (by decide +kernel) (by decide +kernel), bgs 30 (by decide +kernel) (by decide +kernel)⟩⟩
theorem okK_55 : okK (3, 97, 67) := ⟨by decide, bg 561 (by decide +kernel) (by decide +kernel), fun h => absurd h (by decide), fun _ => ⟨bg 563 (by decide +kernel) (by decide +kernel), bgs 32 (by decide +kernel) (by decide +kernel)⟩⟩
theorem okK_56 : okK (3, 100, 69) := ⟨by decide, bg 526 (by decide +kernel) (by decide +kernel), fun h => absurd h (by decide), fun _ => ⟨bg 528 (by decide +kernel) (by decide +kernel), bgs 24 (by decide +kernel) (by decide +kernel)⟩⟩
theorem okK_57 : okK (3, 104, 68) := ⟨by decide, bg 530 (by decide +kernel) (by decide +kernel), fun h => absurd h (by decide), fun _ => ⟨bg 532 (by decide +kernel) (by decide +kernel), bgs 25 (by decide +kernel) (by decide +kernel)⟩⟩
theorem okK_58 : okK (3, 110, 58) := ⟨by decide, bg 494 (by decide +kernel) (by decide +kernel), fun _ => bg 495 (by decide +kernel) (by decide +kernel), fun h => absurd h (by decide)⟩
theorem okK_59 : okK (3, 131, 71) := ⟨by decide, bg 522 (by decide +kernel) (by decide +kernel), fun h => absurd h (by decide), fun _ => ⟨bg 524 (by decide +kernel) (by decide +kernel), bgs 23 (by decide +kernel) (by decide +kernel)⟩⟩
theorem okK_60 : okK (3, 139, 77) := ⟨by decide, bg 511 (by decide +kernel) (by decide +kernel), fun _ => bg 512 (by decide +kernel) (by decide +kernel), fun h => absurd h (by decide)⟩
theorem okK_61 : okK (3, 148, 76) := ⟨by decide, bg 518 (by decide +kernel) (by decide +kernel), fun h => absurd h (by decide), fun _ => ⟨bg 520 (by decide +kernel) (by decide +kernel), bgs 22 (by decide +kernel) (by decide +kernel)⟩⟩
theorem okK_62 : okK (3, 152, 72) := ⟨by decide, bg 570 (by decide +kernel) (by decide +kernel), fun h => absurd h (by decide), fun _ => ⟨bg 572 (by decide +kernel) (by decide +kernel), bgs 33 (by decide +kernel) (by decide +kernel)⟩⟩
theorem okK_63 : okK (3, 156, 73) := ⟨by decide, bg 579 (by decide +kernel) (by decide +kernel), fun h => absurd h (by decide), fun _ => ⟨bg 581 (by decide +kernel) (by decide +kernel), bgs 34 (by decide +kernel) (by decide +kernel)⟩⟩
theorem okK_64 : okK (3, 161, 70) := ⟨by decide, bg 605 (by decide +kernel) (by decide +kernel), fun h => absurd h (by decide), fun _ => ⟨bg 607 (by decide +kernel) (by decide +kernel), bgs 35 (by decide +kernel) (by decide +kernel)⟩⟩
theorem okK_65 : okK (3, 164, 60) := ⟨by decide, bg 617 (by decide +kernel) (by decide +kernel), fun _ => bg 618 (by decide +kernel) (by decide +kernel), fun h => absurd h (by decide)⟩
theorem okK_66 : okK (3, 168, 88) := ⟨by decide, bg 628 (by decide +kernel) (by decide +kernel), fun _ => bg 629 (by decide +kernel) (by decide +kernel), fun h => absurd h (by decide)⟩
theorem okK_67 : okK (3, 171, 89) := ⟨by decide, bg 624 (by decide +kernel) (by decide +kernel), fun h => absurd h (by decide), fun _ => ⟨bg 626 (by decide +kernel) (by decide +kernel), bgs 36 (by decide +kernel) (by decide +kernel)⟩⟩
theorem okK_68 : okK (7, 13, 21) := ⟨by decide, bg 149 (by decide +kernel) (by decide +kernel), fun h => absurd h (by decide), fun _ => ⟨bg 150 (by decide +kernel) (by decide +kernel), bg 151 (by decide +kernel) (by decide +kernel)⟩⟩
theorem okK_69 : okK (7, 17, 74) := ⟨by decide, bg 488 (by decide +kernel) (by decide +kernel), fun h => absurd h (by decide), fun _ => ⟨bg 489 (by decide +kernel) (by decide +kernel), bg 490 (by decide +kernel) (by decide +kernel)⟩⟩
theorem okK_70 : okK (7, 18, 22) := ⟨by decide, bg 159 (by decide +kernel) (by decide +kernel), fun h => absurd h (by decide), fun _ => ⟨bg 160 (by decide +kernel) (by decide +kernel), bg 161 (by decide +kernel) (by decide +kernel)⟩⟩
theorem okK_71 : okK (7, 22, 75) := ⟨by decide, bg 499 (by decide +kernel) (by decide +kernel), fun h => absurd h (by decide), fun _ => ⟨bg 500 (by decide +kernel) (by decide +kernel), bg 501 (by decide +kernel) (by decide +kernel)⟩⟩
theorem okK_72 : okK (7, 23, 23) := ⟨by decide, bg 163 (by decide +kernel) (by decide +kernel), fun h => absurd h (by decide), fun _ => ⟨bg 164 (by decide +kernel) (by decide +kernel), bg 165 (by decide +kernel) (by decide +kernel)⟩⟩
theorem okK_73 : okK (7, 27, 78) := ⟨by decide, bg 506 (by decide +kernel) (by decide +kernel), fun h => absurd h (by decide), fun _ => ⟨bg 507 (by decide +kernel) (by decide +kernel), bg 508 (by decide +kernel) (by decide +kernel)⟩⟩
theorem okK_74 : okK (7, 28, 24) := ⟨by decide, bg 282 (by decide +kernel) (by decide +kernel), fun h => absurd h (by decide), fun _ => ⟨bg 283 (by decide +kernel) (by decide +kernel), bg 284 (by decide +kernel) (by decide +kernel)⟩⟩
theorem okK_75 : okK (7, 32, 79) := ⟨by decide, bg 566 (by decide +kernel) (by decide +kernel), fun h => absurd h (by decide), fun _ => ⟨bg 567 (by decide +kernel) (by decide +kernel), bg 568 (by decide +kernel) (by decide +kernel)⟩⟩
theorem okK_76 : okK (7, 33, 25) := ⟨by decide, bg 291 (by decide +kernel) (by decide +kernel), fun h => absurd h (by decide), fun _ => ⟨bg 292 (by decide +kernel) (by decide +kernel), bg 293 (by decide +kernel) (by decide +kernel)⟩⟩
theorem okK_77 : okK (7, 36, 80) := ⟨by decide, bg 575 (by decide +kernel) (by decide +kernel), fun h => absurd h (by decide), fun _ => ⟨bg 576 (by decide +kernel) (by decide +kernel), bg 577 (by decide +kernel) (by decide +kernel)⟩⟩
theorem okK_78 : okK (7, 37, 26) := ⟨by decide, bg 303 (by decide +kernel) (by decide +kernel), fun h => absurd h (by decide), fun _ => ⟨bg 304 (by decide +kernel) (by decide +kernel), bg 305 (by decide +kernel) (by decide +kernel)⟩⟩
theorem okK_79 : okK (7, 41, 81) := ⟨by decide, bg 584 (by decide +kernel) (by decide +kernel), fun h => absurd h (by decide), fun _ => ⟨bg 585 (by decide +kernel) (by decide +kernel), bg 586 (by decide +kernel) (by decide +kernel)⟩⟩
theorem okK_80 : okK (7, 42, 27) := ⟨by decide, bg 307 (by decide +kernel) (by decide +kernel), fun h => absurd h (by decide), fun _ => ⟨bg 308 (by decide +kernel) (by decide +kernel), bg 309 (by decide +kernel) (by decide +kernel)⟩⟩
theorem okK_81 : okK (7, 45, 82) := ⟨by decide, bg 588 (by decide +kernel) (by decide +kernel), fun h => absurd h (by decide), fun _ => ⟨bg 589 (by decide +kernel) (by decide +kernel), bg 590 (by decide +kernel) (by decide +kernel)⟩⟩
theorem okK_82 : okK (7, 46, 28) := ⟨by decide, bg 311 (by decide +kernel) (by decide +kernel), fun h => absurd h (by decide), fun _ => ⟨bg 312 (by decide +kernel) (by decide +kernel), bg 313 (by decide +kernel) (by decide +kernel)⟩⟩
theorem okK_83 : okK (7, 50, 83) := ⟨by decide, bg 592 (by decide +kernel) (by decide +kernel), fun h => absurd h (by decide), fun _ => ⟨bg 593 (by decide +kernel) (by decide +kernel), bg 594 (by decide +kernel) (by decide +kernel)⟩⟩
theorem okK_84 : okK (7, 51, 29) := ⟨by decide, bg 315 (by decide +kernel) (by decide +kernel), fun h => absurd h (by decide), fun _ => ⟨bg 316 (by decide +kernel) (by decide +kernel), bg 317 (by decide +kernel) (by decide +kernel)⟩⟩
theorem okK_85 : okK (7, 54, 84) := ⟨by decide, bg 596 (by decide +kernel) (by decide +kernel), fun h => absurd h (by decide), fun _ => ⟨bg 597 (by decide +kernel) (by decide +kernel), bg 598 (by decide +kernel) (by decide +kernel)⟩⟩
theorem okK_86 : okK (7, 55, 30) := ⟨by decide, bg 319 (by decide +kernel) (by decide +kernel), fun h => absurd h (by decide), fun _ => ⟨bg 320 (by decide +kernel) (by decide +kernel), bg 321 (by decide +kernel) (by decide +kernel)⟩⟩
theorem okK_87 : okK (7, 58, 85) := ⟨by decide, bg 601 (by decide +kernel) (by decide +kernel), fun h => absurd h (by decide), fun _ => ⟨bg 602 (by decide +kernel) (by decide +kernel), bg 603 (by decide +kernel) (by decide +kernel)⟩⟩
theorem okK_88 : okK (7, 59, 31) := ⟨by decide, bg 344 (by decide +kernel) (by decide +kernel), fun h => absurd h (by decide), fun _ => ⟨bg 345 (by decide +kernel) (by decide +kernel), bg 346 (by decide +kernel) (by decide +kernel)⟩⟩
theorem okK_89 : okK (7, 63, 86) := ⟨by decide, bg 609 (by decide +kernel) (by decide +kernel), fun h => absurd h (by decide), fun _ => ⟨bg 610 (by decide +kernel) (by decide +kernel), bg 611 (by decide +kernel) (by decide +kernel)⟩⟩
theorem okK_90 : okK (7, 64, 32) := ⟨by decide, bg 348 (by decide +kernel) (by decide +kernel), fun h => absurd h (by decide), fun _ => ⟨bg 349 (by decide +kernel) (by decide +kernel), bg 350 (by decide +kernel) (by decide +kernel)⟩⟩
theorem okK_91 : okK (7, 67, 87) := ⟨by decide, bg 613 (by decide +kernel) (by decide +kernel), fun h => absurd h (by decide), fun _ => ⟨bg 614 (by decide +kernel) (by decide +kernel), bg 615 (by decide +kernel) (by decide +kernel)⟩⟩
theorem okK_92 : okK (7, 68, 33) := ⟨by decide, bg 362 (by decide +kernel) (by decide +kernel), fun h => absurd h (by decide), fun _ => ⟨bg 363 (by decide +kernel) (by decide +kernel), bg 364 (by decide +kernel) (by decide +kernel)⟩⟩
theorem okK_93 : okK (7, 71, 90) := ⟨by decide, bg 620 (by decide +kernel) (by decide +kernel), fun h => absurd h (by decide), fun _ => ⟨bg 621 (by decide +kernel) (by decide +kernel), bg 622 (by decide +kernel) (by decide +kernel)⟩⟩
theorem okK_94 : okK (7, 72, 34) := ⟨by decide, bg 374 (by decide +kernel) (by decide +kernel), fun h => absurd h (by decide), fun _ => ⟨bg 375 (by decide +kernel) (by decide +kernel), bg 376 (by decide +kernel) (by decide +kernel)⟩⟩
theorem okK_95 : okK (7, 76, 91) := ⟨by decide, bg 631 (by decide +kernel) (by decide +kernel), fun h => absurd h (by decide), fun _ => ⟨bg 632 (by decide +kernel) (by decide +kernel), bg 633 (by decide +kernel) (by decide +kernel)⟩⟩
theorem okK_96 : okK (7, 77, 35) := ⟨by decide, bg 380 (by decide +kernel) (by decide +kernel), fun h => absurd h (by decide), fun _ => ⟨bg 381 (by decide +kernel) (by decide +kernel), bg 382 (by decide +kernel) (by decide +kernel)⟩⟩
theorem okK_97 : okK (7, 80, 92) := ⟨by decide, bg 637 (by decide +kernel) (by decide +kernel), fun h => absurd h (by decide), fun _ => ⟨bg 638 (by decide +kernel) (by decide +kernel), bg 639 (by decide +kernel) (by decide +kernel)⟩⟩
theorem okK_98 : okK (7, 81, 36) := ⟨by decide, bg 384 (by decide +kernel) (by decide +kernel), fun h => absurd h (by decide), fun _ => ⟨bg 385 (by decide +kernel) (by decide +kernel), bg 386 (by decide +kernel) (by decide +kernel)⟩⟩
theorem okK_99 : okK (7, 84, 93) := ⟨by decide, bg 641 (by decide +kernel) (by decide +kernel), fun h => absurd h (by decide), fun _ => ⟨bg 642 (by decide +kernel) (by decide +kernel), bg 643 (by decide +kernel) (by decide +kernel)⟩⟩
theorem okK_100 : okK (7, 85, 37) := ⟨by decide, bg 403 (by decide +kernel) (by decide +kernel), fun h => absurd h (by decide), fun _ => ⟨bg 404 (by decide +kernel) (by decide +kernel), bg 405 (by decide +kernel) (by decide +kernel)⟩⟩
theorem okK_101 : okK (7, 88, 94) := ⟨by decide, bg 645 (by decide +kernel) (by decide +kernel), fun h => absurd h (by decide), fun _ => ⟨bg 646 (by decide +kernel) (by decide +kernel), bg 647 (by decide +kernel) (by decide +kernel)⟩⟩
theorem okK_102 : okK (7, 89, 38) := ⟨by decide, bg 407 (by decide +kernel) (by decide +kernel), fun h => absurd h (by decide), fun _ => ⟨bg 408 (by decide +kernel) (by decide +kernel), bg 409 (by decide +kernel) (by decide +kernel)⟩⟩
theorem okK_103 : okK (7, 92, 95) := ⟨by decide, bg 649 (by decide +kernel) (by decide +kernel), fun h => absurd h (by decide), fun _ => ⟨bg 650 (by decide +kernel) (by decide +kernel), bg 651 (by decide +kernel) (by decide +kernel)⟩⟩
theorem okK_104 : okK (7, 93, 39) := ⟨by decide, bg 411 (by decide +kernel) (by decide +kernel), fun h => absurd h (by decide), fun _ => ⟨bg 412 (by decide +kernel) (by decide +kernel), bg 413 (by decide +kernel) (by decide +kernel)⟩⟩
theorem okK_105 : okK (7, 96, 96) := ⟨by decide, bg 653 (by decide +kernel) (by decide +kernel), fun h => absurd h (by decide), fun _ => ⟨bg 654 (by decide +kernel) (by decide +kernel), bg 655 (by decide +kernel) (by decide +kernel)⟩⟩
theorem okKc_0 : ∀ e ∈ ([(0, 52, 101), (0, 65, 1), (0, 73, 19), (0, 77, 20), (0, 92, 10), (0, 96, 7), (0, 103, 100), (0, 107, 99), (0, 112, 8), (0, 116, 12), (0, 120, 15), (0, 123, 9), (0, 126, 11), (0, 136, 102), (0, 142, 13), (0, 145, 14), (0, 150, 16), (2, 41, 40), (2, 55, 41), (2, 58, 45), (2, 63, 46), (2, 67, 103), (2, 73, 43), (2, 78, 44), (2, 84, 48), (2, 91, 52), (2, 111, 50), (2, 115, 97), (2, 120, 49), (2, 126, 42)] : List (Nat × Nat × Nat)), okK e := List.forall_mem_cons.mpr ⟨okK_0, List.forall_mem_cons.mpr ⟨okK_1, List.forall_mem_cons.mpr ⟨okK_2, List.forall_mem_cons.mpr ⟨okK_3, List.forall_mem_cons.mpr ⟨okK_4, List.forall_mem_cons.mpr ⟨okK_5, List.forall_mem_cons.mpr ⟨okK_6, List.forall_mem_cons.mpr ⟨okK_7, List.forall_mem_cons.mpr ⟨okK_8, List.forall_mem_cons.mpr ⟨okK_9, List.forall_mem_cons.mpr ⟨okK_10, List.forall_mem_cons.mpr ⟨okK_11, List.forall_mem_cons.mpr ⟨okK_12, List.forall_mem_cons.mpr ⟨okK_13, List.forall_mem_cons.mpr ⟨okK_14, List.forall_mem_cons.mpr ⟨okK_15, List.forall_mem_cons.mpr ⟨okK_16, List.forall_mem_cons.mpr ⟨okK_17, List.forall_mem_cons.mpr ⟨okK_18, List.forall_mem_cons.mpr ⟨okK_19, List.forall_mem_cons.mpr ⟨okK_20, List.forall_mem_cons.mpr ⟨okK_21, List.forall_mem_cons.mpr ⟨okK_22, List.forall_mem_cons.mpr ⟨okK_23, List.forall_mem_cons.mpr ⟨okK_24, List.forall_mem_cons.mpr ⟨okK_25, List.forall_mem_cons.mpr ⟨okK_26, List.forall_mem_cons.mpr ⟨okK_27, List.forall_mem_cons.mpr ⟨okK_28, List.forall_mem_cons.mpr ⟨okK_29, fun _ h => absurd h List.not_mem_nil⟩⟩⟩⟩⟩⟩⟩⟩⟩⟩⟩⟩⟩⟩⟩⟩⟩⟩⟩⟩⟩⟩⟩⟩⟩⟩⟩⟩⟩⟩
theorem okKc_1 : ∀ e ∈ ([(2, 129, 51), (2, 139, 56), (2, 143, 55), (2, 151, 6), (2, 155, 18), (2, 159, 54), (2, 167, 47), (2, 170, 17), (2, 174, 0), (2, 178, 5), (2, 181, 7), (2, 185, 4), (2, 188, 53), (2, 191, 2), (2, 195, 3), (2, 200, 98), (2, 206, 99), (2, 210, 57), (3, 57, 59), (3, 65, 62), (3, 76, 65), (3, 80, 64), (3, 87, 61), (3, 90, 63), (3, 94, 66), (3, 97, 67), (3, 100, 69), (3, 104, 68), (3, 110, 58), (3, 131, 71)] : List (Nat × Nat × Nat)), okK e := List.forall_mem_cons.mpr ⟨okK_30, List.forall_mem_cons.mpr ⟨okK_31, List.forall_mem_cons.mpr ⟨okK_32, List.forall_mem_cons.mpr ⟨okK_33, List.forall_mem_cons.mpr ⟨okK_34, List.forall_mem_cons.mpr ⟨okK_35, List.forall_mem_cons.mpr ⟨okK_36, List.forall_mem_cons.mpr ⟨okK_37, List.forall_mem_cons.mpr ⟨okK_38, List.forall_mem_cons.mpr ⟨okK_39, List.forall_mem_cons.mpr ⟨okK_40, List.forall_mem_cons.mpr ⟨okK_41, List.forall_mem_cons.mpr ⟨okK_42, List.forall_mem_cons.mpr ⟨okK_43, List.forall_mem_cons.mpr ⟨okK_44, List.forall_mem_cons.mpr ⟨okK_45, List.forall_mem_cons.mpr ⟨okK_46, List.forall_mem_cons.mpr ⟨okK_47, List.forall_mem_cons.mpr ⟨okK_48, List.forall_mem_cons.mpr ⟨okK_49, List.forall_mem_cons.mpr ⟨okK_50, List.forall_mem_cons.mpr ⟨okK_51, List.forall_mem_cons.mpr ⟨okK_52, List.forall_mem_cons.mpr ⟨okK_53, List.forall_mem_cons.mpr ⟨okK_54, List.forall_mem_cons.mpr ⟨okK_55, List.forall_mem_cons.mpr ⟨okK_56, List.forall_mem_cons.mpr ⟨okK_57, List.forall_mem_cons.mpr ⟨okK_58, List.forall_mem_cons.mpr ⟨okK_59, fun _ h => absurd h List.not_mem_nil⟩⟩⟩⟩⟩⟩⟩⟩⟩⟩⟩⟩⟩⟩⟩⟩⟩⟩⟩⟩⟩⟩⟩⟩⟩⟩⟩⟩⟩⟩
theorem okKc_2 : ∀ e ∈ ([(3, 139, 77), (3, 148, 76), (3, 152, 72), (3, 156, 73), (3, 161, 70), (3, 164, 60), (3, 168, 88), (3, 171, 89), (7, 13, 21), (7, 17, 74), (7, 18, 22), (7, 22, 75), (7, 23, 23), (7, 27, 78), (7, 28, 24), (7, 32, 79), (7, 33, 25), (7, 36, 80), (7, 37, 26), (7, 41, 81), (7, 42, 27), (7, 45, 82), (7, 46, 28), (7, 50, 83), (7, 51, 29), (7, 54, 84), (7, 55, 30), (7, 58, 85), (7, 59, 31), (7, 63, 86)] : List (Nat × Nat × Nat)), okK e := List.forall_mem_cons.mpr ⟨okK_60, List.forall_mem_cons.mpr ⟨okK_61, List.forall_mem_cons.mpr ⟨okK_62, List.forall_mem_cons.mpr ⟨okK_63, List.forall_mem_cons.mpr ⟨okK_64, List.forall_mem_cons.mpr ⟨okK_65, List.forall_mem_cons.mpr ⟨okK_66, List.forall_mem_cons.mpr ⟨okK_67, List.forall_mem_cons.mpr ⟨okK_68, List.forall_mem_cons.mpr ⟨okK_69, List.forall_mem_cons.mpr ⟨okK_70, List.forall_mem_cons.mpr ⟨okK_71, List.forall_mem_cons.mpr ⟨okK_72, List.forall_mem_cons.mpr ⟨okK_73, List.forall_mem_cons.mpr ⟨okK_74, List.forall_mem_cons.mpr ⟨okK_75, List.forall_mem_cons.mpr ⟨okK_76, List.forall_mem_cons.mpr ⟨okK_77, List.forall_mem_cons.mpr ⟨okK_78, List.forall_mem_cons.mpr ⟨okK_79, List.forall_mem_cons.mpr ⟨okK_80, List.forall_mem_cons.mpr ⟨okK_81, List.forall_mem_cons.mpr ⟨okK_82, List.forall_mem_cons.mpr ⟨okK_83, List.forall_mem_cons.mpr ⟨okK_84, List.forall_mem_cons.mpr ⟨okK_85, List.forall_mem_cons.mpr ⟨okK_86, List.forall_mem_cons.mpr ⟨okK_87, List.forall_mem_cons.mpr ⟨okK_88, List.forall_mem_cons.mpr ⟨okK_89, fun _ h => absurd h List.not_mem_nil⟩⟩⟩⟩⟩⟩⟩⟩⟩⟩⟩⟩⟩⟩⟩⟩⟩⟩⟩⟩⟩⟩⟩⟩⟩⟩⟩⟩⟩⟩
theorem okKc_3 : ∀ e ∈ ([(7, 64, 32), (7, 67, 87), (7, 68, 33), (7, 71, 90), (7, 72, 34), (7, 76, 91), (7, 77, 35), (7, 80, 92), (7, 81, 36), (7, 84, 93), (7, 85, 37), (7, 88, 94), (7, 89, 38), (7, 92, 95), (7, 93, 39), (7, 96, 96)] : List (Nat × Nat × Nat)), okK e := List.forall_mem_cons.mpr ⟨okK_90, List.forall_mem_cons.mpr ⟨okK_91, List.forall_mem_cons.mpr ⟨okK_92, List.forall_mem_cons.mpr ⟨okK_93, List.forall_mem_cons.mpr ⟨okK_94, List.forall_mem_cons.mpr ⟨okK_95, List.forall_mem_cons.mpr ⟨okK_96, List.forall_mem_cons.mpr ⟨okK_97, List.forall_mem_cons.mpr ⟨okK_98, List.forall_mem_cons.mpr ⟨okK_99, List.forall_mem_cons.mpr ⟨okK_100, List.forall_mem_cons.mpr ⟨okK_101, List.forall_mem_cons.mpr ⟨okK_102, List.forall_mem_cons.mpr ⟨okK_103, List.forall_mem_cons.mpr ⟨okK_104, List.forall_mem_cons.mpr ⟨okK_105, fun _ h => absurd h List.not_mem_nil⟩⟩⟩⟩⟩⟩⟩⟩⟩⟩⟩⟩⟩⟩⟩⟩
theorem KTb_ok : ∀ e ∈ KTb, okK e := (List.forall_mem_append.mpr ⟨okKc_0, (List.forall_mem_append.mpr ⟨okKc_1, (List.forall_mem_append.mpr ⟨okKc_2, okKc_3⟩)⟩)⟩)
def YTb : List (Nat × Nat) := [(0, 86)]
def okY (e : Nat × Nat) : Prop := Cond.methodLink (cnm e.1) e.2 arraycopyName ∈ BIG ∧ Cond.native arraycopyName ∈ BIG ∧ Cond.static arraycopyName ∈ BIG ∧ Cond.initialized "java/lang/System" ∈ BIG
theorem okY_0 : okY (0, 86) := ⟨bg 396 (by decide +kernel) (by decide +kernel), bg 398 (by decide +kernel) (by decide +kernel), bg 397 (by decide +kernel) (by decide +kernel), bg 8 (by decide +kernel) (by decide +kernel)⟩
theorem okYc_0 : ∀ e ∈ ([(0, 86)] : List (Nat × Nat)), okY e := List.forall_mem_cons.mpr ⟨okY_0, fun _ h => absurd h List.not_mem_nil⟩
theorem YTb_ok : ∀ e ∈ YTb, okY e := okYc_0
end
section
/-! the mini machine: values, a flat memory, one instruction, runs -/
abbrev mV : Type := Int ⊕ (Int ⊕ Option Nat)
abbrev mL : Type := List (Option mV)
abbrev mIv : Type := Nat → Nat → Int
abbrev mRv : Type := Nat → Nat → Option Nat
def w32 (x : Int) : Int := Int.bmod x 4294967296
def w64 (x : Int) : Int := Int.bmod x 18446744073709551616
def st2 {α : Type} (f : Nat → Nat → α) (p k : Nat) (v : α) : Nat → Nat → α := fun q j => if q = p ∧ j = k then v else f q j
def lk {α : Type} : List (Nat × α) → Nat → Option α
  | [], _ => none
  | e :: r, k => match Nat.beq e.1 k with
    | true => some e.2
    | false => lk r k
def lk2 {α : Type} : List (Nat × Nat × α) → Nat → Nat → Option α
  | [], _, _ => none
  | e :: r, o, k => match Nat.beq e.1 o && Nat.beq e.2.1 k with
    | true => some e.2.2
    | false => lk2 r o k
def lk3 : List (Nat × Nat) → Nat → Nat → Bool
  | [], _, _ => false
  | e :: r, o, k => match Nat.beq e.1 o && Nat.beq e.2 k with
    | true => true
    | false => lk3 r o k
/-- the places: (0, type, length) a row of numbers, (1, type, length) a row of references, (2, class, fields) an object -/
def SHs : List (Nat × Nat × Nat) := [(2, 2, 10), (0, 0, 5), (0, 0, 5), (0, 0, 5), (0, 1, 5), (1, 3, 9),
  (2, 1, 7), (0, 0, 5), (2, 1, 7), (0, 0, 5), (2, 1, 7), (0, 0, 5), (2, 1, 7), (0, 0, 5), (2, 1, 7), (0, 0, 5), (2, 1, 7), (0, 0, 5), (2, 1, 7), (0, 0, 5), (2, 1, 7), (0, 0, 5), (2, 1, 7), (0, 0, 5),
  (2, 0, 16), (0, 1, 5), (0, 0, 9), (0, 0, 9), (0, 0, 5), (0, 1, 9), (1, 4, 9), (0, 1, 5), (0, 1, 5), (0, 1, 5), (0, 1, 5), (0, 1, 5), (0, 1, 5), (0, 1, 5), (0, 1, 5), (0, 1, 5), (0, 0, 5), (0, 0, 14), (0, 0, 14), (0, 0, 14), (0, 1, 45),
  (2, 0, 16), (0, 1, 5), (0, 0, 9), (0, 0, 9), (0, 0, 5), (0, 1, 9), (1, 4, 9), (0, 1, 5), (0, 1, 5), (0, 1, 5), (0, 1, 5), (0, 1, 5), (0, 1, 5), (0, 1, 5), (0, 1, 5), (0, 1, 5), (0, 0, 5), (0, 0, 14), (0, 0, 14), (0, 0, 14), (0, 1, 45),
  (2, 3, 21), (0, 0, 5), (0, 0, 5), (0, 2, 9), (0, 0, 9), (0, 0, 9), (0, 0, 9), (0, 0, 9), (0, 2, 9), (0, 0, 45), (0, 1, 30), (0, 1, 5), (0, 1, 5), (0, 1, 8), (0, 1, 8), (0, 0, 5)]
def shk (p : Nat) : Nat × Nat × Nat := SHs.getD p (0, 0, 0)
def isO (p c : Nat) : Prop := shk p = (2, c, fNk c)
def isA (p t : Nat) : Prop := (shk p).1 = 0 ∧ (shk p).2.1 = t
def isQ (p : Nat) : Prop := (shk p).1 = 1
def sln (p : Nat) : Int := ((shk p).2.2 : Nat)
def mln (iv : mIv) (p : Nat) : Int := if p = 1000000 then iv 1000001 0 else sln p
def isR (p : Nat) : Prop := (p < 82 ∨ p = 1000000) ∧ (shk p).1 ≤ 1
def cpyv (iv : mIv) (r q : Nat) (a d n : Int) : mIv := fun y j => if y = q ∧ d ≤ (j : Int) ∧ (j : Int) < d + n then iv r (a.toNat + (j - d.toNat)) else iv y j
def isC (p q : Nat) : Prop := p < 82 ∧ q < 82 ∧ (shk p).1 = 0 ∧ (shk q).1 = 0 ∧ (shk p).2.1 = (shk q).2.1 ∧ (shk p).2.1 < 2
def mget : mL → Nat → Option mV
  | [], _ => none
  | x :: _, 0 => x
  | _ :: r, k + 1 => mget r k
def mkl (L : mL) (i : Nat) : mL := match i with
  | 0 => L
  | j + 1 => match mget L j with
    | some (.inr (.inl _)) => L.set j none
    | _ => L
def mset1 (L : mL) (i : Nat) (v : mV) : Option mL := match Nat.blt i L.length with
  | true => some ((mkl L i).set i (some v))
  | false => none
def mset2 (L : mL) (i : Nat) (v : mV) : Option mL := match Nat.blt (i + 1) L.length with
  | true => some (((mkl L i).set i (some v)).set (i + 1) none)
  | false => none
def mconj : List Prop → Prop → Prop
  | [], P => P
  | c :: cs, P => c ∧ mconj cs P
def mball : List (Prop × Nat) → (Nat → Prop) → Prop
  | [], _ => True
  | b :: bs, P => (b.1 → P b.2) ∧ mball bs P
def lcv (x y : Int) : Int := if y < x then 1 else if x = y then 0 else -1
def mib : Instr → Option (Int → Int → Int)
  | .iadd => some (fun x y => w32 (x + y))
  | .isub => some (fun x y => w32 (x - y))
  | .imul => some (fun x y => w32 (x * y))
  | .iand => some (fun x y => (Int32.ofInt x &&& Int32.ofInt y).toInt)
  | .ior => some (fun x y => (Int32.ofInt x ||| Int32.ofInt y).toInt)
  | .ixor => some (fun x y => (Int32.ofInt x ^^^ Int32.ofInt y).toInt)
  | .ishl => some (fun x y => (Int32.ofInt x <<< (Int32.ofInt y &&& 31)).toInt)
  | .ishr => some (fun x y => (Int32.ofInt x >>> (Int32.ofInt y &&& 31)).toInt)
  | .iushr => some (fun x y => ((Int32.ofInt x).toUInt32 >>> ((Int32.ofInt y).toUInt32 &&& Int32.toUInt32 31)).toInt32.toInt)
  | _ => none
def mlb : Instr → Option (Int → Int → Int)
  | .ladd => some (fun x y => w64 (x + y))
  | .lsub => some (fun x y => w64 (x - y))
  | .lmul => some (fun x y => w64 (x * y))
  | .lxor => some (fun x y => (Int64.ofInt x ^^^ Int64.ofInt y).toInt)
  | _ => none
def mcat : List mV → Nat
  | [] => 0
  | .inr (.inl _) :: r => 2 + mcat r
  | _ :: r => 1 + mcat r
abbrev mSt : Type := Nat × mL × List mV × mIv × mRv
/-- an instruction that goes on at one place: what must hold, and where it goes on -/
def mnx (o : Nat) (i : Instr) (n : Nat) (pc : Nat) (L : mL) (st : List mV) (iv : mIv) (rv : mRv) : Option (List Prop × mSt) := match i with
  | .iconst v => some ([], pc + n, L, .inl v :: st, iv, rv)
  | .bipush v => some ([], pc + n, L, .inl v :: st, iv, rv)
  | .sipush v => some ([], pc + n, L, .inl v :: st, iv, rv)
  | .lconst v => some ([], pc + n, L, .inr (.inl (v.val : Nat)) :: st, iv, rv)
  | .ldc ix => match lk2 CTb o ix with
    | some v => some ([], pc + n, L, .inl v :: st, iv, rv)
    | none => none
  | .ldc_w ix => match lk2 CTb o ix with
    | some v => some ([], pc + n, L, .inl v :: st, iv, rv)
    | none => none
  | .ldc2_w ix => match lk2 DTb o ix with
    | some v => some ([], pc + n, L, .inr (.inl v) :: st, iv, rv)
    | none => none
  | .iload_n k => match mget L k.val with
    | some (.inl x) => some ([], pc + n, L, .inl x :: st, iv, rv)
    | _ => none
  | .iload k => match mget L k with
    | some (.inl x) => some ([], pc + n, L, .inl x :: st, iv, rv)
    | _ => none
  | .lload_n k => match mget L k.val with
    | some (.inr (.inl x)) => some ([], pc + n, L, .inr (.inl x) :: st, iv, rv)
    | _ => none
  | .lload k => match mget L k with
    | some (.inr (.inl x)) => some ([], pc + n, L, .inr (.inl x) :: st, iv, rv)
    | _ => none
  | .aload_n k => match mget L k.val with
    | some (.inr (.inr (some x))) => some ([], pc + n, L, .inr (.inr (some x)) :: st, iv, rv)
    | _ => none
  | .aload k => match mget L k with
    | some (.inr (.inr (some x))) => some ([], pc + n, L, .inr (.inr (some x)) :: st, iv, rv)
    | _ => none
  | .istore_n k => match st with
    | .inl x :: r => match mset1 L k.val (.inl x) with
      | some L' => some ([], pc + n, L', r, iv, rv)
      | none => none
    | _ => none
  | .istore k => match st with
    | .inl x :: r => match mset1 L k (.inl x) with
      | some L' => some ([], pc + n, L', r, iv, rv)
      | none => none
    | _ => none
  | .lstore_n k => match st with
    | .inr (.inl x) :: r => match mset2 L k.val (.inr (.inl x)) with
      | some L' => some ([], pc + n, L', r, iv, rv)
      | none => none
    | _ => none
  | .lstore k => match st with
    | .inr (.inl x) :: r => match mset2 L k (.inr (.inl x)) with
      | some L' => some ([], pc + n, L', r, iv, rv)
      | none => none
    | _ => none
  | .astore_n k => match st with
    | .inr (.inr (some x)) :: r => match mset1 L k.val (.inr (.inr (some x))) with
      | some L' => some ([], pc + n, L', r, iv, rv)
      | none => none
    | _ => none
  | .astore k => match st with
    | .inr (.inr (some x)) :: r => match mset1 L k (.inr (.inr (some x))) with
      | some L' => some ([], pc + n, L', r, iv, rv)
      | none => none
    | _ => none
  | .iinc k v => match mget L k with
    | some (.inl x) => match mset1 L k (.inl (w32 (x + v))) with
      | some L' => some ([], pc + n, L', st, iv, rv)
      | none => none
    | _ => none
  | .ineg => match st with
    | .inl x :: r => some ([], pc + n, L, .inl (w32 (-x)) :: r, iv, rv)
    | _ => none
  | .lneg => match st with
    | .inr (.inl x) :: r => some ([], pc + n, L, .inr (.inl (w64 (-x))) :: r, iv, rv)
    | _ => none
  | .i2l => match st with
    | .inl x :: r => some ([], pc + n, L, .inr (.inl x) :: r, iv, rv)
    | _ => none
  | .l2i => match st with
    | .inr (.inl x) :: r => some ([], pc + n, L, .inl (w32 x) :: r, iv, rv)
    | _ => none
  | .lcmp => match st with
    | .inr (.inl y) :: .inr (.inl x) :: r => some ([], pc + n, L, .inl (lcv x y) :: r, iv, rv)
    | _ => none
  | .ldiv => match st with
    | .inr (.inl y) :: .inr (.inl x) :: r => some ([y ≠ 0], pc + n, L, .inr (.inl (w64 (x.tdiv y))) :: r, iv, rv)
    | _ => none
  | .lrem => match st with
    | .inr (.inl y) :: .inr (.inl x) :: r => some ([y ≠ 0], pc + n, L, .inr (.inl (x.tmod y)) :: r, iv, rv)
    | _ => none
  | .dup => match st with
    | .inl x :: r => some ([], pc + n, L, .inl x :: .inl x :: r, iv, rv)
    | .inr (.inr x) :: r => some ([], pc + n, L, .inr (.inr x) :: .inr (.inr x) :: r, iv, rv)
    | _ => none
  | .dup2 => match st with
    | .inr (.inl x) :: r => some ([], pc + n, L, .inr (.inl x) :: .inr (.inl x) :: r, iv, rv)
    | .inl x :: .inr (.inr y) :: r => some ([], pc + n, L, .inl x :: .inr (.inr y) :: .inl x :: .inr (.inr y) :: r, iv, rv)
    | _ => none
  | .goto off => match Int.decLt ((pc : Int) + off) 0 with
    | .isTrue _ => none
    | .isFalse _ => some ([], ((pc : Int) + off).toNat, L, st, iv, rv)
  | .getfield ix => match lk2 FTb o ix with
    | some (c, k) => match st with
      | .inr (.inr (some p)) :: r => match fCd c k with
        | 1 => some ([isO p c], pc + n, L, .inr (.inl (iv p k)) :: r, iv, rv)
        | 3 => some ([isO p c, (rv p k).isSome = true], pc + n, L, .inr (.inr (some ((rv p k).getD 0))) :: r, iv, rv)
        | _ => some ([isO p c], pc + n, L, .inl (iv p k) :: r, iv, rv)
      | _ => none
    | none => none
  | .putfield ix => match lk2 FTb o ix with
    | some (c, k) => match fFn c k with
      | true => none
      | false => match fCd c k, st with
        | 0, .inl x :: .inr (.inr (some p)) :: r => some ([isO p c], pc + n, L, r, st2 iv p k x, rv)
        | 1, .inr (.inl x) :: .inr (.inr (some p)) :: r => some ([isO p c], pc + n, L, r, st2 iv p k x, rv)
        | 2, .inl x :: .inr (.inr (some p)) :: r => some ([isO p c, x = 0 ∨ x = 1], pc + n, L, r, st2 iv p k x, rv)
        | 3, .inr (.inr (some q)) :: .inr (.inr (some p)) :: r => some ([isO p c], pc + n, L, r, iv, st2 rv p k (some q))
        | _, _ => none
    | none => none
  | .arraylength => match st with
    | .inr (.inr (some p)) :: r => some ([isR p], pc + n, L, .inl (mln iv p) :: r, iv, rv)
    | _ => none
  | .iaload => match st with
    | .inl j :: .inr (.inr (some p)) :: r => some ([isA p 0, 0 ≤ j, j < mln iv p], pc + n, L, .inl (iv p j.toNat) :: r, iv, rv)
    | _ => none
  | .laload => match st with
    | .inl j :: .inr (.inr (some p)) :: r => some ([isA p 1, 0 ≤ j, j < sln p], pc + n, L, .inr (.inl (iv p j.toNat)) :: r, iv, rv)
    | _ => none
  | .baload => match st with
    | .inl j :: .inr (.inr (some p)) :: r => some ([isA p 2, 0 ≤ j, j < sln p], pc + n, L, .inl (iv p j.toNat) :: r, iv, rv)
    | _ => none
  | .aaload => match st with
    | .inl j :: .inr (.inr (some p)) :: r => some ([isQ p, 0 ≤ j, j < sln p, (rv p j.toNat).isSome = true], pc + n, L, .inr (.inr (some ((rv p j.toNat).getD 0))) :: r, iv, rv)
    | _ => none
  | .iastore => match st with
    | .inl x :: .inl j :: .inr (.inr (some p)) :: r => some ([isA p 0, 0 ≤ j, j < sln p], pc + n, L, r, st2 iv p j.toNat x, rv)
    | _ => none
  | .lastore => match st with
    | .inr (.inl x) :: .inl j :: .inr (.inr (some p)) :: r => some ([isA p 1, 0 ≤ j, j < sln p], pc + n, L, r, st2 iv p j.toNat x, rv)
    | _ => none
  | .bastore => match st with
    | .inl x :: .inl j :: .inr (.inr (some p)) :: r => some ([isA p 2, 0 ≤ j, j < sln p, x = 0 ∨ x = 1], pc + n, L, r, st2 iv p j.toNat x, rv)
    | _ => none
  | .invokestatic ix => match lk3 YTb o ix with
    | true => match st with
      | .inl c :: .inl d :: .inr (.inr (some q)) :: .inl a :: .inr (.inr (some p)) :: r => match Nat.ble (mcat r) 8 with
        | true => some ([isC p q, 0 ≤ a, 0 ≤ d, 0 ≤ c, a + c ≤ sln p, d + c ≤ sln q], pc + n, L, r, cpyv iv p q a d c, rv)
        | false => none
      | _ => none
    | false => none
  | _ => match mib i with
    | some f => match st with
      | .inl y :: .inl x :: r => some ([], pc + n, L, .inl (f x y) :: r, iv, rv)
      | _ => none
    | none => match mlb i with
      | some f => match st with
        | .inr (.inl y) :: .inr (.inl x) :: r => some ([], pc + n, L, .inr (.inl (f x y)) :: r, iv, rv)
        | _ => none
      | none => none
def mcd (c : Jvm.ClassFile.Cond) (x y : Int) : Prop := match c with
  | .eq => x = y
  | .ne => ¬ x = y
  | .lt => x < y
  | .ge => y ≤ x
  | .gt => y < x
  | .le => x ≤ y
def mtg (pc : Nat) (off : Int) : Option Nat := match Int.decLt ((pc : Int) + off) 0 with
  | .isTrue _ => none
  | .isFalse _ => some ((pc : Int) + off).toNat
def mtb (pc : Nat) (x : Int) : Int → List Int → Option (List (Prop × Nat))
  | _, [] => some []
  | k, off :: r => match mtg pc off, mtb pc x (k + 1) r with
    | some t, some bs => some ((x = k, t) :: bs)
    | _, _ => none
/-- an instruction that chooses -/
def mbr (i : Instr) (n pc : Nat) (st : List mV) : Option (List (Prop × Nat) × List mV) := match i with
  | .ifCond c off => match st with
    | .inl x :: r => match mtg pc off with
      | some t => some ([(mcd c x 0, t), (¬ mcd c x 0, pc + n)], r)
      | none => none
    | _ => none
  | .if_icmp c off => match st with
    | .inl y :: .inl x :: r => match mtg pc off with
      | some t => some ([(mcd c x y, t), (¬ mcd c x y, pc + n)], r)
      | none => none
    | _ => none
  | .tableswitch d lo hi offs => match st with
    | .inl x :: r => match mtg pc d, mtb pc x lo offs.toList with
      | some t, some bs => match decEq hi (lo + offs.toList.length - 1) with
        | .isTrue _ => some ((x < lo ∨ hi < x, t) :: bs, r)
        | .isFalse _ => none
      | _, _ => none
    | _ => none
  | _ => none
def mtk : Nat → List mV → List mV → Option (List mV × List mV)
  | 0, st, acc => some (acc, st)
  | n + 1, v :: st, acc => mtk n st (v :: acc)
  | _ + 1, [], _ => none
def mslots : List mV → mL
  | [] => []
  | .inr (.inl x) :: r => some (.inr (.inl x)) :: none :: mslots r
  | v :: r => some v :: mslots r
/-- a call: what must hold, the callee, its arguments, what is left -/
def mcl (F Lc o : Nat) (i : Instr) (st : List mV) : Option (List Prop × Nat × List mV × List mV) := match i with
  | .invokestatic ix => match lk2 KTb o ix with
    | some M => match (mth M).2.2.2.2.2.2.1, mtk (mth M).2.2.2.2.2.2.2.1 st [] with
      | true, some (as, r) => match Nat.ble (mslots as).length (mth M).2.2.2.1 && (Nat.ble (mcat r) 8 && (Nat.ble ((mth M).2.2.2.2.2.2.2.2.1 + 1) F && Nat.ble (8 + ((mth M).2.2.2.1 + 11) + (mth M).2.2.2.2.2.2.2.2.2) Lc)) with
        | true => some ([], M, as, r)
        | false => none
      | _, _ => none
    | none => none
  | .invokevirtual ix => match lk2 KTb o ix with
    | some M => match (mth M).2.2.2.2.2.2.1, mtk (mth M).2.2.2.2.2.2.2.1 st [] with
      | false, some (as, .inr (.inr (some p)) :: r) => match Nat.ble (mslots (.inr (.inr (some p)) :: as)).length (mth M).2.2.2.1 && (Nat.ble (mcat r) 8 && (Nat.ble ((mth M).2.2.2.2.2.2.2.2.1 + 1) F && Nat.ble (8 + ((mth M).2.2.2.1 + 11) + (mth M).2.2.2.2.2.2.2.2.2) Lc)) with
        | true => some ([isO p (mth M).2.2.2.2.2.1], M, .inr (.inr (some p)) :: as, r)
        | false => none
      | _, _ => none
    | none => none
  | _ => none
def mrt (ret : Option FieldType) (i : Instr) (st : List mV) : Option (List Prop × Option mV) := match i, ret, st with
  | .ireturn, some .int, [.inl x] => some ([], some (.inl x))
  | .ireturn, some .boolean, [.inl x] => some ([x = 0 ∨ x = 1], some (.inl x))
  | .lreturn, some .long, [.inr (.inl x)] => some ([], some (.inr (.inl x)))
  | .return_, none, [] => some ([], none)
  | _, _, _ => none
def mentry (n : Nat) (as : List mV) : mL := mslots as ++ List.replicate (n - (mslots as).length) none
def mpush (r : Option mV) (st : List mV) : List mV := match r with
  | some v => v :: st
  | none => st
def mex : Nat → Nat → Nat → mL → List mV → mIv → mRv → (Option mV → mIv → mRv → Prop) → Prop
  | 0, _, _, _, _, _, _, _ => False
  | n + 1, M, pc, L, st, iv, rv, Q => match lk (mth M).1 pc with
    | none => False
    | some (i, len) => match mnx (mth M).2.2.2.2.2.1 i len pc L st iv rv with
      | some (Cs, pc', L', st', iv', rv') => mconj Cs (mex n M pc' L' st' iv' rv' Q)
      | none => match mbr i len pc st with
        | some (bs, st') => mball bs (fun t => mex n M t L st' iv rv Q)
        | none => match mcl (mth M).2.2.2.2.2.2.2.2.1 (mth M).2.2.2.2.2.2.2.2.2 (mth M).2.2.2.2.2.1 i st with
          | some (Cs, M', as, r) => mconj Cs (mex n M' 0 (mentry (mth M').2.2.2.1 as) [] iv rv (fun v iv' rv' => mex n M (pc + 3) L (mpush v r) iv' rv' Q))
          | none => match mrt (mth M).2.2.2.2.1 i st with
            | some (Cs, v) => mconj Cs (Q v iv rv)
            | none => False
def Ex (M pc : Nat) (L : mL) (st : List mV) (iv : mIv) (rv : mRv) (Q : Option mV → mIv → mRv → Prop) : Prop := ∃ n, mex n M pc L st iv rv Q
end
section
/-! numbers -/
def okI (x : Int) : Prop := -2147483648 ≤ x ∧ x < 2147483648
def okJ (x : Int) : Prop := -9223372036854775808 ≤ x ∧ x < 9223372036854775808
theorem w32_ok (x : Int) : okI (w32 x) := by
  unfold w32 okI
  have h1 := Int.le_bmod (x := x) (m := 4294967296) (by decide)
  have h2 := Int.bmod_lt (x := x) (m := 4294967296) (by decide)
  omega
theorem w64_ok (x : Int) : okJ (w64 x) := by
  unfold w64 okJ
  have h1 := Int.le_bmod (x := x) (m := 18446744073709551616) (by decide)
  have h2 := Int.bmod_lt (x := x) (m := 18446744073709551616) (by decide)
  omega
theorem w32_eq {x : Int} (h : okI x) : w32 x = x := by
  unfold okI at h
  unfold w32
  exact Int.bmod_eq_of_le (by omega) (by omega)
theorem w64_eq {x : Int} (h : okJ x) : w64 x = x := by
  unfold okJ at h
  unfold w64
  exact Int.bmod_eq_of_le (by omega) (by omega)
theorem tI {x : Int} (h : okI x) : (Int32.ofInt x).toInt = x := by
  rw [Int32.toInt_ofInt]; exact w32_eq h
theorem tJ {x : Int} (h : okJ x) : (Int64.ofInt x).toInt = x := by
  rw [Int64.toInt_ofInt]; exact w64_eq h
theorem okI_toInt (z : Int32) : okI z.toInt := by
  have h1 := z.toInt_lt; have h2 := z.le_toInt; unfold okI; omega
theorem okJ_toInt (z : Int64) : okJ z.toInt := by
  have h1 := z.toInt_lt; have h2 := z.le_toInt; unfold okJ; omega
theorem oI (z : Int32) : Int32.ofInt z.toInt = z := Int32.toInt_inj.mp (tI (okI_toInt z))
theorem oJ (z : Int64) : Int64.ofInt z.toInt = z := Int64.toInt_inj.mp (tJ (okJ_toInt z))
theorem okI_J {x : Int} (h : okI x) : okJ x := by unfold okI at h; unfold okJ; omega
theorem i_add {x y : Int} (hx : okI x) (hy : okI y) : Int32.ofInt x + Int32.ofInt y = Int32.ofInt (w32 (x + y)) := by
  apply Int32.toInt_inj.mp; rw [tI (w32_ok _), Int32.toInt_add, tI hx, tI hy]; rfl
theorem i_sub {x y : Int} (hx : okI x) (hy : okI y) : Int32.ofInt x - Int32.ofInt y = Int32.ofInt (w32 (x - y)) := by
  apply Int32.toInt_inj.mp; rw [tI (w32_ok _), Int32.toInt_sub, tI hx, tI hy]; rfl
theorem i_mul {x y : Int} (hx : okI x) (hy : okI y) : Int32.ofInt x * Int32.ofInt y = Int32.ofInt (w32 (x * y)) := by
  apply Int32.toInt_inj.mp; rw [tI (w32_ok _), Int32.toInt_mul, tI hx, tI hy]; rfl
theorem i_neg {x : Int} (hx : okI x) : -Int32.ofInt x = Int32.ofInt (w32 (-x)) := by
  apply Int32.toInt_inj.mp; rw [tI (w32_ok _), Int32.toInt_neg, tI hx]; rfl
theorem j_add {x y : Int} (hx : okJ x) (hy : okJ y) : Int64.ofInt x + Int64.ofInt y = Int64.ofInt (w64 (x + y)) := by
  apply Int64.toInt_inj.mp; rw [tJ (w64_ok _), Int64.toInt_add, tJ hx, tJ hy]; rfl
theorem j_sub {x y : Int} (hx : okJ x) (hy : okJ y) : Int64.ofInt x - Int64.ofInt y = Int64.ofInt (w64 (x - y)) := by
  apply Int64.toInt_inj.mp; rw [tJ (w64_ok _), Int64.toInt_sub, tJ hx, tJ hy]; rfl
theorem j_mul {x y : Int} (hx : okJ x) (hy : okJ y) : Int64.ofInt x * Int64.ofInt y = Int64.ofInt (w64 (x * y)) := by
  apply Int64.toInt_inj.mp; rw [tJ (w64_ok _), Int64.toInt_mul, tJ hx, tJ hy]; rfl
theorem j_neg {x : Int} (hx : okJ x) : -Int64.ofInt x = Int64.ofInt (w64 (-x)) := by
  apply Int64.toInt_inj.mp; rw [tJ (w64_ok _), Int64.toInt_neg, tJ hx]; rfl
theorem j_div {x y : Int} (hx : okJ x) (hy : okJ y) : Int64.ofInt x / Int64.ofInt y = Int64.ofInt (w64 (x.tdiv y)) := by
  apply Int64.toInt_inj.mp; rw [tJ (w64_ok _), Int64.toInt_div, tJ hx, tJ hy]; rfl
theorem tmod_ok {x y : Int} (hx : okJ x) : okJ (x.tmod y) := by
  unfold okJ at *
  have h1 : (x.tmod y).natAbs ≤ x.natAbs := by
    rw [Int.natAbs_tmod]; exact Nat.mod_le _ _
  have h2 : 0 ≤ x → 0 ≤ x.tmod y := fun h => Int.tmod_nonneg _ h
  have h3 : x ≤ 0 → x.tmod y ≤ 0 := fun h => by
    have := Int.tmod_nonneg (a := -x) y (by omega)
    rw [Int.neg_tmod] at this
    omega
  omega
theorem j_rem {x y : Int} (hx : okJ x) (hy : okJ y) : Int64.ofInt x - Int64.ofInt x / Int64.ofInt y * Int64.ofInt y = Int64.ofInt (x.tmod y) := by
  rw [j_div hx hy, j_mul (w64_ok _) hy, j_sub hx (w64_ok _)]
  congr 1
  have h : x - x.tdiv y * y = x.tmod y := by
    have := Int.tmod_def x y
    rw [this, Int.mul_comm]
  have h2 : w64 (x - w64 (w64 (x.tdiv y) * y)) = w64 (x - x.tdiv y * y) := by
    unfold w64
    simp
  rw [h2, h, w64_eq (tmod_ok hx)]
theorem j_xor {x y : Int} : Int64.ofInt x ^^^ Int64.ofInt y = Int64.ofInt (Int64.ofInt x ^^^ Int64.ofInt y).toInt := (oJ _).symm
theorem i_l {x : Int} (hx : okI x) : (Int32.ofInt x).toInt64 = Int64.ofInt x := by
  apply Int64.toInt_inj.mp; rw [Int32.toInt_toInt64, tI hx, tJ (okI_J hx)]
theorem l_i {x : Int} (hx : okJ x) : (Int64.ofInt x).toInt32 = Int32.ofInt (w32 x) := by
  apply Int32.toInt_inj.mp; rw [Int64.toInt_toInt32, tJ hx, tI (w32_ok _)]; rfl
theorem i_eq {x y : Int} (hx : okI x) (hy : okI y) : Int32.ofInt x = Int32.ofInt y ↔ x = y := by rw [← Int32.toInt_inj, tI hx, tI hy]
theorem i_lt {x y : Int} (hx : okI x) (hy : okI y) : Int32.ofInt x < Int32.ofInt y ↔ x < y := by rw [Int32.lt_iff_toInt_lt, tI hx, tI hy]
theorem i_le {x y : Int} (hx : okI x) (hy : okI y) : Int32.ofInt x ≤ Int32.ofInt y ↔ x ≤ y := by rw [Int32.le_iff_toInt_le, tI hx, tI hy]
theorem j_eq {x y : Int} (hx : okJ x) (hy : okJ y) : Int64.ofInt x = Int64.ofInt y ↔ x = y := by rw [← Int64.toInt_inj, tJ hx, tJ hy]
theorem j_lt {x y : Int} (hx : okJ x) (hy : okJ y) : Int64.ofInt x < Int64.ofInt y ↔ x < y := by rw [Int64.lt_iff_toInt_lt, tJ hx, tJ hy]
theorem lcv_ok (x y : Int) : okI (lcv x y) := by
  unfold lcv okI
  by_cases h1 : y < x
  · rw [if_pos h1]; omega
  · rw [if_neg h1]
    by_cases h2 : x = y
    · rw [if_pos h2]; omega
    · rw [if_neg h2]; omega
theorem j_cmp {x y : Int} (hx : okJ x) (hy : okJ y) : lg_cmp (Int64.ofInt x) (Int64.ofInt y) = Int32.ofInt (lcv x y) := by
  unfold lg_cmp lcv
  by_cases h1 : y < x
  · rw [if_pos h1, if_pos ((j_lt hy hx).mpr h1)]; rfl
  · rw [if_neg h1, if_neg (fun h => h1 ((j_lt hy hx).mp h))]
    by_cases h2 : x = y
    · rw [if_pos h2, if_pos (by rw [h2])]; rfl
    · rw [if_neg h2, if_neg (fun h => h2 ((j_eq hx hy).mp h))]; rfl
theorem i_0 : Int32.ofInt 0 = 0 := rfl
theorem okI_0 : okI 0 := by unfold okI; omega
theorem okJ_0 : okJ 0 := by unfold okJ; omega
theorem i_cl {x : Int} (hx : okI x) : (Int32.ofInt x).toNatClampNeg = x.toNat := by
  unfold Int32.toNatClampNeg; rw [tI hx]
theorem i_in {x : Int} {n : Nat} (hx : okI x) (h0 : 0 ≤ x) (h1 : x < n) : vp_in (Int32.ofInt x) n := by
  rw [vp_in_iff, tI hx]; exact ⟨h0, h1⟩
/-! values, locals, the world -/
def mval (ad : Nat → Nat) : mV → Value
  | .inl x => .int (Int32.ofInt x)
  | .inr (.inl x) => .long (Int64.ofInt x)
  | .inr (.inr r) => va_rf (r.map ad)
def okv : mV → Prop
  | .inl x => okI x
  | .inr (.inl x) => okJ x
  | .inr (.inr _) => True
def isLg (p j : Nat) : Bool := match shk p with
  | (0, t, _) => Nat.beq t 1
  | (1, _, _) => false
  | (_, c, _) => Nat.beq (fCd c j) 1
def okh (iv : mIv) : Prop := ∀ p j, (isLg p j = true → okJ (iv p j)) ∧ (isLg p j = false → okI (iv p j))
def mfv (ad : Nat → Nat) (k : Nat) (iv : mIv) (rv : mRv) (p j : Nat) : Value := match k with
  | 1 => .long (Int64.ofInt (iv p j))
  | 3 => va_rf ((rv p j).map ad)
  | _ => .int (Int32.ofInt (iv p j))
def mce (ad : Nat → Nat) (cy : Nat → ClassId) (iv : mIv) (rv : mRv) (p : Nat) : va_E := match shk p with
  | (0, t, n) => if t = 1 then .inl (cy t, n, .inr (.inl (fun j => Int64.ofInt (iv p j)))) else .inl (cy t, n, .inl (fun j => Int32.ofInt (iv p j)))
  | (1, t, n) => .inl (cy t, n, .inr (.inr (.inr (.inr (fun j => (rv p j).map ad)))))
  | (_, c, n) => .inr (c, (List.range n).map (fun j => mfv ad (fCd c j) iv rv p j))
def mwl (ad : Nat → Nat) (cy : Nat → ClassId) (iv : mIv) (rv : mRv) : va_W := (List.range 82).map (fun p => (ad p, mce ad cy iv rv p))
def mA (ad : Nat → Nat) (q : Nat) : Prop := ∃ k, k < 82 ∧ ad k = q
def mty (cy : Nat → ClassId) : List (ClassId × FieldType) := [(cy 0, .int), (cy 1, .long), (cy 2, .boolean), (cy 3, .object RX1), (cy 4, .array .long)]
theorem mwl_get {ad : Nat → Nat} {cy : Nat → ClassId} {iv : mIv} {rv : mRv} {p : Nat} (h : p < 82) : (mwl ad cy iv rv)[p]? = some (ad p, mce ad cy iv rv p) := by
  unfold mwl
  rw [List.getElem?_map, List.getElem?_range h]; rfl
theorem mwl_set {ad : Nat → Nat} {cy : Nat → ClassId} {iv iv' : mIv} {rv rv' : mRv} {p : Nat} (h : p < 82) (hq : ∀ q, q ≠ p → mce ad cy iv' rv' q = mce ad cy iv rv q) : (mwl ad cy iv rv).set p (ad p, mce ad cy iv' rv' p) = mwl ad cy iv' rv' := by
  apply List.ext_getElem?
  intro k
  rw [List.getElem?_set]
  by_cases hk : p = k
  · subst hk
    have hl : p < (mwl ad cy iv rv).length := by unfold mwl; simp; exact h
    rw [if_pos rfl, if_pos hl, mwl_get h]
  · rw [if_neg hk]
    by_cases h82 : k < 82
    · rw [mwl_get h82, mwl_get h82, hq k (fun e => hk e.symm)]
    · rw [List.getElem?_eq_none (by unfold mwl; simp; omega), List.getElem?_eq_none (by unfold mwl; simp; omega)]
theorem mce_ne {ad : Nat → Nat} {cy : Nat → ClassId} {iv iv' : mIv} {rv rv' : mRv} {q : Nat} (h1 : ∀ j, iv' q j = iv q j) (h2 : ∀ j, rv' q j = rv q j) : mce ad cy iv' rv' q = mce ad cy iv rv q := by
  have e1 : iv' q = iv q := funext h1
  have e2 : rv' q = rv q := funext h2
  unfold mce mfv
  rw [e1, e2]
theorem st2_ne {α : Type} {f : Nat → Nat → α} {p k q j : Nat} {v : α} (h : q ≠ p) : st2 f p k v q j = f q j := by
  unfold st2; rw [if_neg (fun e => h e.1)]
theorem st2_nk {α : Type} {f : Nat → Nat → α} {p k q j : Nat} {v : α} (h : j ≠ k) : st2 f p k v q j = f q j := by
  unfold st2; rw [if_neg (fun e => h e.2)]
theorem st2_eq {α : Type} {f : Nat → Nat → α} {p k : Nat} {v : α} : st2 f p k v p k = v := by
  unfold st2; rw [if_pos ⟨rfl, rfl⟩]
theorem shk_lt {p : Nat} (h : shk p ≠ (0, 0, 0)) : p < 82 := by
  apply Classical.byContradiction
  intro hn
  apply h
  unfold shk
  rw [List.getD_eq_getElem?_getD, List.getElem?_eq_none]
  · rfl
  · have : SHs.length = 82 := by decide
    omega
theorem shk_n0 {p : Nat} (h : (shk p).2.2 ≠ 0) : p < 82 := shk_lt (fun e => h (by rw [e]))
theorem mget_lt {L : mL} : ∀ {k : Nat} {v : mV}, mget L k = some v → k < L.length := by
  induction L with
  | nil => intro k v h; cases h
  | cons x r ih =>
    intro k v h
    cases k with
    | zero => simp
    | succ k => have := ih (k := k) (v := v) h; simp; omega
theorem mget_set (L : mL) (i : Nat) (x : Option mV) : ∀ k : Nat, mget (L.set i x) k = if k = i ∧ i < L.length then x else mget L k := by
  induction L generalizing i with
  | nil => intro k; simp [mget]
  | cons y r ih =>
    intro k
    cases i with
    | zero => cases k <;> simp [mget, List.set]
    | succ i => cases k with
      | zero => simp [mget, List.set]
      | succ k => simp [mget, List.set, ih i k]
def lvl (ad : Nat → Nat) (L : mL) : List (Nat × Value) := (List.range L.length).filterMap (fun k => (mget L k).map (fun v => (k, mval ad v)))
theorem lvl_in {ad : Nat → Nat} {L : mL} {k : Nat} {v : mV} (h : mget L k = some v) : (k, mval ad v) ∈ lvl ad L := by
  unfold lvl
  rw [List.mem_filterMap]
  exact ⟨k, List.mem_range.mpr (mget_lt h), by rw [h]; rfl⟩
/-- the locals -/
def mLo (ad : Nat → Nat) (nL : Nat) (L : mL) (ls : Array Slot) : Prop := L.length = nL ∧ lv_has ls nL (lvl ad L) ∧ ∀ k v, mget L k = some v → okv v
theorem mLo.at {ad : Nat → Nat} {nL : Nat} {L : mL} {ls : Array Slot} (h : mLo ad nL L ls) {k : Nat} {v : mV} (hk : mget L k = some v) : ls[k]? = some (.val (mval ad v)) := h.2.1.2.2 _ (lvl_in hk)
theorem mLo.to {ad : Nat → Nat} {nL : Nat} {L : mL} {ls : Array Slot} {lv : List (Nat × Value)} (hl : L.length = nL) (h : lv_has ls nL lv) (hv : ∀ k v, mget L k = some v → (k, mval ad v) ∈ lv ∧ okv v) : mLo ad nL L ls := by
  refine ⟨hl, ⟨h.1, h.2.1, fun q hq => ?_⟩, fun k v hk => (hv k v hk).2⟩
  unfold lvl at hq
  obtain ⟨k, -, he⟩ := List.mem_filterMap.mp hq
  cases hg : mget L k with
  | none => rw [hg] at he; cases he
  | some v => rw [hg] at he; cases he; exact h.2.2 _ (hv k v hg).1
theorem mval_cat2 {ad : Nat → Nat} {v : mV} (h : (mval ad v).category = 2) : ∃ x, v = .inr (.inl x) := by
  rcases v with x | x | r
  · cases h
  · exact ⟨x, rfl⟩
  · cases r <;> cases h
theorem mkl_len (L : mL) (i : Nat) : (mkl L i).length = L.length := by
  unfold mkl
  cases i with
  | zero => rfl
  | succ j =>
    simp only
    split <;> simp
theorem mkl_get {L : mL} {i k : Nat} {v : mV} (h : mget (mkl L i) k = some v) : mget L k = some v ∧ ¬ (k + 1 = i ∧ ∃ x, v = .inr (.inl x)) := by
  unfold mkl at h
  cases i with
  | zero => exact ⟨h, fun e => by omega⟩
  | succ j =>
    simp only at h
    split at h
    · rename_i x hx
      rw [mget_set] at h
      split at h
      · cases h
      · rename_i hn
        refine ⟨h, fun e => hn ⟨by omega, mget_lt hx⟩⟩
    · rename_i hn
      refine ⟨h, fun e => ?_⟩
      obtain ⟨e1, x, e2⟩ := e
      have : k = j := by omega
      subst this
      rw [e2] at h
      exact hn x h
theorem mLo.set1 {ad : Nat → Nat} {nL : Nat} {L L' : mL} {ls ls' : Array Slot} {i : Nat} {v : mV} (h : mLo ad nL L ls) (hs : mset1 L i v = some L') (hv : okv v) (hn : lv_has ls' nL ((i, mval ad v) :: (lvl ad L).filter (fun q => !(q.1 == i) && !(q.1 + 1 == i && q.2.category == 2)))) : mLo ad nL L' ls' := by
  unfold mset1 at hs
  split at hs
  · cases hs
    refine mLo.to (by simp [mkl_len]; exact h.1) hn (fun k w hk => ?_)
    rw [mget_set] at hk
    split at hk
    · rename_i hc
      cases hk
      rw [hc.1]
      exact ⟨List.mem_cons_self, hv⟩
    · rename_i hc
      obtain ⟨g1, g2⟩ := mkl_get hk
      refine ⟨List.mem_cons_of_mem _ (List.mem_filter.mpr ⟨lvl_in g1, ?_⟩), h.2.2 k w g1⟩
      have hki : k ≠ i := fun e => hc ⟨e, by subst e; rw [mkl_len]; exact mget_lt g1⟩
      by_cases h2 : k + 1 = i
      · have hc2 : (mval ad w).category ≠ 2 := fun e => g2 ⟨h2, mval_cat2 e⟩
        simp [hki, h2, hc2]
      · simp [hki, h2]
  · cases hs
theorem mLo.set2 {ad : Nat → Nat} {nL : Nat} {L L' : mL} {ls ls' : Array Slot} {i : Nat} {v : mV} (h : mLo ad nL L ls) (hs : mset2 L i v = some L') (hv : okv v) (hn : lv_has ls' nL ((i, mval ad v) :: (lvl ad L).filter (fun q => !(q.1 == i) && (!(q.1 == i + 1) && !(q.1 + 1 == i && q.2.category == 2))))) : mLo ad nL L' ls' := by
  unfold mset2 at hs
  split at hs
  · cases hs
    refine mLo.to (by simp [mkl_len]; exact h.1) hn (fun k w hk => ?_)
    rw [mget_set] at hk
    split at hk
    · cases hk
    · rename_i hc0
      rw [mget_set] at hk
      split at hk
      · rename_i hc
        cases hk
        rw [hc.1]
        exact ⟨List.mem_cons_self, hv⟩
      · rename_i hc
        obtain ⟨g1, g2⟩ := mkl_get hk
        refine ⟨List.mem_cons_of_mem _ (List.mem_filter.mpr ⟨lvl_in g1, ?_⟩), h.2.2 k w g1⟩
        have hki : k ≠ i := fun e => hc ⟨e, by subst e; rw [mkl_len]; exact mget_lt g1⟩
        have hki1 : k ≠ i + 1 := fun e => hc0 ⟨e, by subst e; simp [mkl_len]; exact mget_lt g1⟩
        by_cases h2 : k + 1 = i
        · have hc2 : (mval ad w).category ≠ 2 := fun e => g2 ⟨h2, mval_cat2 e⟩
          simp [hki, hki1, h2, hc2]
        · simp [hki, hki1, h2]
  · cases hs
theorem mset1_lt {L L' : mL} {i : Nat} {v : mV} (hs : mset1 L i v = some L') : i < L.length := by
  unfold mset1 at hs
  split at hs
  · rename_i h; simpa using h
  · cases hs
theorem mset2_lt {L L' : mL} {i : Nat} {v : mV} (hs : mset2 L i v = some L') : i + 1 < L.length := by
  unfold mset2 at hs
  split at hs
  · rename_i h; simpa using h
  · cases hs
/-- what stays of a world, and what goes -/
def mWs (D : va_G) (ad : Nat → Nat) (cy : Nat → ClassId) (b Ls : Nat) (xs : Nat → Int32) (s : State) : Prop := va_K D vwCl (mty cy) s ∧ va_X b Ls xs s s.heap ∧ b < s.heap.size ∧ ¬ mA ad b ∧ ad 1000000 = b ∧ Ls ≤ 3584
def mWd (D : va_G) (ad : Nat → Nat) (cy : Nat → ClassId) (Ls : Nat) (xs : Nat → Int32) (H0 : Heap) (iv : mIv) (rv : mRv) (H : Heap) (locs : List Loc) : Prop := va_P D vwCl (mwl ad cy iv rv) H ∧ va_D (mA ad) (mwl ad cy iv rv) ∧ va_S (mA ad) H0 H locs ∧ okh iv ∧ (∀ j, iv 1000000 j = (xs j).toInt) ∧ iv 1000001 0 = (Ls : Int)
theorem mce_A {ad : Nat → Nat} {cy : Nat → ClassId} {iv : mIv} {rv : mRv} {p t : Nat} (h : isA p t) (ht : t ≠ 1) : mce ad cy iv rv p = .inl (cy t, (shk p).2.2, .inl (fun j => Int32.ofInt (iv p j))) := by
  obtain ⟨h1, h2⟩ := h
  unfold mce
  generalize shk p = sp at h1 h2
  obtain ⟨a, a2, a3⟩ := sp
  simp only at h1 h2
  subst h1; subst h2
  simp [ht]
theorem mce_J {ad : Nat → Nat} {cy : Nat → ClassId} {iv : mIv} {rv : mRv} {p : Nat} (h : isA p 1) : mce ad cy iv rv p = .inl (cy 1, (shk p).2.2, .inr (.inl (fun j => Int64.ofInt (iv p j)))) := by
  obtain ⟨h1, h2⟩ := h
  unfold mce
  generalize shk p = sp at h1 h2
  obtain ⟨a, a2, a3⟩ := sp
  simp only at h1 h2
  subst h1; subst h2
  simp
theorem mce_Q {ad : Nat → Nat} {cy : Nat → ClassId} {iv : mIv} {rv : mRv} {p : Nat} (h : isQ p) : mce ad cy iv rv p = .inl (cy (shk p).2.1, (shk p).2.2, .inr (.inr (.inr (.inr (fun j => (rv p j).map ad))))) := by
  unfold isQ at h
  unfold mce
  generalize shk p = sp at h
  obtain ⟨a, a2, a3⟩ := sp
  simp only at h
  subst h
  simp
theorem mce_O {ad : Nat → Nat} {cy : Nat → ClassId} {iv : mIv} {rv : mRv} {p c : Nat} (h : isO p c) : mce ad cy iv rv p = .inr (c, (List.range (fNk c)).map (fun j => mfv ad (fCd c j) iv rv p j)) := by
  unfold isO at h
  unfold mce
  rw [h]
  rfl
theorem isO_lt {p c : Nat} (h : isO p c) : p < 82 := shk_lt (fun e => by unfold isO at h; rw [h] at e; cases e)
theorem sln_lt {p : Nat} {j : Int} (h0 : 0 ≤ j) (h : j < sln p) : p < 82 := shk_n0 (fun e => by unfold sln at h; rw [e] at h; simp at h; omega)
theorem isLg_A {p t j : Nat} (h : isA p t) : isLg p j = Nat.beq t 1 := by
  obtain ⟨h1, h2⟩ := h
  unfold isLg
  generalize shk p = sp at h1 h2
  obtain ⟨a, a2, a3⟩ := sp
  simp only at h1 h2
  subst h1; subst h2
  rfl
theorem isLg_O {p c j : Nat} (h : isO p c) : isLg p j = Nat.beq (fCd c j) 1 := by
  unfold isO at h
  unfold isLg
  rw [h]
  rfl
end
section
/-! one instruction of the mini machine is one of the machine -/
def okIn (o F Lc : Nat) (i : Instr) (n : Nat) : Bool := match i with
  | .iconst v => Nat.beq n 1 && (decide (-128 ≤ v) && decide (v < 128))
  | .bipush v => Nat.beq n 2 && (decide (-128 ≤ v) && decide (v < 128))
  | .sipush v => Nat.beq n 3 && (decide (-32768 ≤ v) && decide (v < 32768))
  | .lconst _ => Nat.beq n 1
  | .ldc _ => Nat.beq n 2
  | .ldc_w _ => Nat.beq n 3
  | .ldc2_w _ => Nat.beq n 3
  | .iload_n _ => Nat.beq n 1
  | .lload_n _ => Nat.beq n 1
  | .aload_n _ => Nat.beq n 1
  | .iload _ => Nat.beq n 2
  | .lload _ => Nat.beq n 2
  | .aload _ => Nat.beq n 2
  | .istore_n _ => Nat.beq n 1
  | .lstore_n _ => Nat.beq n 1
  | .astore_n _ => Nat.beq n 1
  | .istore _ => Nat.beq n 2
  | .lstore _ => Nat.beq n 2
  | .astore _ => Nat.beq n 2
  | .iinc _ v => Nat.beq n 3 && (decide (-32768 ≤ v) && decide (v < 32768))
  | .goto _ => Nat.beq n 3
  | .ifCond _ _ => Nat.beq n 3
  | .if_icmp _ _ => Nat.beq n 3
  | .getfield _ => Nat.beq n 3
  | .putfield _ => Nat.beq n 3
  | .invokevirtual _ => Nat.beq n 3
  | .invokestatic ix => Nat.beq n 3 && (!(lk3 YTb o ix) || (Nat.ble 1 F && Nat.ble 60 Lc))
  | .tableswitch _ _ _ _ => true
  | .new _ => true
  | .invokespecial _ => true
  | .iadd | .isub | .imul | .iand | .ior | .ixor | .ishl | .ishr | .iushr | .ineg | .i2l | .l2i | .ladd | .lsub | .lmul | .lxor | .lneg | .ldiv | .lrem | .lcmp | .dup | .dup2 | .arraylength | .iaload | .laload | .baload | .aaload | .iastore | .lastore | .bastore | .ireturn | .lreturn | .return_ => Nat.beq n 1
  | _ => false
def mRl (D : va_G) (ad : Nat → Nat) (cy : Nat → ClassId) (Ls : Nat) (xs : Nat → Int32) (s : State) (nL : Nat) (L : mL) (st : List mV) (iv : mIv) (rv : mRv) (H : Heap) (locs : List Loc) (ls : Array Slot) : Prop := mLo ad nL L ls ∧ (∀ v ∈ st, okv v) ∧ mWd D ad cy Ls xs s.heap iv rv H locs
theorem mconj_of {Cs : List Prop} {P : Prop} (h : mconj Cs P) : (∀ c ∈ Cs, c) ∧ P := by
  induction Cs with
  | nil => exact ⟨fun _ h => absurd h List.not_mem_nil, h⟩
  | cons c cs ih => exact ⟨List.forall_mem_cons.mpr ⟨h.1, (ih h.2).1⟩, (ih h.2).2⟩
theorem mconj_to {Cs : List Prop} {P : Prop} (h : ∀ c ∈ Cs, c) (hp : P) : mconj Cs P := by
  induction Cs with
  | nil => exact hp
  | cons c cs ih => exact ⟨h c List.mem_cons_self, ih (fun c hc => h c (List.mem_cons_of_mem _ hc))⟩
theorem lk_in {α : Type} {l : List (Nat × α)} {k : Nat} {x : α} (h : lk l k = some x) : (k, x) ∈ l := by
  induction l with
  | nil => cases h
  | cons e r ih =>
    unfold lk at h
    split at h
    · rename_i hb
      have := Nat.eq_of_beq_eq_true hb
      cases h
      subst this
      exact List.mem_cons_self
    · exact List.mem_cons_of_mem _ (ih h)
theorem lk2_in {α : Type} {l : List (Nat × Nat × α)} {o k : Nat} {x : α} (h : lk2 l o k = some x) : (o, k, x) ∈ l := by
  induction l with
  | nil => cases h
  | cons e r ih =>
    unfold lk2 at h
    split at h
    · rename_i hb
      have hb := Bool.and_eq_true_iff.mp hb
      have h1 := Nat.eq_of_beq_eq_true hb.1
      have h2 := Nat.eq_of_beq_eq_true hb.2
      cases h
      subst h1; subst h2
      exact List.mem_cons_self
    · exact List.mem_cons_of_mem _ (ih h)
theorem lk3_in {l : List (Nat × Nat)} {o k : Nat} (h : lk3 l o k = true) : (o, k) ∈ l := by
  induction l with
  | nil => cases h
  | cons e r ih =>
    unfold lk3 at h
    split at h
    · rename_i hb
      have hb := Bool.and_eq_true_iff.mp hb
      have h1 := Nat.eq_of_beq_eq_true hb.1
      have h2 := Nat.eq_of_beq_eq_true hb.2
      subst h1; subst h2
      exact List.mem_cons_self
    · exact List.mem_cons_of_mem _ (ih h)
theorem i8_eq {v : Int} (h1 : -128 ≤ v) (h2 : v < 128) : (Int8.ofInt v).toInt32 = Int32.ofInt v := by
  apply Int32.toInt_inj.mp
  rw [Int8.toInt_toInt32, tI (by unfold okI; omega), Int8.toInt_ofInt_of_le (by omega) (by omega)]
theorem i16_eq {v : Int} (h1 : -32768 ≤ v) (h2 : v < 32768) : (Int16.ofInt v).toInt32 = Int32.ofInt v := by
  apply Int32.toInt_inj.mp
  rw [Int16.toInt_toInt32, tI (by unfold okI; omega), Int16.toInt_ofInt_of_le (by omega) (by omega)]
section STP
variable {p : Program} {l : Launch} {e : Env} {R : Room} {s : State} {m : MethodId} {args : Array Value} {below : List Frame} {meth : Method} {c : Code} {H : Heap} {locs : List Loc} {cells slots : Nat} {Qw : State → Prop}
variable {cc : ByteArray} {pc : Nat} {ls : Array Slot} {D : va_G} {ad : Nat → Nat} {cy : Nat → ClassId} {b Ls : Nat} {xs : Nat → Int32} {nL o : Nat} {L L' : mL} {st st' : List mV} {iv iv' : mIv} {rv rv' : mRv}
theorem mRl.stack (h : mRl D ad cy Ls xs s nL L st iv rv H locs ls) (hs : ∀ v ∈ st', okv v) : mRl D ad cy Ls xs s nL L st' iv rv H locs ls := ⟨h.1, hs, h.2.2⟩
theorem mRl.top {v : mV} (h : mRl D ad cy Ls xs s nL L (v :: st) iv rv H locs ls) : okv v := h.2.1 v List.mem_cons_self
theorem mRl.pop {v : mV} (h : mRl D ad cy Ls xs s nL L (v :: st) iv rv H locs ls) : mRl D ad cy Ls xs s nL L st iv rv H locs ls := h.stack (fun w hw => h.2.1 w (List.mem_cons_of_mem _ hw))
theorem mRl.push {v : mV} (h : mRl D ad cy Ls xs s nL L st iv rv H locs ls) (hv : okv v) : mRl D ad cy Ls xs s nL L (v :: st) iv rv H locs ls := h.stack (List.forall_mem_cons.mpr ⟨hv, h.2.1⟩)
/-- a world written at one place -/
theorem mRl.put {q : Nat} (h : mRl D ad cy Ls xs s nL L st iv rv H locs ls) {H1 : Heap} {locs1 : List Loc} (hq : q < 82) (he : ∀ x, x ≠ q → mce ad cy iv' rv' x = mce ad cy iv rv x) (hP : va_P D vwCl ((mwl ad cy iv rv).set q (ad q, mce ad cy iv' rv' q)) H1) (hD : va_D (mA ad) ((mwl ad cy iv rv).set q (ad q, mce ad cy iv' rv' q))) (hS : va_S (mA ad) s.heap H1 locs1) (ho : okh iv') (h1 : ∀ j, iv' 1000000 j = iv 1000000 j) (h2 : iv' 1000001 0 = iv 1000001 0) : mRl D ad cy Ls xs s nL L st iv' rv' H1 locs1 ls := by
  rw [mwl_set hq he] at hP hD
  exact ⟨h.1, h.2.1, hP, hD, hS, ho, fun j => by rw [h1]; exact h.2.2.2.2.2.2.1 j, by rw [h2]; exact h.2.2.2.2.2.2.2⟩
theorem okh_st2 {q k : Nat} {x : Int} (h : okh iv) (hx : (isLg q k = true → okJ x) ∧ (isLg q k = false → okI x)) : okh (st2 iv q k x) := by
  intro p j
  by_cases e : p = q ∧ j = k
  · obtain ⟨rfl, rfl⟩ := e
    rw [st2_eq]; exact hx
  · unfold st2
    rw [if_neg e]
    exact h p j
theorem mty_in : (mty cy)[0]? = some (cy 0, .int) ∧ (mty cy)[1]? = some (cy 1, .long) ∧ (mty cy)[2]? = some (cy 2, .boolean) := ⟨rfl, rfl, rfl⟩
theorem fT_ok {k ci : Nat} (hc : ci < 4) : vwCl[ci]? = some (cnm ci, fTk ci, fNk ci) ∧ (∀ w ∈ u_ws (cnm ci) (fTk ci) (fNk ci), w ∈ lw_tbl) ∧ (∀ k, k < fNk ci → parseFieldDescriptor (fTk ci k).2.2.1 = some (fTy ci k)) ∧ (∀ a, a < fNk ci → ∀ b, b < fNk ci → a ≠ b → (fTk ci a).2.1 ≠ (fTk ci b).2.1) := by
  rcases (show ci = 0 ∨ ci = 1 ∨ ci = 2 ∨ ci = 3 by omega) with rfl | rfl | rfl | rfl
  · exact ⟨rfl, inX0, tyX0_ok, nmX0⟩
  · exact ⟨rfl, inX1, tyX1_ok, nmX1⟩
  · exact ⟨rfl, inX2, tyX2_ok, nmX2⟩
  · exact ⟨rfl, inX3, tyX3_ok, nmX3⟩
def isTy : FieldType → Nat → Bool
  | .int, 0 => true
  | .long, 1 => true
  | .boolean, 2 => true
  | .object _, 3 => true
  | .array _, 3 => true
  | _, _ => false
theorem fC_ok : ∀ ci, ci < 4 → ∀ k, k < fNk ci → (fTk ci k).1 = cnm ci ∧ (fTk ci k).2.2.2 = fFn ci k ∧ isTy (fTy ci k) (fCd ci k) = true ∧ fCd ci k < 4 := by decide +kernel
theorem lay_good : ∀ ci, ci < 4 → ∀ w ∈ u_ws (cnm ci) (fTk ci) (fNk ci), goodWord w = true := by decide +kernel
theorem lay_big {ci : Nat} (hc : ci < 4) : ∀ w ∈ u_ws (cnm ci) (fTk ci) (fNk ci), w ∈ BIG := fun w hw => List.mem_filter.mpr ⟨(fT_ok (k := 0) hc).2.1 w hw, lay_good ci hc w hw⟩
end STP
end
section
/-! the instructions that go on at one place -/
theorem bq {n k : Nat} (h : Nat.beq n k = true) : n = k := Nat.eq_of_beq_eq_true h
theorem mfs_set {n k : Nat} {f f' : Nat → Value} {v : Value} (hk : k < n) (h1 : f' k = v) (h2 : ∀ j, j ≠ k → f' j = f j) : ((List.range n).map f).set k v = (List.range n).map f' := by
  apply List.ext_getElem?
  intro j
  rw [List.getElem?_set]
  by_cases hj : k = j
  · subst hj
    rw [if_pos rfl, if_pos (by simp; exact hk), List.getElem?_map, List.getElem?_range hk, Option.map_some, h1]
  · rw [if_neg hj, List.getElem?_map, List.getElem?_map]
    cases h : (List.range n)[j]? with
    | none => rfl
    | some w =>
      have : w = j := by
        have hl := (List.getElem?_eq_some_iff.mp h).1
        rw [List.length_range] at hl
        rw [List.getElem?_range hl] at h
        exact (Option.some.inj h).symm
      subst this
      rw [Option.map_some, Option.map_some, h2 w (fun e => hj e.symm)]
theorem mfv_n {ad : Nat → Nat} {iv iv' : mIv} {rv rv' : mRv} {p j k : Nat} (h1 : iv' p j = iv p j) (h2 : rv' p j = rv p j) : mfv ad k iv' rv' p j = mfv ad k iv rv p j := by
  unfold mfv; rw [h1, h2]
theorem cat_rf (r : Option Nat) : (va_rf r).category = 1 := by cases r <;> rfl
theorem nz_bool {x : Int} (h : x = 0 ∨ x = 1) : narrow .boolean (.int (Int32.ofInt x)) = .int (Int32.ofInt x) ∧ fits .boolean (.int (Int32.ofInt x)) = true ∧ vp_nar .boolean (Int32.ofInt x) = Int32.ofInt x := by
  rcases h with rfl | rfl <;> decide +kernel
section SNX
variable {p : Program} {l : Launch} {e : Env} {R : Room} {s : State} {m : MethodId} {args : Array Value} {below : List Frame} {meth : Method} {c : Code} {H : Heap} {locs : List Loc} {cells slots : Nat} {Qw : State → Prop}
variable {cc : ByteArray} {pc : Nat} {ls : Array Slot} {D : va_G} {ad : Nat → Nat} {cy : Nat → ClassId} {b Ls : Nat} {xs : Nat → Int32} {nL o : Nat} {L L' : mL} {st st' : List mV} {iv iv' : mIv} {rv rv' : mRv}
theorem s_get {ix ci k q pc' : Nat} {v : mV} (hx : p.tables.exec = Jvm.exec) (hb : c.code = cc) (hown : s.vm.findClass (cnm o) = some m.cls) (hts : ∀ w ∈ BIG, w.before args s = true) (hWs : mWs D ad cy b Ls xs s) (hf : lk2 FTb o ix = some (ci, k)) (hO : isO q ci) (hdg : decode cc pc = .ok (.getfield ix, 3)) (hr : mRl D ad cy Ls xs s nL L (.inr (.inr (some q)) :: st) iv rv H locs ls) (hv : mfv ad (fCd ci k) iv rv q k = mval ad v) (ho : okv v)
    (kk : ∀ H' locs' ls', mRl D ad cy Ls xs s nL L (v :: st) iv rv H' locs' ls' → W p l e R s m args below meth c H' locs' cells slots Qw (F0 m (pc + 3) ls' ((v :: st).map (mval ad)))) : W p l e R s m args below meth c H locs cells slots Qw (F0 m pc ls ((.inr (.inr (some q)) :: st).map (mval ad))) := by
  obtain ⟨hc, hk, hw⟩ := FTb_ok _ (lk2_in hf)
  obtain ⟨g1, g2, g3, g4⟩ := fT_ok (k := 0) hc
  obtain ⟨f1, f2, f3, f4⟩ := fC_ok ci hc k hk
  refine va_get (D := D) (ci := ci) (v := mfv ad (fCd ci k) iv rv q k) (C := cnm ci) (T := fTk ci) (N := fNk ci) hx hb hts (lay_big hc) hown hWs.1 hr.2.2.1 q (by rw [mwl_get (isO_lt hO), mce_O hO]) g1 k hk (hts _ hw) (fun x hx => by rw [← f1]; exact hx) (by rw [List.getElem?_map, List.getElem?_range hk]; rfl) hdg ?_
  rw [hv]
  exact kk _ _ _ (hr.pop.push ho)
theorem s_put {ix ci k q : Nat} {v : mV} (hx : p.tables.exec = Jvm.exec) (hb : c.code = cc) (hown : s.vm.findClass (cnm o) = some m.cls) (hts : ∀ w ∈ BIG, w.before args s = true) (hWs : mWs D ad cy b Ls xs s) (hf : lk2 FTb o ix = some (ci, k)) (hfin : fFn ci k = false) (hO : isO q ci) (hdg : decode cc pc = .ok (.putfield ix, 3)) (hr : mRl D ad cy Ls xs s nL L (v :: .inr (.inr (some q)) :: st) iv rv H locs ls)
    (hn : narrow (fTy ci k) (mval ad v) = mval ad v) (hfit : fits (fTy ci k) (mval ad v) = true) (hv : mfv ad (fCd ci k) iv' rv' q k = mval ad v) (h1 : ∀ a j, ¬ (a = q ∧ j = k) → iv' a j = iv a j) (h2 : ∀ a j, ¬ (a = q ∧ j = k) → rv' a j = rv a j) (ho : okh iv')
    (kk : ∀ H' locs' ls', mRl D ad cy Ls xs s nL L st iv' rv' H' locs' ls' → W p l e R s m args below meth c H' locs' cells slots Qw (F0 m (pc + 3) ls' (st.map (mval ad)))) : W p l e R s m args below meth c H locs cells slots Qw (F0 m pc ls ((v :: .inr (.inr (some q)) :: st).map (mval ad))) := by
  obtain ⟨hc, hk, hw⟩ := FTb_ok _ (lk2_in hf)
  obtain ⟨g1, g2, g3, g4⟩ := fT_ok (k := 0) hc
  obtain ⟨f1, f2, f3, f4⟩ := fC_ok ci hc k hk
  have hq := isO_lt hO
  refine va_put (D := D) (ci := ci) (v := mval ad v) (ty := fTy ci k) (C := cnm ci) (T := fTk ci) (N := fNk ci) hx hb hts (lay_big hc) (fTy ci) g3 g4 hown hWs.1 hr.2.2.1 hr.2.2.2.1 hr.2.2.2.2.1 q (by rw [mwl_get hq, mce_O hO]) g1 k hk (hts _ hw) (fun x hx => by rw [← f1]; exact hx) (by rw [f2]; exact hfin) (g3 k hk) hn hfit (by simp; exact hk) hdg (fun H1 locs1 hP hD hS => ?_)
  have e : (Sum.inr (ci, ((List.range (fNk ci)).map (fun j => mfv ad (fCd ci j) iv rv q j)).set k (mval ad v)) : va_E) = mce ad cy iv' rv' q := by
    rw [mce_O hO, mfs_set (f' := fun j => mfv ad (fCd ci j) iv' rv' q j) hk hv (fun j hj => mfv_n (h1 q j (fun e => hj e.2)) (h2 q j (fun e => hj e.2)))]
  rw [e] at hP hD
  exact kk _ _ _ (hr.pop.pop.put hq (fun x hx => mce_ne (fun j => h1 x j (fun e => hx e.1)) (fun j => h2 x j (fun e => hx e.1))) hP hD hS ho (fun j => h1 _ j (fun e => by have := e.1; omega)) (h1 _ 0 (fun e => by have := e.1; omega)))
theorem s_ial {q : Nat} {j : Int} (hx : p.tables.exec = Jvm.exec) (hb : c.code = cc) (hWs : mWs D ad cy b Ls xs s) (hA : isA q 0) (h0 : 0 ≤ j) (hj : j < mln iv q) (hdg : decode cc pc = .ok (.iaload, 1)) (hr : mRl D ad cy Ls xs s nL L (.inl j :: .inr (.inr (some q)) :: st) iv rv H locs ls)
    (kk : ∀ H' locs' ls', mRl D ad cy Ls xs s nL L (.inl (iv q j.toNat) :: st) iv rv H' locs' ls' → W p l e R s m args below meth c H' locs' cells slots Qw (F0 m (pc + 1) ls' ((.inl (iv q j.toNat) :: st).map (mval ad)))) : W p l e R s m args below meth c H locs cells slots Qw (F0 m pc ls ((.inl j :: .inr (.inr (some q)) :: st).map (mval ad))) := by
  have hjo : okI j := hr.top
  have hok : okI (iv q j.toNat) := (hr.2.2.2.2.2.1 q j.toNat).2 (isLg_A hA)
  have K := kk H locs ls (hr.pop.pop.push hok)
  by_cases hq : q = 1000000
  · subst hq
    have hj2 : j < (Ls : Int) := by
      unfold mln at hj
      rw [if_pos rfl, hr.2.2.2.2.2.2.2] at hj
      exact hj
    have ee : mval ad (.inr (.inr (some 1000000))) = .ref b := by show Value.ref (ad 1000000) = _; rw [hWs.2.2.2.2.1]
    show W p l e R s m args below meth c H locs cells slots Qw (F0 m pc ls (.int (Int32.ofInt j) :: mval ad (.inr (.inr (some 1000000))) :: st.map (mval ad)))
    rw [ee]
    refine va_sld hx hb hWs.2.1 hWs.2.2.1 hWs.2.2.2.1 hr.2.2.2.2.1 (i_in hjo h0 hj2) hdg ?_
    rw [i_cl hjo]
    have e2 : (Value.int (xs j.toNat)) = mval ad (.inl (iv 1000000 j.toNat)) := by
      show _ = Value.int (Int32.ofInt (iv 1000000 j.toNat))
      rw [hr.2.2.2.2.2.2.1, oI]
    rw [e2]
    exact K
  · have hj2 : j < sln q := by unfold mln at hj; rw [if_neg hq] at hj; exact hj
    have hq82 := sln_lt h0 hj2
    refine va_iald hx hb hWs.1 hr.2.2.1 q 0 (by rw [mwl_get hq82, mce_A hA (by decide)]) rfl (i_in hjo h0 hj2) hdg ?_
    rw [i_cl hjo]
    exact K
theorem s_lal {q : Nat} {j : Int} (hx : p.tables.exec = Jvm.exec) (hb : c.code = cc) (hWs : mWs D ad cy b Ls xs s) (hA : isA q 1) (h0 : 0 ≤ j) (hj : j < sln q) (hdg : decode cc pc = .ok (.laload, 1)) (hr : mRl D ad cy Ls xs s nL L (.inl j :: .inr (.inr (some q)) :: st) iv rv H locs ls)
    (kk : ∀ H' locs' ls', mRl D ad cy Ls xs s nL L (.inr (.inl (iv q j.toNat)) :: st) iv rv H' locs' ls' → W p l e R s m args below meth c H' locs' cells slots Qw (F0 m (pc + 1) ls' ((.inr (.inl (iv q j.toNat)) :: st).map (mval ad)))) : W p l e R s m args below meth c H locs cells slots Qw (F0 m pc ls ((.inl j :: .inr (.inr (some q)) :: st).map (mval ad))) := by
  have hjo : okI j := hr.top
  have hok : okJ (iv q j.toNat) := (hr.2.2.2.2.2.1 q j.toNat).1 (isLg_A hA)
  refine va_lald hx hb hWs.1 hr.2.2.1 q 1 (by rw [mwl_get (sln_lt h0 hj), mce_J hA]) rfl (i_in hjo h0 hj) hdg ?_
  rw [i_cl hjo]
  exact kk H locs ls (hr.pop.pop.push hok)
theorem s_zal {q : Nat} {j : Int} (hx : p.tables.exec = Jvm.exec) (hb : c.code = cc) (hWs : mWs D ad cy b Ls xs s) (hA : isA q 2) (h0 : 0 ≤ j) (hj : j < sln q) (hdg : decode cc pc = .ok (.baload, 1)) (hr : mRl D ad cy Ls xs s nL L (.inl j :: .inr (.inr (some q)) :: st) iv rv H locs ls)
    (kk : ∀ H' locs' ls', mRl D ad cy Ls xs s nL L (.inl (iv q j.toNat) :: st) iv rv H' locs' ls' → W p l e R s m args below meth c H' locs' cells slots Qw (F0 m (pc + 1) ls' ((.inl (iv q j.toNat) :: st).map (mval ad)))) : W p l e R s m args below meth c H locs cells slots Qw (F0 m pc ls ((.inl j :: .inr (.inr (some q)) :: st).map (mval ad))) := by
  have hjo : okI j := hr.top
  have hok : okI (iv q j.toNat) := (hr.2.2.2.2.2.1 q j.toNat).2 (isLg_A hA)
  refine va_zald hx hb hWs.1 hr.2.2.1 q 2 (by rw [mwl_get (sln_lt h0 hj), mce_A hA (by decide)]) rfl (i_in hjo h0 hj) hdg ?_
  rw [i_cl hjo]
  exact kk H locs ls (hr.pop.pop.push hok)
theorem qty : ∀ q, q < 82 → (shk q).1 = 1 → (shk q).2.1 = 3 ∨ (shk q).2.1 = 4 := by decide +kernel
theorem s_aal {q : Nat} {j : Int} (hx : p.tables.exec = Jvm.exec) (hb : c.code = cc) (hWs : mWs D ad cy b Ls xs s) (hA : isQ q) (h0 : 0 ≤ j) (hj : j < sln q) (hsm : (rv q j.toNat).isSome = true) (hdg : decode cc pc = .ok (.aaload, 1)) (hr : mRl D ad cy Ls xs s nL L (.inl j :: .inr (.inr (some q)) :: st) iv rv H locs ls)
    (kk : ∀ H' locs' ls', mRl D ad cy Ls xs s nL L (.inr (.inr (some ((rv q j.toNat).getD 0))) :: st) iv rv H' locs' ls' → W p l e R s m args below meth c H' locs' cells slots Qw (F0 m (pc + 1) ls' ((.inr (.inr (some ((rv q j.toNat).getD 0))) :: st).map (mval ad)))) : W p l e R s m args below meth c H locs cells slots Qw (F0 m pc ls ((.inl j :: .inr (.inr (some q)) :: st).map (mval ad))) := by
  have hjo : okI j := hr.top
  have hq82 := sln_lt h0 hj
  have K := kk H locs ls (hr.pop.pop.push trivial)
  have hcell := hr.2.2.1 q _ (mwl_get hq82)
  have hin := i_in hjo h0 hj
  have hlt : (Int32.ofInt j).toNatClampNeg < (shk q).2.2 := Nat.not_le.mp fun z => hin (Or.inr z)
  have e : va_rf ((rv q j.toNat).map ad) = mval ad (.inr (.inr (some ((rv q j.toNat).getD 0)))) := by
    cases hv : rv q j.toNat with
    | none => rw [hv] at hsm; cases hsm
    | some w => rfl
  rw [mce_Q hA] at hcell
  rcases qty q hq82 hA with ht | ht
  · rw [ht] at hcell
    refine W.aald (v := va_rf ((rv q j.toNat).map ad)) (ty := .object RX1) hx hb hcell ((hWs.1.2 3 _ rfl).1 (shk q).2.2 (fun i => va_rf ((rv q i).map ad))) rfl (fun z => by cases z) (by show ¬ (Int32.ofInt j < 0 ∨ (arrV _ _ _).slots.size ≤ _); rw [arrV_size]; exact hin) (by show (arrV _ _ _).slots[_]? = _; rw [arrV_read _ _ hlt, i_cl hjo]) rfl rfl hdg ?_
    rw [e]; exact K
  · rw [ht] at hcell
    refine W.aald (v := va_rf ((rv q j.toNat).map ad)) (ty := .array .long) hx hb hcell ((hWs.1.2 4 _ rfl).1 (shk q).2.2 (fun i => va_rf ((rv q i).map ad))) rfl (fun z => by cases z) (by show ¬ (Int32.ofInt j < 0 ∨ (arrV _ _ _).slots.size ≤ _); rw [arrV_size]; exact hin) (by show (arrV _ _ _).slots[_]? = _; rw [arrV_read _ _ hlt, i_cl hjo]) rfl rfl hdg ?_
    rw [e]; exact K
theorem upd_st2 {q k : Nat} {x : Int} : upd (fun j => Int32.ofInt (iv q j)) k (Int32.ofInt x) = fun j => Int32.ofInt (st2 iv q k x q j) := by
  funext j
  unfold upd st2
  by_cases h : j = k
  · rw [if_pos h, if_pos ⟨rfl, h⟩]
  · rw [if_neg h, if_neg (fun e => h e.2)]
theorem updL_st2 {q k : Nat} {x : Int} : vp_updL (fun j => Int64.ofInt (iv q j)) k (Int64.ofInt x) = fun j => Int64.ofInt (st2 iv q k x q j) := by
  funext j
  unfold vp_updL st2
  by_cases h : j = k
  · rw [if_pos h, if_pos ⟨rfl, h⟩]
  · rw [if_neg h, if_neg (fun e => h e.2)]
theorem mRl.put2 {q k : Nat} {x : Int} (h : mRl D ad cy Ls xs s nL L st iv rv H locs ls) {H1 : Heap} {locs1 : List Loc} (hq : q < 82) (hP : va_P D vwCl ((mwl ad cy iv rv).set q (ad q, mce ad cy (st2 iv q k x) rv q)) H1) (hD : va_D (mA ad) ((mwl ad cy iv rv).set q (ad q, mce ad cy (st2 iv q k x) rv q))) (hS : va_S (mA ad) s.heap H1 locs1) (hx : (isLg q k = true → okJ x) ∧ (isLg q k = false → okI x)) : mRl D ad cy Ls xs s nL L st (st2 iv q k x) rv H1 locs1 ls :=
  h.put hq (fun y hy => mce_ne (fun j => st2_ne hy) (fun _ => rfl)) hP hD hS (okh_st2 h.2.2.2.2.2.1 hx) (fun j => st2_ne (by omega)) (st2_ne (by omega))
theorem s_ias {q : Nat} {j x : Int} (hx : p.tables.exec = Jvm.exec) (hb : c.code = cc) (hWs : mWs D ad cy b Ls xs s) (hA : isA q 0) (h0 : 0 ≤ j) (hj : j < sln q) (hdg : decode cc pc = .ok (.iastore, 1)) (hr : mRl D ad cy Ls xs s nL L (.inl x :: .inl j :: .inr (.inr (some q)) :: st) iv rv H locs ls)
    (kk : ∀ H' locs' ls', mRl D ad cy Ls xs s nL L st (st2 iv q j.toNat x) rv H' locs' ls' → W p l e R s m args below meth c H' locs' cells slots Qw (F0 m (pc + 1) ls' (st.map (mval ad)))) : W p l e R s m args below meth c H locs cells slots Qw (F0 m pc ls ((.inl x :: .inl j :: .inr (.inr (some q)) :: st).map (mval ad))) := by
  have hxo : okI x := hr.top
  have hjo : okI j := hr.pop.top
  have hq := sln_lt h0 hj
  refine va_iast hx hb hWs.1 hr.2.2.1 hr.2.2.2.1 hr.2.2.2.2.1 q 0 (by rw [mwl_get hq, mce_A hA (by decide)]) rfl (i_in hjo h0 hj) hdg (fun H1 locs1 hP hD hS => ?_)
  rw [i_cl hjo, upd_st2] at hP hD
  rw [← mce_A (rv := rv) (ad := ad) (cy := cy) hA (by decide)] at hP hD
  exact kk _ _ _ (hr.pop.pop.pop.put2 hq hP hD hS ⟨fun h => absurd ((isLg_A hA).symm.trans h) (by decide), fun _ => hxo⟩)
theorem s_las {q : Nat} {j x : Int} (hx : p.tables.exec = Jvm.exec) (hb : c.code = cc) (hWs : mWs D ad cy b Ls xs s) (hA : isA q 1) (h0 : 0 ≤ j) (hj : j < sln q) (hdg : decode cc pc = .ok (.lastore, 1)) (hr : mRl D ad cy Ls xs s nL L (.inr (.inl x) :: .inl j :: .inr (.inr (some q)) :: st) iv rv H locs ls)
    (kk : ∀ H' locs' ls', mRl D ad cy Ls xs s nL L st (st2 iv q j.toNat x) rv H' locs' ls' → W p l e R s m args below meth c H' locs' cells slots Qw (F0 m (pc + 1) ls' (st.map (mval ad)))) : W p l e R s m args below meth c H locs cells slots Qw (F0 m pc ls ((.inr (.inl x) :: .inl j :: .inr (.inr (some q)) :: st).map (mval ad))) := by
  have hxo : okJ x := hr.top
  have hjo : okI j := hr.pop.top
  have hq := sln_lt h0 hj
  refine va_last hx hb hWs.1 hr.2.2.1 hr.2.2.2.1 hr.2.2.2.2.1 q 1 (by rw [mwl_get hq, mce_J hA]) rfl (i_in hjo h0 hj) hdg (fun H1 locs1 hP hD hS => ?_)
  rw [i_cl hjo, updL_st2] at hP hD
  rw [← mce_J (rv := rv) (ad := ad) (cy := cy) hA] at hP hD
  exact kk _ _ _ (hr.pop.pop.pop.put2 hq hP hD hS ⟨fun _ => hxo, fun h => absurd ((isLg_A hA).symm.trans h) (by decide)⟩)
theorem s_zas {q : Nat} {j x : Int} (hx : p.tables.exec = Jvm.exec) (hb : c.code = cc) (hWs : mWs D ad cy b Ls xs s) (hA : isA q 2) (h0 : 0 ≤ j) (hj : j < sln q) (hz : x = 0 ∨ x = 1) (hdg : decode cc pc = .ok (.bastore, 1)) (hr : mRl D ad cy Ls xs s nL L (.inl x :: .inl j :: .inr (.inr (some q)) :: st) iv rv H locs ls)
    (kk : ∀ H' locs' ls', mRl D ad cy Ls xs s nL L st (st2 iv q j.toNat x) rv H' locs' ls' → W p l e R s m args below meth c H' locs' cells slots Qw (F0 m (pc + 1) ls' (st.map (mval ad)))) : W p l e R s m args below meth c H locs cells slots Qw (F0 m pc ls ((.inl x :: .inl j :: .inr (.inr (some q)) :: st).map (mval ad))) := by
  have hxo : okI x := hr.top
  have hjo : okI j := hr.pop.top
  have hq := sln_lt h0 hj
  refine va_zast hx hb hWs.1 hr.2.2.1 hr.2.2.2.1 hr.2.2.2.2.1 q 2 (by rw [mwl_get hq, mce_A hA (by decide)]) rfl (i_in hjo h0 hj) hdg (fun H1 locs1 hP hD hS => ?_)
  rw [i_cl hjo, (nz_bool hz).2.2, upd_st2] at hP hD
  rw [← mce_A (rv := rv) (ad := ad) (cy := cy) hA (by decide)] at hP hD
  exact kk _ _ _ (hr.pop.pop.pop.put2 hq hP hD hS ⟨fun h => absurd ((isLg_A hA).symm.trans h) (by decide), fun _ => hxo⟩)
end SNX
end
section
section SNA
variable {p : Program} {l : Launch} {e : Env} {R : Room} {s : State} {m : MethodId} {args : Array Value} {below : List Frame} {meth : Method} {c : Code} {H : Heap} {locs : List Loc} {cells slots : Nat} {Qw : State → Prop}
variable {cc : ByteArray} {pc : Nat} {ls : Array Slot} {D : va_G} {ad : Nat → Nat} {cy : Nat → ClassId} {b Ls : Nat} {xs : Nat → Int32} {nL o : Nat} {L L' : mL} {st st' : List mV} {iv iv' : mIv} {rv rv' : mRv}
theorem mcat_eq (r : List mV) : ((r.map (mval ad)).map fun v => v.category).sum = mcat r := by
  induction r with
  | nil => rfl
  | cons v r ih =>
    rw [List.map_cons, List.map_cons, List.sum_cons, ih]
    rcases v with x | x | x
    · rfl
    · rfl
    · show (va_rf _).category + _ = 1 + _
      rw [cat_rf]
theorem shn : ∀ q, q < 82 → (shk q).2.2 < 100 := by decide +kernel
theorem sty : ∀ q, q < 82 → (shk q).1 = 0 → (shk q).2.1 = 0 ∨ (shk q).2.1 = 1 ∨ (shk q).2.1 = 2 := by decide +kernel
theorem s_len {q : Nat} (hx : p.tables.exec = Jvm.exec) (hb : c.code = cc) (hWs : mWs D ad cy b Ls xs s) (hA : (shk q).1 ≤ 1) (hq0 : q < 82 ∨ q = 1000000) (hdg : decode cc pc = .ok (.arraylength, 1)) (hr : mRl D ad cy Ls xs s nL L (.inr (.inr (some q)) :: st) iv rv H locs ls)
    (kk : ∀ H' locs' ls', mRl D ad cy Ls xs s nL L (.inl (mln iv q) :: st) iv rv H' locs' ls' → W p l e R s m args below meth c H' locs' cells slots Qw (F0 m (pc + 1) ls' ((.inl (mln iv q) :: st).map (mval ad)))) : W p l e R s m args below meth c H locs cells slots Qw (F0 m pc ls ((.inr (.inr (some q)) :: st).map (mval ad))) := by
  by_cases hq : q = 1000000
  · subst hq
    have el : mln iv 1000000 = (Ls : Int) := by unfold mln; rw [if_pos rfl]; exact hr.2.2.2.2.2.2.2
    have hL := hWs.2.2.2.2.2
    have K := kk H locs ls (hr.pop.push (by rw [el]; show okI _; unfold okI; omega))
    have ee : mval ad (.inr (.inr (some 1000000))) = .ref b := by show Value.ref (ad 1000000) = _; rw [hWs.2.2.2.2.1]
    show W p l e R s m args below meth c H locs cells slots Qw (F0 m pc ls (mval ad (.inr (.inr (some 1000000))) :: st.map (mval ad)))
    rw [ee]
    refine va_slen hx hb hWs.2.1 hWs.2.2.1 hWs.2.2.2.1 hr.2.2.2.2.1 hdg ?_
    have e2 : (Value.int (Int32.ofNat Ls)) = mval ad (.inl (mln iv 1000000)) := by rw [el]; rfl
    rw [e2]; exact K
  · have hq82 : q < 82 := by omega
    have el : mln iv q = ((shk q).2.2 : Nat) := by unfold mln; rw [if_neg hq]; rfl
    have hn := shn q hq82
    have K := kk H locs ls (hr.pop.push (by rw [el]; show okI _; unfold okI; omega))
    have e2 : (Value.int (Int32.ofNat (shk q).2.2)) = mval ad (.inl (mln iv q)) := by rw [el]; rfl
    rcases (show (shk q).1 = 0 ∨ (shk q).1 = 1 by omega) with h0 | h1
    · rcases sty q hq82 h0 with ht | ht | ht
      · refine va_alen hx hb hWs.1 hr.2.2.1 q 0 (by rw [mwl_get hq82, mce_A (t := 0) ⟨h0, ht⟩ (by decide)]) rfl rfl hdg ?_
        rw [e2]; exact K
      · refine va_alen hx hb hWs.1 hr.2.2.1 q 1 (by rw [mwl_get hq82, mce_J ⟨h0, ht⟩]) rfl rfl hdg ?_
        rw [e2]; exact K
      · refine va_alen hx hb hWs.1 hr.2.2.1 q 2 (by rw [mwl_get hq82, mce_A (t := 2) ⟨h0, ht⟩ (by decide)]) rfl rfl hdg ?_
        rw [e2]; exact K
    · rcases qty q hq82 h1 with ht | ht
      · refine va_alen hx hb hWs.1 hr.2.2.1 q 3 (by rw [mwl_get hq82, mce_Q h1, ht]) rfl rfl hdg ?_
        rw [e2]; exact K
      · refine va_alen hx hb hWs.1 hr.2.2.1 q 4 (by rw [mwl_get hq82, mce_Q h1, ht]) rfl rfl hdg ?_
        rw [e2]; exact K
theorem cpy_ok {r q : Nat} {a d n : Int} (h : okh iv) (hp : (shk r).1 = 0) (hq : (shk q).1 = 0) (ht : (shk r).2.1 = (shk q).2.1) : okh (cpyv iv r q a d n) := by
  intro y j
  unfold cpyv
  by_cases hc : y = q ∧ d ≤ (j : Int) ∧ (j : Int) < d + n
  · rw [if_pos hc, hc.1]
    have e1 : isLg q j = Nat.beq (shk q).2.1 1 := isLg_A ⟨hq, rfl⟩
    have e2 := h r (a.toNat + (j - d.toNat))
    have e3 : isLg r (a.toNat + (j - d.toNat)) = Nat.beq (shk r).2.1 1 := isLg_A ⟨hp, rfl⟩
    rw [e3, ht] at e2
    rw [e1]; exact e2
  · rw [if_neg hc]; exact h y j
theorem s_cpy {r q ix : Nat} {a d n : Int} (hx : p.tables.exec = Jvm.exec) (hb : c.code = cc) (hml : c.maxLocals = nL) (hown : s.vm.findClass (cnm o) = some m.cls) (hts : ∀ w ∈ BIG, w.before args s = true) (hWs : mWs D ad cy b Ls xs s) (hF : 1 ≤ R.frames) (hL : 60 ≤ R.locals) (hy : lk3 YTb o ix = true) (hcat : mcat st ≤ 8) (hp : (shk r).1 = 0) (hq : (shk q).1 = 0) (ht : (shk r).2.1 = (shk q).2.1) (ht2 : (shk r).2.1 < 2) (h1 : 0 ≤ a) (h2 : 0 ≤ d) (h3 : 0 ≤ n) (h4 : a + n ≤ sln r) (h5 : d + n ≤ sln q) (hr82 : r < 82) (hq82 : q < 82) (hdg : decode cc pc = .ok (.invokestatic ix, 3)) (hr : mRl D ad cy Ls xs s nL L (.inl n :: .inl d :: .inr (.inr (some q)) :: .inl a :: .inr (.inr (some r)) :: st) iv rv H locs ls)
    (kk : ∀ H' locs' ls', mRl D ad cy Ls xs s nL L st (cpyv iv r q a d n) rv H' locs' ls' → W p l e R s m args below meth c H' locs' cells slots Qw (F0 m (pc + 3) ls' (st.map (mval ad)))) : W p l e R s m args below meth c H locs cells slots Qw (F0 m pc ls ((.inl n :: .inl d :: .inr (.inr (some q)) :: .inl a :: .inr (.inr (some r)) :: st).map (mval ad))) := by
  have no : okI n := hr.top
  have do_ : okI d := hr.pop.top
  have ao : okI a := hr.pop.pop.pop.top
  obtain ⟨y1, y2, y3, y4⟩ := YTb_ok _ (lk3_in hy)
  have hmlz : c.maxLocals = ls.size := by rw [hml]; exact hr.1.2.1.1.symm
  have hh := hr.pop.pop.pop.pop.pop
  have hn1 : ¬ Int32.ofInt a < 0 := fun z => by have := (i_lt ao okI_0).mp z; omega
  have hn2 : ¬ Int32.ofInt d < 0 := fun z => by have := (i_lt do_ okI_0).mp z; omega
  have hn3 : ¬ Int32.ofInt n < 0 := fun z => by have := (i_lt no okI_0).mp z; omega
  have hlo : ((st.map (mval ad)).map fun v => v.category).sum + (nativeFrameWords "java/lang/System" "arraycopy" 5 + 11) ≤ R.locals := by
    rw [mcat_eq]
    have : nativeFrameWords "java/lang/System" "arraycopy" 5 = 7 := by decide +kernel
    omega
  have hput : ∀ H1 locs1, va_P D vwCl ((mwl ad cy iv rv).set q (ad q, mce ad cy (cpyv iv r q a d n) rv q)) H1 → va_D (mA ad) ((mwl ad cy iv rv).set q (ad q, mce ad cy (cpyv iv r q a d n) rv q)) → va_S (mA ad) s.heap H1 locs1 → mRl D ad cy Ls xs s nL L st (cpyv iv r q a d n) rv H1 locs1 ls := fun H1 locs1 hP hD hS =>
    hh.put hq82 (fun y hy => mce_ne (fun j => by unfold cpyv; rw [if_neg (fun z => hy z.1)]) (fun _ => rfl)) hP hD hS (cpy_ok hr.2.2.2.2.2.1 hp hq ht) (fun j => by unfold cpyv; rw [if_neg (fun z => by have := z.1; omega)]) (by unfold cpyv; rw [if_neg (fun z => by have := z.1; omega)])
  unfold sln at h4 h5
  rcases (show (shk r).2.1 = 0 ∨ (shk r).2.1 = 1 by omega) with t0 | t1
  · have ar : isA r 0 := ⟨hp, t0⟩
    have aq : isA q 0 := ⟨hq, by rw [← ht]; exact t0⟩
    refine va_copyi hx hb hmlz hown (hts _ y1) (hts _ y2) (hts _ y3) (hts _ y4) hWs.1 hr.2.2.1 hr.2.2.2.1 hr.2.2.2.2.1 r q 0 0 (by rw [mwl_get hr82, mce_A ar (by decide)]) (by rw [mwl_get hq82, mce_A aq (by decide)]) rfl rfl rfl hn1 hn2 hn3 (by rw [i_cl ao, i_cl no]; omega) (by rw [i_cl do_, i_cl no]; omega) (fun _ _ => rfl) hF hlo hdg (fun H1 locs1 hP hD hS => ?_)
    have ef : va_cpy (fun j => Int32.ofInt (iv r j)) (fun j => Int32.ofInt (iv q j)) (Int32.ofInt a).toNatClampNeg (Int32.ofInt d).toNatClampNeg (Int32.ofInt n).toNatClampNeg = fun j => Int32.ofInt (cpyv iv r q a d n q j) := by
      funext j
      unfold va_cpy cpyv
      rw [i_cl ao, i_cl do_, i_cl no]
      by_cases hc : d.toNat ≤ j ∧ j < d.toNat + n.toNat
      · rw [if_pos hc, if_pos ⟨rfl, by omega, by omega⟩]
      · rw [if_neg hc, if_neg (fun z => hc (by omega))]
    rw [ef, ← mce_A (rv := rv) (ad := ad) (cy := cy) aq (by decide)] at hP hD
    exact kk _ _ _ (hput _ _ hP hD hS)
  · have ar : isA r 1 := ⟨hp, t1⟩
    have aq : isA q 1 := ⟨hq, by rw [← ht]; exact t1⟩
    refine va_copyl hx hb hmlz hown (hts _ y1) (hts _ y2) (hts _ y3) (hts _ y4) hWs.1 hr.2.2.1 hr.2.2.2.1 hr.2.2.2.2.1 r q 1 1 (by rw [mwl_get hr82, mce_J ar]) (by rw [mwl_get hq82, mce_J aq]) rfl rfl rfl hn1 hn2 hn3 (by rw [i_cl ao, i_cl no]; omega) (by rw [i_cl do_, i_cl no]; omega) (fun _ _ => rfl) hF hlo hdg (fun H1 locs1 hP hD hS => ?_)
    have ef : va_cpy (fun j => Int64.ofInt (iv r j)) (fun j => Int64.ofInt (iv q j)) (Int32.ofInt a).toNatClampNeg (Int32.ofInt d).toNatClampNeg (Int32.ofInt n).toNatClampNeg = fun j => Int64.ofInt (cpyv iv r q a d n q j) := by
      funext j
      unfold va_cpy cpyv
      rw [i_cl ao, i_cl do_, i_cl no]
      by_cases hc : d.toNat ≤ j ∧ j < d.toNat + n.toNat
      · rw [if_pos hc, if_pos ⟨rfl, by omega, by omega⟩]
      · rw [if_neg hc, if_neg (fun z => hc (by omega))]
    rw [ef, ← mce_J (rv := rv) (ad := ad) (cy := cy) aq] at hP hD
    exact kk _ _ _ (hput _ _ hP hD hS)
end SNA
end
section
section SNB
variable {p : Program} {l : Launch} {e : Env} {R : Room} {s : State} {m : MethodId} {args : Array Value} {below : List Frame} {meth : Method} {c : Code} {H : Heap} {locs : List Loc} {cells slots : Nat} {Qw : State → Prop}
variable {cc : ByteArray} {pc : Nat} {ls : Array Slot} {D : va_G} {ad : Nat → Nat} {cy : Nat → ClassId} {b Ls : Nat} {xs : Nat → Int32} {nL o : Nat} {L L' : mL} {st st' : List mV} {iv iv' : mIv} {rv rv' : mRv}
theorem s_iinc {k : Nat} {v x : Int} (hx : p.tables.exec = Jvm.exec) (hb : c.code = cc) (hdg : decode cc pc = .ok (.iinc k v, 3)) (hv1 : -32768 ≤ v) (hv2 : v < 32768) (hg : mget L k = some (.inl x)) (hs : mset1 L k (.inl (w32 (x + v))) = some L') (hr : mRl D ad cy Ls xs s nL L st iv rv H locs ls)
    (kk : ∀ H' locs' ls', mRl D ad cy Ls xs s nL L' st iv rv H' locs' ls' → W p l e R s m args below meth c H' locs' cells slots Qw (F0 m (pc + 3) ls' (st.map (mval ad)))) : W p l e R s m args below meth c H locs cells slots Qw (F0 m pc ls (st.map (mval ad))) := by
  obtain ⟨k0, hk0⟩ := List.getElem?_of_mem (lvl_in (ad := ad) hg)
  have hxo : okI x := hr.1.2.2 k _ hg
  have hlt : k < nL := by rw [← hr.1.1]; exact mset1_lt hs
  refine lv_iinc hx hb hdg hr.1.2.1 hk0 (v := Int32.ofInt (w32 (x + v))) (i_add hxo (by unfold okI; omega)) hlt rfl (fun ls' hl' => ?_)
  exact kk _ _ _ ⟨hr.1.set1 hs (w32_ok _) hl', hr.2⟩
theorem mib_ok {i : Instr} {f : Int → Int → Int} (h : mib i = some f) (x y : Int) : okI (f x y) := by
  unfold mib at h
  split at h <;> first | (cases h; exact w32_ok _) | (cases h; exact okI_toInt _) | cases h
theorem mlb_ok {i : Instr} {f : Int → Int → Int} (h : mlb i = some f) (x y : Int) : okJ (f x y) := by
  unfold mlb at h
  split at h <;> first | (cases h; exact w64_ok _) | (cases h; exact okJ_toInt _) | cases h
theorem s_ib {i : Instr} {n : Nat} {f : Int → Int → Int} {x y : Int} {F Lc : Nat} (hx : p.tables.exec = Jvm.exec) (hb : c.code = cc) (hdg : decode cc pc = .ok (i, n)) (hok : okIn o F Lc i n = true) (hf : mib i = some f) (hr : mRl D ad cy Ls xs s nL L (.inl y :: .inl x :: st) iv rv H locs ls)
    (kk : ∀ H' locs' ls', mRl D ad cy Ls xs s nL L (.inl (f x y) :: st) iv rv H' locs' ls' → W p l e R s m args below meth c H' locs' cells slots Qw (F0 m (pc + n) ls' ((.inl (f x y) :: st).map (mval ad)))) : W p l e R s m args below meth c H locs cells slots Qw (F0 m pc ls ((.inl y :: .inl x :: st).map (mval ad))) := by
  have hy : okI y := hr.top
  have hx' : okI x := hr.pop.top
  have K := kk H locs ls (hr.pop.pop.push (mib_ok hf x y))
  unfold mib at hf
  split at hf
  · cases hf; cases bq hok
    refine lv_iadd hx hb hdg ?_; rw [i_add hx' hy]; exact K
  · cases hf; cases bq hok
    refine lv_isub hx hb hdg ?_; rw [i_sub hx' hy]; exact K
  · cases hf; cases bq hok
    refine lv_imul hx hb hdg ?_; rw [i_mul hx' hy]; exact K
  · cases hf; cases bq hok
    refine lv_iand hx hb hdg ?_; rw [← oI (Int32.ofInt x &&& Int32.ofInt y)]; exact K
  · cases hf; cases bq hok
    refine lv_ior hx hb hdg ?_; rw [← oI (Int32.ofInt x ||| Int32.ofInt y)]; exact K
  · cases hf; cases bq hok
    refine lv_ixor hx hb hdg ?_; rw [← oI (Int32.ofInt x ^^^ Int32.ofInt y)]; exact K
  · cases hf; cases bq hok
    refine lv_ishl hx hb hdg ?_; rw [← oI (Int32.ofInt x <<< (Int32.ofInt y &&& 31))]; exact K
  · cases hf; cases bq hok
    refine lv_ishr hx hb hdg ?_; rw [← oI (Int32.ofInt x >>> (Int32.ofInt y &&& 31))]; exact K
  · cases hf; cases bq hok
    refine lv_iushr hx hb hdg (oI _).symm ?_; exact K
  · cases hf
theorem s_lb {i : Instr} {n : Nat} {f : Int → Int → Int} {x y : Int} {F Lc : Nat} (hx : p.tables.exec = Jvm.exec) (hb : c.code = cc) (hdg : decode cc pc = .ok (i, n)) (hok : okIn o F Lc i n = true) (hf : mlb i = some f) (hr : mRl D ad cy Ls xs s nL L (.inr (.inl y) :: .inr (.inl x) :: st) iv rv H locs ls)
    (kk : ∀ H' locs' ls', mRl D ad cy Ls xs s nL L (.inr (.inl (f x y)) :: st) iv rv H' locs' ls' → W p l e R s m args below meth c H' locs' cells slots Qw (F0 m (pc + n) ls' ((.inr (.inl (f x y)) :: st).map (mval ad)))) : W p l e R s m args below meth c H locs cells slots Qw (F0 m pc ls ((.inr (.inl y) :: .inr (.inl x) :: st).map (mval ad))) := by
  have hy : okJ y := hr.top
  have hx' : okJ x := hr.pop.top
  have K := kk H locs ls (hr.pop.pop.push (mlb_ok hf x y))
  unfold mlb at hf
  split at hf
  · cases hf; cases bq hok
    refine lv_ladd hx hb hdg ?_; rw [j_add hx' hy]; exact K
  · cases hf; cases bq hok
    refine lv_lsub hx hb hdg ?_; rw [j_sub hx' hy]; exact K
  · cases hf; cases bq hok
    refine lv_lmul hx hb hdg ?_; rw [j_mul hx' hy]; exact K
  · cases hf; cases bq hok
    refine lv_lxor hx hb hdg ?_; rw [← oJ (Int64.ofInt x ^^^ Int64.ofInt y)]; exact K
  · cases hf
theorem fty_of {ci k d : Nat} (hc : ci < 4) (hk : k < fNk ci) (h : fCd ci k = d) : isTy (fTy ci k) d = true := by rw [← h]; exact (fC_ok ci hc k hk).2.2.1
theorem ty_0 {t : FieldType} (h : isTy t 0 = true) : t = .int := by cases t <;> first | rfl | (simp [isTy] at h)
theorem ty_1 {t : FieldType} (h : isTy t 1 = true) : t = .long := by cases t <;> first | rfl | (simp [isTy] at h)
theorem ty_2 {t : FieldType} (h : isTy t 2 = true) : t = .boolean := by cases t <;> first | rfl | (simp [isTy] at h)
theorem ty_3 {t : FieldType} (h : isTy t 3 = true) (a : Nat) : narrow t (.ref a) = .ref a ∧ fits t (.ref a) = true := by
  cases t <;> first | (simp [isTy] at h; done) | exact ⟨rfl, rfl⟩
end SNB
end
section
section SNC
variable {p : Program} {l : Launch} {e : Env} {R : Room} {s : State} {m : MethodId} {args : Array Value} {below : List Frame} {meth : Method} {c : Code} {H : Heap} {locs : List Loc} {cells slots : Nat} {Qw : State → Prop}
variable {cc : ByteArray} {pc : Nat} {ls : Array Slot} {D : va_G} {ad : Nat → Nat} {cy : Nat → ClassId} {b Ls : Nat} {xs : Nat → Int32} {nL o : Nat} {L L' : mL} {st st' : List mV} {iv iv' : mIv} {rv rv' : mRv}
theorem mrf (q : Nat) : mval ad (.inr (.inr (some q))) = .ref (ad q) := rfl
set_option maxHeartbeats 4000000 in
theorem s_nx {i : Instr} {n pc' : Nat} {Cs : List Prop} {F Lc : Nat} (hx : p.tables.exec = Jvm.exec) (hb : c.code = cc) (hml : c.maxLocals = nL) (hown : s.vm.findClass (cnm o) = some m.cls) (hts : ∀ w ∈ BIG, w.before args s = true) (hWs : mWs D ad cy b Ls xs s) (hRf : F ≤ R.frames) (hRl : Lc ≤ R.locals) (hdg : decode cc pc = .ok (i, n)) (hok : okIn o F Lc i n = true) (hs : mnx o i n pc L st iv rv = some (Cs, pc', L', st', iv', rv')) (hC : ∀ P ∈ Cs, P) (hr : mRl D ad cy Ls xs s nL L st iv rv H locs ls) (kk : ∀ H' locs' ls', mRl D ad cy Ls xs s nL L' st' iv' rv' H' locs' ls' → W p l e R s m args below meth c H' locs' cells slots Qw (F0 m pc' ls' (st'.map (mval ad)))) : W p l e R s m args below meth c H locs cells slots Qw (F0 m pc ls (st.map (mval ad))) := by
  unfold mnx at hs
  split at hs
  · cases hs
    have h := Bool.and_eq_true_iff.mp hok
    cases bq h.1
    have h2 := Bool.and_eq_true_iff.mp h.2
    have a1 := of_decide_eq_true h2.1
    have a2 := of_decide_eq_true h2.2
    exact lv_iconst hx hb hdg rfl (kk _ _ _ (hr.push (by show okI _; unfold okI; omega)))
  · cases hs
    have h := Bool.and_eq_true_iff.mp hok
    cases bq h.1
    have h2 := Bool.and_eq_true_iff.mp h.2
    have a1 := of_decide_eq_true h2.1
    have a2 := of_decide_eq_true h2.2
    exact lv_bipush hx hb hdg (i8_eq a1 a2) (kk _ _ _ (hr.push (by show okI _; unfold okI; omega)))
  · cases hs
    have h := Bool.and_eq_true_iff.mp hok
    cases bq h.1
    have h2 := Bool.and_eq_true_iff.mp h.2
    have a1 := of_decide_eq_true h2.1
    have a2 := of_decide_eq_true h2.2
    exact lv_sipush hx hb hdg (i16_eq a1 a2) (kk _ _ _ (hr.push (by show okI _; unfold okI; omega)))
  · rename_i v
    cases hs
    cases bq hok
    exact lv_lconst hx hb hdg rfl (kk _ _ _ (hr.push (by show okJ _; unfold okJ; omega)))
  · split at hs
    · rename_i v hv
      cases hs
      cases bq hok
      obtain ⟨a1, a2, a3⟩ := CTb_ok _ (lk2_in hv)
      exact lv_ldc hx hb hown (hts _ a1) hdg (kk _ _ _ (hr.push (show okI v from ⟨a2, a3⟩)))
    · cases hs
  · split at hs
    · rename_i v hv
      cases hs
      cases bq hok
      obtain ⟨a1, a2, a3⟩ := CTb_ok _ (lk2_in hv)
      exact lv_ldcw hx hb hown (hts _ a1) hdg (kk _ _ _ (hr.push (show okI v from ⟨a2, a3⟩)))
    · cases hs
  · split at hs
    · rename_i v hv
      cases hs
      cases bq hok
      obtain ⟨a1, a2, a3⟩ := DTb_ok _ (lk2_in hv)
      exact lv_ldc2 hx hb hown (hts _ a1) hdg (kk _ _ _ (hr.push (show okJ v from ⟨a2, a3⟩)))
    · cases hs
  · split at hs
    · rename_i x hg
      cases hs
      cases bq hok
      exact lv_iload_n hx hb hdg rfl (hr.1.at hg) (kk _ _ _ (hr.push (hr.1.2.2 _ _ hg)))
    · cases hs
  · split at hs
    · rename_i x hg
      cases hs
      cases bq hok
      exact lv_iload hx hb hdg (hr.1.at hg) (kk _ _ _ (hr.push (hr.1.2.2 _ _ hg)))
    · cases hs
  · split at hs
    · rename_i x hg
      cases hs
      cases bq hok
      exact lv_lload_n hx hb hdg rfl (hr.1.at hg) (kk _ _ _ (hr.push (hr.1.2.2 _ _ hg)))
    · cases hs
  · split at hs
    · rename_i x hg
      cases hs
      cases bq hok
      exact lv_lload hx hb hdg (hr.1.at hg) (kk _ _ _ (hr.push (hr.1.2.2 _ _ hg)))
    · cases hs
  · split at hs
    · rename_i x hg
      cases hs
      cases bq hok
      exact lv_aload_n hx hb hdg rfl (hr.1.at hg) (kk _ _ _ (hr.push (hr.1.2.2 _ _ hg)))
    · cases hs
  · split at hs
    · rename_i x hg
      cases hs
      cases bq hok
      exact lv_aload hx hb hdg (hr.1.at hg) (kk _ _ _ (hr.push (hr.1.2.2 _ _ hg)))
    · cases hs
  · split at hs
    · split at hs
      · rename_i x r L2 hset
        cases hs
        cases bq hok
        refine lv_istore_n hx hb hdg rfl hr.1.2.1 (by have := mset1_lt hset; rw [hr.1.1] at this; exact this) rfl (fun ls' hl' => ?_)
        exact kk _ _ _ ⟨hr.1.set1 hset hr.top hl', hr.pop.2⟩
      · cases hs
    · cases hs
  · split at hs
    · split at hs
      · rename_i x r L2 hset
        cases hs
        cases bq hok
        refine lv_istore hx hb hdg hr.1.2.1 (by have := mset1_lt hset; rw [hr.1.1] at this; exact this) rfl (fun ls' hl' => ?_)
        exact kk _ _ _ ⟨hr.1.set1 hset hr.top hl', hr.pop.2⟩
      · cases hs
    · cases hs
  · split at hs
    · split at hs
      · rename_i x r L2 hset
        cases hs
        cases bq hok
        refine lv_lstore_n hx hb hdg rfl hr.1.2.1 (by have := mset2_lt hset; rw [hr.1.1] at this; exact this) rfl (fun ls' hl' => ?_)
        exact kk _ _ _ ⟨hr.1.set2 hset hr.top hl', hr.pop.2⟩
      · cases hs
    · cases hs
  · split at hs
    · split at hs
      · rename_i x r L2 hset
        cases hs
        cases bq hok
        refine lv_lstore hx hb hdg hr.1.2.1 (by have := mset2_lt hset; rw [hr.1.1] at this; exact this) rfl (fun ls' hl' => ?_)
        exact kk _ _ _ ⟨hr.1.set2 hset hr.top hl', hr.pop.2⟩
      · cases hs
    · cases hs
  · split at hs
    · split at hs
      · rename_i x r L2 hset
        cases hs
        cases bq hok
        refine lv_astore_n hx hb hdg rfl hr.1.2.1 (by have := mset1_lt hset; rw [hr.1.1] at this; exact this) rfl (fun ls' hl' => ?_)
        exact kk _ _ _ ⟨hr.1.set1 hset hr.top hl', hr.pop.2⟩
      · cases hs
    · cases hs
  · split at hs
    · split at hs
      · rename_i x r L2 hset
        cases hs
        cases bq hok
        refine lv_astore hx hb hdg hr.1.2.1 (by have := mset1_lt hset; rw [hr.1.1] at this; exact this) rfl (fun ls' hl' => ?_)
        exact kk _ _ _ ⟨hr.1.set1 hset hr.top hl', hr.pop.2⟩
      · cases hs
    · cases hs
  · split at hs
    · rename_i x hg
      split at hs
      · rename_i L2 hset
        cases hs
        have h := Bool.and_eq_true_iff.mp hok
        cases bq h.1
        have h2 := Bool.and_eq_true_iff.mp h.2
        exact s_iinc hx hb hdg (of_decide_eq_true h2.1) (of_decide_eq_true h2.2) hg hset hr kk
      · cases hs
    · cases hs
  · split at hs
    · cases hs
      cases bq hok
      refine lv_ineg hx hb hdg ?_
      rw [i_neg hr.top]
      exact kk _ _ _ (hr.pop.push (w32_ok _))
    · cases hs
  · split at hs
    · cases hs
      cases bq hok
      refine lv_lneg hx hb hdg ?_
      rw [j_neg hr.top]
      exact kk _ _ _ (hr.pop.push (w64_ok _))
    · cases hs
  · split at hs
    · cases hs
      cases bq hok
      exact lv_i2l hx hb hdg (i_l hr.top) (kk _ _ _ (hr.pop.push (okI_J hr.top)))
    · cases hs
  · split at hs
    · cases hs
      cases bq hok
      exact lv_l2i hx hb hdg (l_i hr.top) (kk _ _ _ (hr.pop.push (w32_ok _)))
    · cases hs
  · split at hs
    · cases hs
      cases bq hok
      refine W.lcmp hx hb hdg ?_
      rw [j_cmp hr.pop.top hr.top]
      exact kk _ _ _ (hr.pop.pop.push (lcv_ok _ _))
    · cases hs
  · split at hs
    · rename_i y x r
      cases hs
      cases bq hok
      have hy : y ≠ 0 := hC _ List.mem_cons_self
      refine lv_ldiv hx hb hdg (fun z => hy ((j_eq hr.top okJ_0).mp z)) ?_
      rw [j_div hr.pop.top hr.top]
      exact kk _ _ _ (hr.pop.pop.push (w64_ok _))
    · cases hs
  · split at hs
    · rename_i y x r
      cases hs
      cases bq hok
      have hy : y ≠ 0 := hC _ List.mem_cons_self
      refine lv_lrem hx hb hdg (fun z => hy ((j_eq hr.top okJ_0).mp z)) ?_
      rw [j_rem hr.pop.top hr.top]
      exact kk _ _ _ (hr.pop.pop.push (tmod_ok hr.pop.top))
    · cases hs
  · split at hs
    · cases hs
      cases bq hok
      exact lv_dup hx hb hdg rfl (kk _ _ _ (hr.push hr.top))
    · cases hs
      cases bq hok
      exact lv_dup hx hb hdg (cat_rf _) (kk _ _ _ (hr.push hr.top))
    · cases hs
  · split at hs
    · cases hs
      cases bq hok
      exact lv_dup2_2 hx hb hdg rfl (kk _ _ _ (hr.push hr.top))
    · cases hs
      cases bq hok
      exact lv_dup2_11 hx hb hdg rfl (cat_rf _) (kk _ _ _ ((hr.push hr.pop.top).push hr.top))
    · cases hs
  · split at hs
    · cases hs
    · rename_i hge _
      cases hs
      cases bq hok
      exact lv_goto hx hb hdg (by omega) (kk _ _ _ hr)
  · split at hs
    · rename_i ci k hf
      obtain ⟨hc, hk, hw⟩ := FTb_ok _ (lk2_in hf)
      split at hs
      · rename_i q r
        split at hs
        · rename_i hcd
          cases hs
          cases bq hok
          have hO := hC _ List.mem_cons_self
          exact s_get (v := .inr (.inl (iv q k))) (pc' := 0) hx hb hown hts hWs hf hO hdg hr (by unfold mfv; rw [hcd]; rfl) ((hr.2.2.2.2.2.1 q k).1 (by rw [isLg_O hO, hcd]; rfl)) kk
        · rename_i hcd
          cases hs
          cases bq hok
          have hO := hC _ List.mem_cons_self
          have hsm : (rv q k).isSome = true := hC _ (List.mem_cons_of_mem _ List.mem_cons_self)
          refine s_get (v := .inr (.inr (some ((rv q k).getD 0)))) (pc' := 0) hx hb hown hts hWs hf hO hdg hr ?_ trivial kk
          unfold mfv; rw [hcd]
          cases hv : rv q k with
          | none => rw [hv] at hsm; cases hsm
          | some w => rfl
        · rename_i h1 h3
          cases hs
          cases bq hok
          have hO := hC _ List.mem_cons_self
          refine s_get (v := .inl (iv q k)) (pc' := 0) hx hb hown hts hWs hf hO hdg hr ?_ ((hr.2.2.2.2.2.1 q k).2 ?_) kk
          · unfold mfv; split <;> first | rfl | simp_all
          · rw [isLg_O hO]; cases hz : Nat.beq (fCd ci k) 1 with
            | false => rfl
            | true => exact absurd (bq hz) h1
      · cases hs
    · cases hs
  · split at hs
    · rename_i ci k hf
      obtain ⟨hc, hk, hw⟩ := FTb_ok _ (lk2_in hf)
      split at hs
      · cases hs
      · rename_i hfin
        have mvn : ∀ {q : Nat} {x : Int} (a j : Nat), ¬ (a = q ∧ j = k) → st2 iv q k x a j = iv a j := fun a j h => by unfold st2; rw [if_neg h]
        have rvn : ∀ {q : Nat} {x : Option Nat} (a j : Nat), ¬ (a = q ∧ j = k) → st2 rv q k x a j = rv a j := fun a j h => by unfold st2; rw [if_neg h]
        split at hs
        · rename_i x q r hcd
          cases hs
          cases bq hok
          have hO := hC _ List.mem_cons_self
          have ht := ty_0 (fty_of hc hk hcd)
          exact s_put (iv' := st2 iv q k x) (rv' := rv) hx hb hown hts hWs hf hfin hO hdg hr (by rw [ht]; rfl) (by rw [ht]; rfl) (by unfold mfv; rw [hcd, st2_eq]; rfl) mvn (fun _ _ _ => rfl) (okh_st2 hr.2.2.2.2.2.1 ⟨fun h => by rw [isLg_O hO, hcd] at h; exact absurd h (by decide), fun _ => hr.top⟩) kk
        · rename_i x q r hcd
          cases hs
          cases bq hok
          have hO := hC _ List.mem_cons_self
          have ht := ty_1 (fty_of hc hk hcd)
          exact s_put (iv' := st2 iv q k x) (rv' := rv) hx hb hown hts hWs hf hfin hO hdg hr (by rw [ht]; rfl) (by rw [ht]; rfl) (by unfold mfv; rw [hcd, st2_eq]; rfl) mvn (fun _ _ _ => rfl) (okh_st2 hr.2.2.2.2.2.1 ⟨fun _ => hr.top, fun h => by rw [isLg_O hO, hcd] at h; exact absurd h (by decide)⟩) kk
        · rename_i x q r hcd
          cases hs
          cases bq hok
          have hO := hC _ List.mem_cons_self
          have hz : x = 0 ∨ x = 1 := hC _ (List.mem_cons_of_mem _ List.mem_cons_self)
          have ht := ty_2 (fty_of hc hk hcd)
          exact s_put (iv' := st2 iv q k x) (rv' := rv) hx hb hown hts hWs hf hfin hO hdg hr (by rw [ht]; exact (nz_bool hz).1) (by rw [ht]; exact (nz_bool hz).2.1) (by unfold mfv; rw [hcd, st2_eq]; rfl) mvn (fun _ _ _ => rfl) (okh_st2 hr.2.2.2.2.2.1 ⟨fun h => by rw [isLg_O hO, hcd] at h; exact absurd h (by decide), fun _ => hr.top⟩) kk
        · rename_i x q r hcd
          cases hs
          cases bq hok
          have hO := hC _ List.mem_cons_self
          have ht := ty_3 (fty_of hc hk hcd)
          exact s_put (iv' := iv) (rv' := st2 rv q k (some x)) hx hb hown hts hWs hf hfin hO hdg hr (ht _).1 (ht _).2 (by unfold mfv; rw [hcd, st2_eq]; rfl) (fun _ _ _ => rfl) rvn hr.2.2.2.2.2.1 kk
        · cases hs
    · cases hs
  · split at hs
    · cases hs
      cases bq hok
      have h := hC _ List.mem_cons_self
      exact s_len hx hb hWs h.2 h.1 hdg hr kk
    · cases hs
  · split at hs
    · cases hs
      cases bq hok
      exact s_ial hx hb hWs (hC _ List.mem_cons_self) (hC _ (List.mem_cons_of_mem _ List.mem_cons_self)) (hC _ (List.mem_cons_of_mem _ (List.mem_cons_of_mem _ List.mem_cons_self))) hdg hr kk
    · cases hs
  · split at hs
    · cases hs
      cases bq hok
      exact s_lal hx hb hWs (hC _ List.mem_cons_self) (hC _ (List.mem_cons_of_mem _ List.mem_cons_self)) (hC _ (List.mem_cons_of_mem _ (List.mem_cons_of_mem _ List.mem_cons_self))) hdg hr kk
    · cases hs
  · split at hs
    · cases hs
      cases bq hok
      exact s_zal hx hb hWs (hC _ List.mem_cons_self) (hC _ (List.mem_cons_of_mem _ List.mem_cons_self)) (hC _ (List.mem_cons_of_mem _ (List.mem_cons_of_mem _ List.mem_cons_self))) hdg hr kk
    · cases hs
  · split at hs
    · cases hs
      cases bq hok
      exact s_aal hx hb hWs (hC _ List.mem_cons_self) (hC _ (List.mem_cons_of_mem _ List.mem_cons_self)) (hC _ (List.mem_cons_of_mem _ (List.mem_cons_of_mem _ List.mem_cons_self))) (hC _ (List.mem_cons_of_mem _ (List.mem_cons_of_mem _ (List.mem_cons_of_mem _ List.mem_cons_self)))) hdg hr kk
    · cases hs
  · split at hs
    · cases hs
      cases bq hok
      exact s_ias hx hb hWs (hC _ List.mem_cons_self) (hC _ (List.mem_cons_of_mem _ List.mem_cons_self)) (hC _ (List.mem_cons_of_mem _ (List.mem_cons_of_mem _ List.mem_cons_self))) hdg hr kk
    · cases hs
  · split at hs
    · cases hs
      cases bq hok
      exact s_las hx hb hWs (hC _ List.mem_cons_self) (hC _ (List.mem_cons_of_mem _ List.mem_cons_self)) (hC _ (List.mem_cons_of_mem _ (List.mem_cons_of_mem _ List.mem_cons_self))) hdg hr kk
    · cases hs
  · split at hs
    · cases hs
      cases bq hok
      exact s_zas hx hb hWs (hC _ List.mem_cons_self) (hC _ (List.mem_cons_of_mem _ List.mem_cons_self)) (hC _ (List.mem_cons_of_mem _ (List.mem_cons_of_mem _ List.mem_cons_self))) (hC _ (List.mem_cons_of_mem _ (List.mem_cons_of_mem _ (List.mem_cons_of_mem _ List.mem_cons_self)))) hdg hr kk
    · cases hs
  · split at hs
    · rename_i hy
      split at hs
      · split at hs
        · rename_i hcat
          cases hs
          have h := Bool.and_eq_true_iff.mp hok
          cases bq h.1
          have h2 := h.2
          rw [hy] at h2
          have h3 := Bool.and_eq_true_iff.mp h2
          have f1 := Nat.le_of_ble_eq_true h3.1
          have f2 := Nat.le_of_ble_eq_true h3.2
          obtain ⟨c1, c2, c3, c4, c5, c6⟩ := (hC _ List.mem_cons_self)
          exact s_cpy hx hb hml hown hts hWs (by omega) (by omega) hy (Nat.le_of_ble_eq_true hcat) c3 c4 c5 c6 (hC _ (List.mem_cons_of_mem _ List.mem_cons_self)) (hC _ (List.mem_cons_of_mem _ (List.mem_cons_of_mem _ List.mem_cons_self))) (hC _ (List.mem_cons_of_mem _ (List.mem_cons_of_mem _ (List.mem_cons_of_mem _ List.mem_cons_self)))) (hC _ (List.mem_cons_of_mem _ (List.mem_cons_of_mem _ (List.mem_cons_of_mem _ (List.mem_cons_of_mem _ List.mem_cons_self))))) (hC _ (List.mem_cons_of_mem _ (List.mem_cons_of_mem _ (List.mem_cons_of_mem _ (List.mem_cons_of_mem _ (List.mem_cons_of_mem _ List.mem_cons_self)))))) c1 c2 hdg hr kk
        · cases hs
      · cases hs
    · cases hs
  · split at hs
    · rename_i f hf
      split at hs
      · cases hs
        exact s_ib hx hb hdg hok hf hr kk
      · cases hs
    · split at hs
      · rename_i f hf
        split at hs
        · cases hs
          exact s_lb hx hb hdg hok hf hr kk
        · cases hs
      · cases hs
end SNC
end
section
section SBR
variable {p : Program} {l : Launch} {e : Env} {R : Room} {s : State} {m : MethodId} {args : Array Value} {below : List Frame} {meth : Method} {c : Code} {H : Heap} {locs : List Loc} {cells slots : Nat} {Qw : State → Prop}
variable {cc : ByteArray} {pc : Nat} {ls : Array Slot} {D : va_G} {ad : Nat → Nat} {cy : Nat → ClassId} {b Ls : Nat} {xs : Nat → Int32} {nL o : Nat} {L L' : mL} {st st' : List mV} {iv iv' : mIv} {rv rv' : mRv}
theorem mtg_eq {pc t : Nat} {off : Int} (h : mtg pc off = some t) : (pc : Int) + off = (t : Int) := by
  unfold mtg at h
  split at h
  · cases h
  · cases h; omega
theorem mtb_get {pc : Nat} {x : Int} : ∀ {offs : List Int} {k : Int} {bs : List (Prop × Nat)}, mtb pc x k offs = some bs → ∀ {P : Nat → Prop}, mball bs P → ∀ j : Nat, x = k + j → ∀ {off : Int}, offs[j]? = some off → ∃ t : Nat, (pc : Int) + off = (t : Int) ∧ P t := by
  intro offs
  induction offs with
  | nil => intro k bs h P hb j hx off ho; cases ho
  | cons a r ih =>
    intro k bs h P hb j hx off ho
    unfold mtb at h
    split at h
    · rename_i t bs2 ht hbs
      cases h
      cases j with
      | zero =>
        cases ho
        exact ⟨t, mtg_eq ht, hb.1 (by simpa using hx)⟩
      | succ j => exact ih hbs hb.2 j (by rw [hx]; omega) ho
    · cases h
theorem s_br {i : Instr} {n : Nat} {F Lc : Nat} {bs : List (Prop × Nat)} (hx : p.tables.exec = Jvm.exec) (hb : c.code = cc) (hdg : decode cc pc = .ok (i, n)) (hok : okIn o F Lc i n = true) (hs : mbr i n pc st = some (bs, st')) (hr : mRl D ad cy Ls xs s nL L st iv rv H locs ls)
    {G : Nat → Prop} (hG : mball bs G) (kk : ∀ t, G t → mRl D ad cy Ls xs s nL L st' iv rv H locs ls → W p l e R s m args below meth c H locs cells slots Qw (F0 m t ls (st'.map (mval ad)))) : W p l e R s m args below meth c H locs cells slots Qw (F0 m pc ls (st.map (mval ad))) := by
  unfold mbr at hs
  split at hs
  · rename_i cd off
    split at hs
    · rename_i x r
      split at hs
      · rename_i t ht
        cases hs
        cases bq hok
        have hxo : okI x := hr.top
        have htg := mtg_eq ht
        have K1 : mcd cd x 0 → _ := fun h => kk t (hG.1 h) hr.pop
        have K2 : ¬ mcd cd x 0 → _ := fun h => kk (pc + 3) (hG.2.1 h) hr.pop
        cases cd with
        | eq => exact lv_if_eq hx hb hdg htg (fun h => K1 ((i_eq hxo okI_0).mp h)) (fun h => K2 (fun z => h ((i_eq hxo okI_0).mpr z)))
        | ne => exact lv_if_ne hx hb hdg htg (fun h => K1 (fun z => h ((i_eq hxo okI_0).mpr z))) (fun h => K2 (fun z => z ((i_eq hxo okI_0).mp h)))
        | lt => exact lv_if_lt hx hb hdg htg (fun h => K1 ((i_lt hxo okI_0).mp h)) (fun h => K2 (fun z => h ((i_lt hxo okI_0).mpr z)))
        | ge => exact lv_if_ge hx hb hdg htg (fun h => K1 ((i_le okI_0 hxo).mp h)) (fun h => K2 (fun z => h ((i_le okI_0 hxo).mpr z)))
        | gt => exact lv_if_gt hx hb hdg htg (fun h => K1 ((i_lt okI_0 hxo).mp h)) (fun h => K2 (fun z => h ((i_lt okI_0 hxo).mpr z)))
        | le => exact lv_if_le hx hb hdg htg (fun h => K1 ((i_le hxo okI_0).mp h)) (fun h => K2 (fun z => h ((i_le hxo okI_0).mpr z)))
      · cases hs
    · cases hs
  · rename_i cd off
    split at hs
    · rename_i y x r
      split at hs
      · rename_i t ht
        cases hs
        cases bq hok
        have hyo : okI y := hr.top
        have hxo : okI x := hr.pop.top
        have htg := mtg_eq ht
        have K1 : mcd cd x y → _ := fun h => kk t (hG.1 h) hr.pop.pop
        have K2 : ¬ mcd cd x y → _ := fun h => kk (pc + 3) (hG.2.1 h) hr.pop.pop
        cases cd with
        | eq => exact lv_icmp_eq hx hb hdg htg (fun h => K1 ((i_eq hxo hyo).mp h)) (fun h => K2 (fun z => h ((i_eq hxo hyo).mpr z)))
        | ne => exact lv_icmp_ne hx hb hdg htg (fun h => K1 (fun z => h ((i_eq hxo hyo).mpr z))) (fun h => K2 (fun z => z ((i_eq hxo hyo).mp h)))
        | lt => exact lv_icmp_lt hx hb hdg htg (fun h => K1 ((i_lt hxo hyo).mp h)) (fun h => K2 (fun z => h ((i_lt hxo hyo).mpr z)))
        | ge => exact lv_icmp_ge hx hb hdg htg (fun h => K1 ((i_le hyo hxo).mp h)) (fun h => K2 (fun z => h ((i_le hyo hxo).mpr z)))
        | gt => exact lv_icmp_gt hx hb hdg htg (fun h => K1 ((i_lt hyo hxo).mp h)) (fun h => K2 (fun z => h ((i_lt hyo hxo).mpr z)))
        | le => exact lv_icmp_le hx hb hdg htg (fun h => K1 ((i_le hxo hyo).mp h)) (fun h => K2 (fun z => h ((i_le hxo hyo).mpr z)))
      · cases hs
    · cases hs
  · rename_i d lo hi offs
    split at hs
    · rename_i x r
      split at hs
      · rename_i t bs2 ht hbs
        split at hs
        · rename_i hhi _
          cases hs
          have hxo : okI x := hr.top
          by_cases hout : x < lo ∨ hi < x
          · exact lv_tableOut hx hb hdg (by rw [tI hxo]; exact hout) (mtg_eq ht) (kk t (hG.1 hout) hr.pop)
          · have h1 : ¬ x < lo := fun z => hout (Or.inl z)
            have h2 : ¬ hi < x := fun z => hout (Or.inr z)
            have hj : (x - lo).toNat < offs.toList.length := by omega
            obtain ⟨tg, e1, e2⟩ := mtb_get hbs hG.2 (x - lo).toNat (by omega) (List.getElem?_eq_getElem hj)
            refine lv_tableIn hx hb hdg (by rw [tI hxo]; exact h1) (by rw [tI hxo]; exact h2) (off := offs.toList[(x - lo).toNat]) ?_ e1 (kk tg e2 hr.pop)
            rw [tI hxo, ← Array.getElem?_toList]
            exact List.getElem?_eq_getElem hj
        · cases hs
      · cases hs
    · cases hs
  · cases hs
end SBR
end
section
/-! calls, returns, whole runs -/
def wsM (M : Nat) : List Cond := Cond.code (mth M).2.2.1 (mth M).2.1 (mth M).2.2.2.1 (mth M).2.2.2.2.1 :: BIG
def rmM (M : Nat) : Room := { frames := (mth M).2.2.2.2.2.2.2.2.1, cells := 0, slots := 0, locals := (mth M).2.2.2.2.2.2.2.2.2 }
def mPc (D : va_G) (ad : Nat → Nat) (cy : Nat → ClassId) (b Ls : Nat) (xs : Nat → Int32) (as : List mV) (iv : mIv) (rv : mRv) : Array Value → State → Prop := va_Pc (as.map (mval ad)) (fun U => va_P D vwCl (mwl ad cy iv rv) U.heap ∧ va_D (mA ad) (mwl ad cy iv rv) ∧ mWs D ad cy b Ls xs U)
def mQc (D : va_G) (ad : Nat → Nat) (cy : Nat → ClassId) (Ls : Nat) (xs : Nat → Int32) (Q : Option mV → mIv → mRv → Prop) : Array Value → State → Outcome → State → Prop := fun _ st oc t => ∃ v iv' rv', oc = .returned (v.map (mval ad)) ∧ Q v iv' rv' ∧ (∀ w, v = some w → okv w) ∧ va_P D vwCl (mwl ad cy iv' rv') t.heap ∧ va_D (mA ad) (mwl ad cy iv' rv') ∧ okh iv' ∧ (∀ j, iv' 1000000 j = (xs j).toInt) ∧ iv' 1000001 0 = (Ls : Int) ∧ va_F (mA ad) st t
theorem mth_ok {M : Nat} : okM (mth M) := by
  unfold mth
  rw [List.getD_eq_getElem?_getD]
  cases h : MTb[M]? with
  | none => exact okM_104
  | some r => exact MTb_ok r (List.mem_of_getElem? h)
theorem big_good {M : Nat} (h : (mth M).2.2.2.2.2.1 < 7) : GoodIn BIG (wsM M) := by
  intro w hw
  have hb : w ∈ BIG := by
    rcases List.mem_cons.mp hw with e | e
    · rw [e]; exact ((mth_ok (M := M)).2 h).1
    · exact e
  exact ⟨hb, good_of_word (List.mem_filter.mp hb).2⟩
theorem Met.ofWF {l : Launch} {y : MethodName} {ws ws' : List Cond} {rm : Room} {Pc : Array Value → State → Prop} {Qc : Array Value → State → Outcome → State → Prop} {mc ms : Nat} {free : Addr → Prop} {cc : ByteArray} {maxL : Nat} {ret : Option FieldType}
    (hy : plainFor y = true) (hw : ws = Cond.code y cc maxL ret :: ws')
    (body : ∀ p e s m args below meth c s₁, BodyLoose p l y (headSpec ws rm) cc maxL ret e s m args below meth c s₁ → c.maxLocals = maxL → Pc args s →
      W p l e (headSpec ws rm).room s m args below meth c s.heap [] 0 0 (MQ below Qc args s mc ms free) (entryFrame m args maxL)) : Met l y ws rm Pc Qc mc ms free := by
  refine MetFree.of_bodySF (code := cc) (maxLocals := maxL) (ret := ret) hy ?_ ?_
  · intro args s m h hn
    obtain ⟨meth, c, h1, h2, h3, h4, h5, h6, -, -⟩ := Cond.code_spec hn (atoms_spec (ws := ws) h _ (by rw [hw]; exact List.mem_cons_self))
    exact ⟨meth, c, h1, h2, h3, h4, h5, h6⟩
  · intro p e s m args below meth c s₁ B hml hP _
    have hh0 : s₁.heap = s.heap := by rw [B.state]; rfl
    obtain ⟨t, a1, o, b1, b2, b3⟩ := body p e s m args below meth c s₁ B hml hP s₁ hh0 (Stand.of_body B)
    exact ⟨t, o, a1, b1, b2, ⟨b3.1, b3.2⟩⟩
theorem mtk_eq : ∀ (n : Nat) (st acc as r : List mV), mtk n st acc = some (as, r) → ∃ t, st = t ++ r ∧ as = t.reverse ++ acc ∧ t.length = n := by
  intro n
  induction n with
  | zero => intro st acc as r h; cases h; exact ⟨[], rfl, rfl, rfl⟩
  | succ n ih =>
    intro st acc as r h
    cases st with
    | nil => cases h
    | cons v st =>
      obtain ⟨t, h1, h2, h3⟩ := ih st (v :: acc) as r h
      refine ⟨v :: t, by rw [h1]; rfl, by rw [h2]; simp, by simp [h3]⟩
theorem slots_len (ad : Nat → Nat) (as : List mV) : (lg_sl (as.map (mval ad))).length = (mslots as).length := by
  induction as with
  | nil => rfl
  | cons v r ih =>
    rcases v with x | x | x
    · show (lg_sl (Value.int _ :: _)).length = _
      simp [lg_sl, mslots, Value.category] at ih ⊢; exact ih
    · show (lg_sl (Value.long _ :: _)).length = _
      simp [lg_sl, mslots, Value.category] at ih ⊢; exact ih
    · show (lg_sl (va_rf _ :: _)).length = _
      simp [lg_sl, mslots, cat_rf] at ih ⊢; exact ih
theorem slots_get (ad : Nat → Nat) {v : mV} (T : mL) (hT : ∀ k, mget T k = none) : ∀ (as : List mV) (i k : Nat), mget (mslots as ++ T) k = some v → (i + k, mval ad v) ∈ lv_args i (as.map (mval ad)) := by
  intro as
  induction as with
  | nil => intro i k h; rw [show mslots [] ++ T = T from rfl, hT] at h; cases h
  | cons w r ih =>
    intro i k h
    have one : ∀ (hc : (mval ad w).category = 1) (hm : mslots (w :: r) = some w :: mslots r), (i + k, mval ad v) ∈ lv_args i ((w :: r).map (mval ad)) := fun hc hm => by
      rw [hm] at h
      show _ ∈ (i, mval ad w) :: lv_args (if (mval ad w).category = 2 then i + 2 else i + 1) (r.map (mval ad))
      rw [if_neg (by rw [hc]; decide)]
      cases k with
      | zero => cases h; exact List.mem_cons_self
      | succ k =>
        have := ih (i + 1) k h
        rw [show i + 1 + k = i + (k + 1) by omega] at this
        exact List.mem_cons_of_mem _ this
    rcases w with x | x | x
    · exact one rfl rfl
    · show _ ∈ (i, mval ad (.inr (.inl x))) :: lv_args (i + 2) (r.map (mval ad))
      cases k with
      | zero => cases h; exact List.mem_cons_self
      | succ k => cases k with
        | zero => cases h
        | succ k =>
          have := ih (i + 2) k h
          rw [show i + 2 + k = i + (k + 1 + 1) by omega] at this
          exact List.mem_cons_of_mem _ this
    · exact one (cat_rf _) rfl
theorem slots_ok : ∀ (as : List mV) (T : mL), (∀ k, mget T k = none) → (∀ w ∈ as, okv w) → ∀ k v, mget (mslots as ++ T) k = some v → okv v := by
  intro as
  induction as with
  | nil => intro T hT _ k v h; rw [show mslots [] ++ T = T from rfl, hT] at h; cases h
  | cons w r ih =>
    intro T hT ho k v h
    have hr : ∀ w ∈ r, okv w := fun z hz => ho z (List.mem_cons_of_mem _ hz)
    have hw : okv w := ho w List.mem_cons_self
    rcases w with x | x | x
    · cases k with
      | zero => cases h; exact hw
      | succ k => exact ih T hT hr k v h
    · cases k with
      | zero => cases h; exact hw
      | succ k => cases k with
        | zero => cases h
        | succ k => exact ih T hT hr k v h
    · cases k with
      | zero => cases h; exact hw
      | succ k => exact ih T hT hr k v h
theorem rep_get (n : Nat) : ∀ k, mget (List.replicate n none) k = none := by
  induction n with
  | zero => intro k; rfl
  | succ n ih => intro k; cases k with
    | zero => rfl
    | succ k => exact ih k
theorem entry_Lo {ad : Nat → Nat} {n : Nat} {as : List mV} {ls : Array Slot} (hl : (mslots as).length ≤ n) (ho : ∀ w ∈ as, okv w) (h : lv_has ls n (lv_args 0 (as.map (mval ad)))) : mLo ad n (mentry n as) ls := by
  refine mLo.to (by unfold mentry; simp; omega) h (fun k v hk => ⟨?_, slots_ok as _ (rep_get _) ho k v hk⟩)
  have := slots_get ad _ (rep_get _) as 0 k hk
  rw [Nat.zero_add] at this
  exact this
section SND
variable {p : Program} {l : Launch} {e : Env} {R : Room} {s : State} {m : MethodId} {args : Array Value} {below : List Frame} {meth : Method} {c : Code} {H : Heap} {locs : List Loc} {cells slots : Nat} {Qw : State → Prop}
variable {pc : Nat} {ls : Array Slot}
theorem va_callG {Qa : State → Outcome → State → Prop} {free : Addr → Prop} {st0 rest : List Value} (hr : va_Run p l e R s m args below meth c H locs cells slots 0 0 (F0 m pc ls st0) rest Qa free)
    (kk : ∀ (v : Option Value) (u t : State) (K : List Loc), u.heap = H → s.vm.Alike t.vm → Qa u (.returned v) t → (∀ q ∈ K, free q.base) → W p l e R s m args below meth c t.heap (locs ++ K) cells slots Qw (F0 m (pc + 3) ls (v.toList ++ rest))) : W p l e R s m args below meth c H locs cells slots Qw (F0 m pc ls st0) := by
  intro T hT X
  obtain ⟨v, u, t, T', K, h0, X', hL, e1, e2, hq, st⟩ := hr T hT X
  obtain ⟨t2, a1, b1⟩ := kk v u t K h0 (by rw [← e2]; exact X'.warmed.alike) hq hL T' e1 X'
  exact ⟨t2, st t2 a1, b1⟩
end SND
end
section
def mCx (p : Program) (R : Room) (s : State) (m : MethodId) (args : Array Value) (c : Code) (M : Nat) : Prop := p.tables.exec = Jvm.exec ∧ c.code = (mth M).2.1 ∧ c.maxLocals = (mth M).2.2.2.1 ∧ s.vm.findClass (cnm (mth M).2.2.2.2.2.1) = some m.cls ∧ (∀ w ∈ BIG, w.before args s = true) ∧ (mth M).2.2.2.2.2.2.2.2.1 ≤ R.frames ∧ (mth M).2.2.2.2.2.2.2.2.2 ≤ R.locals
def SndAt (n : Nat) : Prop := ∀ (M pc : Nat) (L : mL) (st : List mV) (iv : mIv) (rv : mRv) (Q : Option mV → mIv → mRv → Prop), mex n M pc L st iv rv Q → ∀ (p : Program) (l : Launch) (e : Env) (R : Room) (s : State) (m : MethodId) (args : Array Value) (below : List Frame) (meth : Method) (c : Code) (H : Heap) (locs : List Loc) (ls : Array Slot) (cells slots : Nat) (Qw : State → Prop) (D : va_G) (ad : Nat → Nat) (cy : Nat → ClassId) (b Ls : Nat) (xs : Nat → Int32),
  mCx p R s m args c M → cells ≤ R.cells → slots ≤ R.slots → mWs D ad cy b Ls xs s → mRl D ad cy Ls xs s (mth M).2.2.2.1 L st iv rv H locs ls →
  (∀ (i : Instr) (pc' : Nat) (st2 : List mV) (Cs : List Prop) (v : Option mV) (L2 : mL) (iv' : mIv) (rv' : mRv) (H' : Heap) (locs' : List Loc) (ls' : Array Slot), decode (mth M).2.1 pc' = .ok (i, 1) → mrt (mth M).2.2.2.2.1 i st2 = some (Cs, v) → (∀ P ∈ Cs, P) → Q v iv' rv' → mRl D ad cy Ls xs s (mth M).2.2.2.1 L2 st2 iv' rv' H' locs' ls' → W p l e R s m args below meth c H' locs' cells slots Qw (F0 m pc' ls' (st2.map (mval ad)))) →
  W p l e R s m args below meth c H locs cells slots Qw (F0 m pc ls (st.map (mval ad)))
def okIs (r : mM) : Prop := ∀ e ∈ r.1, okIn r.2.2.2.2.2.1 r.2.2.2.2.2.2.2.2.1 r.2.2.2.2.2.2.2.2.2 e.2.1 e.2.2 = true
def okIb (r : mM) : Bool := r.1.all (fun e => okIn r.2.2.2.2.2.1 r.2.2.2.2.2.2.2.2.1 r.2.2.2.2.2.2.2.2.2 e.2.1 e.2.2)
theorem ok_insb : MTb.all okIb = true := by decide +kernel
theorem ok_insl : okIb mL_law = true := by decide +kernel
theorem okIs_of {r : mM} (h : okIb r = true) : okIs r := fun e he => List.all_eq_true.mp h e he
theorem mth_is {M : Nat} : okIs (mth M) := by
  unfold mth
  rw [List.getD_eq_getElem?_getD]
  cases h : MTb[M]? with
  | none => exact okIs_of ok_insl
  | some r => exact okIs_of (List.all_eq_true.mp ok_insb r (List.mem_of_getElem? h))
theorem mth_ins {M pc : Nat} {i : Instr} {n : Nat} (h : lk (mth M).1 pc = some (i, n)) : decode (mth M).2.1 pc = .ok (i, n) ∧ okIn (mth M).2.2.2.2.2.1 (mth M).2.2.2.2.2.2.2.2.1 (mth M).2.2.2.2.2.2.2.2.2 i n = true := by
  have hm := lk_in h
  have h1 := (mth_ok (M := M)).1 (pc, i, n) hm
  have h2 := mth_is (M := M) (pc, i, n) hm
  exact ⟨h1, h2⟩
theorem mrt_ok {ret : Option FieldType} {i : Instr} {st : List mV} {Cs : List Prop} {v : Option mV} (h : mrt ret i st = some (Cs, v)) (ho : ∀ w ∈ st, okv w) : ∀ w, v = some w → okv w := by
  unfold mrt at h
  split at h <;> first | (cases h; intro w hw; cases hw; exact ho _ List.mem_cons_self) | (cases h; intro w hw; cases hw) | cases h
theorem va_X.here {D : va_G} {ad : Nat → Nat} {cy : Nat → ClassId} {b Ls : Nat} {xs : Nat → Int32} {s U : State} {H : Heap} {locs : List Loc} (hWs : mWs D ad cy b Ls xs s) (hS : va_S (mA ad) s.heap H locs) (hU : U.heap = H) (hW : s.vm.Alike U.vm) : mWs D ad cy b Ls xs U := by
  obtain ⟨h1, h2, h3, h4, h5, h6⟩ := hWs
  refine ⟨va_K.moved hW h1, ?_, by rw [hU]; exact Nat.lt_of_lt_of_le h3 hS.1, h4, h5, h6⟩
  exact va_X.moved hW (h2.kept (by rw [hU]; exact hS.2.1 b h3 h4))
set_option maxHeartbeats 2000000 in
theorem met_of {n : Nat} (IH : SndAt n) (l : Launch) {M : Nat} (hM : (mth M).2.2.2.2.2.1 < 7) {as : List mV} {iv : mIv} {rv : mRv} {Q : Option mV → mIv → mRv → Prop} (hex : mex n M 0 (mentry (mth M).2.2.2.1 as) [] iv rv Q) (D : va_G) (ad : Nat → Nat) (cy : Nat → ClassId) (b Ls : Nat) (xs : Nat → Int32) (ho : ∀ w ∈ as, okv w) (hl : (mslots as).length ≤ (mth M).2.2.2.1) (hh : okh iv) (h1 : ∀ j, iv 1000000 j = (xs j).toInt) (h2 : iv 1000001 0 = (Ls : Int)) :
    Met l (mth M).2.2.1 (wsM M) (rmM M) (mPc D ad cy b Ls xs as iv rv) (mQc D ad cy Ls xs Q) 0 0 (mA ad) := by
  obtain ⟨o1, o2⟩ := mth_ok (M := M)
  obtain ⟨g1, g2, g3, g4, g5, g6, g7⟩ := o2 hM
  refine Met.ofWF (cc := (mth M).2.1) (maxL := (mth M).2.2.2.1) (ret := (mth M).2.2.2.2.1) g2 rfl ?_
  intro p e s m args below meth c s₁ B hml hv
  obtain ⟨rfl, hP, hD, hWs⟩ := hv
  have hx := B.exec
  have hb := B.bytes
  have hr := B.returns
  have hts := atoms_spec (ws := wsM M) B.pre
  have hown : s.vm.findClass (mth M).2.2.1.cls = some m.cls := findClass_of_methodNamed B.named
  have hlocks := B.notSynchronized
  have hll : (lg_sl (as.map (mval ad))).length ≤ (mth M).2.2.2.1 := by rw [slots_len]; exact hl
  have hlv := lv_entry (as.map (mval ad)) (n := (mth M).2.2.2.1) hll
  rw [lg_entry_eq]
  generalize (lg_sl (as.map (mval ad)) ++ List.replicate ((mth M).2.2.2.1 - (lg_sl (as.map (mval ad))).length) Slot.unset).toArray = ls at hlv ⊢
  refine IH M 0 _ [] iv rv Q hex p l e _ s m _ below meth c s.heap [] ls 0 0 _ D ad cy b Ls xs ⟨hx, hb, hml, by rw [← g3]; exact hown, fun w hw => hts w (List.mem_cons_of_mem _ hw), Nat.le_refl _, Nat.le_refl _⟩ (Nat.zero_le _) (Nat.zero_le _) hWs ⟨entry_Lo hl ho hlv, fun _ h => absurd h List.not_mem_nil, hP, hD, va_S.rf, hh, h1, h2⟩ ?_
  intro i pc' st2 Cs v L2 iv' rv' H' locs' ls' hdg hmr hC hQ hR
  have hvo := mrt_ok hmr hR.2.1
  have post : ∀ t : State, t.heap = H' → s.WarmedH t.vm → ∀ oc, oc = .returned (v.map (mval ad)) → mQc D ad cy Ls xs Q (as.map (mval ad)).toArray s oc t := fun t ht hW oc hoc =>
    ⟨v, iv', rv', hoc, hQ, hvo, by rw [ht]; exact hR.2.2.1, hR.2.2.2.1, hR.2.2.2.2.2.1, hR.2.2.2.2.2.2.1, hR.2.2.2.2.2.2.2, hR.2.2.2.2.1.F ht⟩
  generalize hre : (mth M).2.2.2.2.1 = ret at hmr hr
  unfold mrt at hmr
  split at hmr
  · cases hmr
    exact W.iret hx hb hr (fun t ht hW => post t ht hW _ rfl) hR.2.2.2.2.1.2.2 hdg
  · cases hmr
    exact W.zret hx hb hr (nz_bool (hC _ List.mem_cons_self)).1 (fun t ht hW => post t ht hW _ rfl) hR.2.2.2.2.1.2.2 hdg
  · cases hmr
    exact W.lret hx hb hr (fun t ht hW => post t ht hW _ rfl) hR.2.2.2.2.1.2.2 hdg
  · cases hmr
    exact W.vret hx hb hr (fun t ht hW => post t ht hW _ rfl) hR.2.2.2.2.1.2.2 hdg
  · cases hmr
theorem blind_mPc {D : va_G} {ad : Nat → Nat} {cy : Nat → ClassId} {b Ls : Nat} {xs : Nat → Int32} {as : List mV} {iv : mIv} {rv : mRv} : FrameBlind (mPc D ad cy b Ls xs as iv rv) := by
  intro a U g mk q
  obtain ⟨q0, qP, qD, w1, w2, w3⟩ := q
  exact ⟨q0, qP, qD, va_K.moved (u := U) (U := U.calling g mk a) (Vm.Alike.refl U.vm) w1, va_X.moved (u := U) (U := U.calling g mk a) (Vm.Alike.refl U.vm) w2, w3⟩
theorem mpush_map {ad : Nat → Nat} {v : Option mV} {r : List mV} : (mpush v r).map (mval ad) = (v.map (mval ad)).toList ++ r.map (mval ad) := by
  cases v <;> rfl
theorem mrt_len {ret : Option FieldType} {i : Instr} {n : Nat} {st : List mV} {Cs : List Prop} {v : Option mV} {o F Lc : Nat} (h : mrt ret i st = some (Cs, v)) (hok : okIn o F Lc i n = true) : n = 1 := by
  unfold mrt at h
  split at h <;> first | exact bq hok | cases h
end
section
theorem own7b : ∀ M, M < 104 → (mth M).2.2.2.2.2.1 < 7 := by decide +kernel
theorem own7 {M : Nat} (h : M < 104) : (mth M).2.2.2.2.2.1 < 7 := own7b M h
theorem mrecv_of {s : State} {H : Heap} {D : va_G} {ad : Nat → Nat} {cy : Nat → ClassId} {iv : mIv} {rv : mRv} {tys : List (ClassId × FieldType)} {q ci : Nat} (hc : ci < 4) (hK : va_K D vwCl tys s) (hP : va_P D vwCl (mwl ad cy iv rv) H) (hO : isO q ci) : ∃ cell : Cell, H[ad q]? = some cell ∧ cell.vm.isStatics = false ∧ s.vm.findClass (cnm ci) = some cell.cls :=
  va_recv (q := (cnm ci, fTk ci, fNk ci)) (fs := (List.range (fNk ci)).map (fun j => mfv ad (fCd ci j) iv rv q j)) hK hP (fT_ok (k := 0) hc).1 (by rw [mwl_get (isO_lt hO), mce_O hO])
theorem isO_c {q ci : Nat} (h : isO q ci) : ci < 4 := by
  have h82 := isO_lt h
  unfold isO at h
  have : ∀ q, q < 82 → (shk q).1 = 2 → (shk q).2.1 < 4 := by decide +kernel
  have h2 := this q h82 (by rw [h])
  rw [h] at h2
  exact h2
section SNF
variable {p : Program} {l : Launch} {e : Env} {R : Room} {s : State} {m : MethodId} {args : Array Value} {below : List Frame} {meth : Method} {c : Code} {H : Heap} {locs : List Loc} {cells slots : Nat} {Qw : State → Prop}
variable {pc : Nat} {ls : Array Slot} {D : va_G} {ad : Nat → Nat} {cy : Nat → ClassId} {b Ls : Nat} {xs : Nat → Int32} {L : mL} {st : List mV} {iv : mIv} {rv : mRv}
/-- a call of the mini machine is one of the machine -/
theorem s_call {n M M' : Nat} {i : Instr} {len : Nat} {Cs : List Prop} {as r : List mV} {Q' : Option mV → mIv → mRv → Prop} (IH : SndAt n) (hX : mCx p R s m args c M) (hc1 : cells ≤ R.cells) (hc2 : slots ≤ R.slots) (hWs : mWs D ad cy b Ls xs s) (hdg : decode (mth M).2.1 pc = .ok (i, len)) (hok : okIn (mth M).2.2.2.2.2.1 (mth M).2.2.2.2.2.2.2.2.1 (mth M).2.2.2.2.2.2.2.2.2 i len = true) (hs : mcl (mth M).2.2.2.2.2.2.2.2.1 (mth M).2.2.2.2.2.2.2.2.2 (mth M).2.2.2.2.2.1 i st = some (Cs, M', as, r)) (hC : ∀ P ∈ Cs, P) (hex : mex n M' 0 (mentry (mth M').2.2.2.1 as) [] iv rv Q') (hr : mRl D ad cy Ls xs s (mth M).2.2.2.1 L st iv rv H locs ls)
    (kk : ∀ v iv' rv' H' locs', Q' v iv' rv' → mRl D ad cy Ls xs s (mth M).2.2.2.1 L (mpush v r) iv' rv' H' locs' ls → W p l e R s m args below meth c H' locs' cells slots Qw (F0 m (pc + 3) ls ((mpush v r).map (mval ad)))) : W p l e R s m args below meth c H locs cells slots Qw (F0 m pc ls (st.map (mval ad))) := by
  obtain ⟨hx, hb, hml, hown, hts, hF, hLc⟩ := hX
  have cont : ∀ (hro : ∀ w ∈ r, okv w), va_Run p l e R s m args below meth c H locs cells slots 0 0 (F0 m pc ls (st.map (mval ad))) (r.map (mval ad)) (mQc D ad cy Ls xs Q' (as.map (mval ad)).toArray) (mA ad) → W p l e R s m args below meth c H locs cells slots Qw (F0 m pc ls (st.map (mval ad))) := fun hro hrun => by
    refine va_callG hrun (fun v u t K hu hvm hq hK => ?_)
    obtain ⟨w, iv', rv', e1, q1, q2, q3, q4, q5, q6, q7, q8⟩ := hq
    cases e1
    rw [← mpush_map]
    refine kk w iv' rv' t.heap (locs ++ K) q1 ⟨hr.1, ?_, q3, q4, ?_, q5, q6, q7⟩
    · cases w with
      | none => exact hro
      | some w => exact List.forall_mem_cons.mpr ⟨q2 w rfl, hro⟩
    · obtain ⟨z1, z2⟩ := q8
      rw [hu] at z1 z2
      obtain ⟨s1, s2, s3⟩ := hr.2.2.2.2.1
      exact ⟨Nat.le_trans s1 z1, fun q h1 h2 => by rw [z2 q (Nat.lt_of_lt_of_le h1 s1) h2]; exact s2 q h1 h2, fun q hq => (List.mem_append.mp hq).elim (s3 q) (hK q)⟩
  have hFix : CallFix p m c (mth M).2.1 (mth M).2.2.2.1 s args BIG (cnm (mth M).2.2.2.2.2.1) := ⟨hx, hb, hml, hown, hts⟩
  have hPre : ∀ U : State, U.heap = H → s.WarmedH U.vm → mPc D ad cy b Ls xs as iv rv (as.map (mval ad)).toArray U := fun U hU hW => ⟨rfl, by rw [hU]; exact hr.2.2.1, hr.2.2.2.1, va_X.here hWs hr.2.2.2.2.1 hU hW.alike⟩
  unfold mcl at hs
  split at hs
  · rename_i ix
    split at hs
    · rename_i M2 hk
      obtain ⟨k1, k2, k3, k4⟩ := KTb_ok _ (lk2_in hk)
      split at hs
      · rename_i as2 r2 hst htk
        split at hs
        · rename_i hcond
          cases hs
          have h1 := Bool.and_eq_true_iff.mp hcond
          have h2 := Bool.and_eq_true_iff.mp h1.2
          have h3 := Bool.and_eq_true_iff.mp h2.2
          have c1 := Nat.le_of_ble_eq_true h1.1
          have c2 := Nat.le_of_ble_eq_true h2.1
          have c3 := Nat.le_of_ble_eq_true h3.1
          have c4 := Nat.le_of_ble_eq_true h3.2
          have hl3 : len = 3 := bq (Bool.and_eq_true_iff.mp hok).1
          subst hl3
          obtain ⟨t, e1, e2, e3⟩ := mtk_eq _ _ _ _ _ htk
          rw [List.append_nil] at e2
          have hasr : as.reverse = t := by rw [e2, List.reverse_reverse]
          have ho : ∀ w ∈ as, okv w := fun w hw => hr.2.1 w (by rw [e1]; exact List.mem_append_left _ (by rw [← hasr]; exact List.mem_reverse.mpr hw))
          have hro : ∀ w ∈ r, okv w := fun w hw => hr.2.1 w (by rw [e1]; exact List.mem_append_right _ hw)
          have K7 : (mth M').2.2.2.2.2.1 < 7 := own7 k1
          obtain ⟨-, o2⟩ := mth_ok (M := M')
          obtain ⟨g1, g2, g3, g4, g5, g6, g7⟩ := o2 K7
          have hMet := met_of IH l K7 hex D ad cy b Ls xs ho c1 hr.2.2.2.2.2.1 hr.2.2.2.2.2.2.1 hr.2.2.2.2.2.2.2
          refine cont hro ?_
          refine va_runS (As := as.map (mval ad)) (rest := r.map (mval ad)) hFix hMet ⟨callB_of _ hts (big_good K7) rfl rfl rfl (hts _ g4) (hts _ k2) ⟨g5, g6, g7⟩ ⟨by show (mth M').2.2.2.2.2.2.2.2.1 + 1 ≤ R.frames; omega, by show 8 + ((mth M').2.2.2.1 + 11) + (mth M').2.2.2.2.2.2.2.2.2 ≤ R.locals; omega⟩, hts _ (k3 hst)⟩ ⟨blind_mPc, hPre⟩ rfl (by rw [List.length_map, e2, List.length_reverse, e3]) hr.1.2.1.1 (by show st.map (mval ad) = _; rw [e1, ← hasr, List.map_append, List.map_reverse]) (lv_room (by rw [mcat_eq]; exact c2)) hdg ⟨hc1, hc2⟩
        · cases hs
      · cases hs
    · cases hs
  · rename_i ix
    split at hs
    · rename_i M2 hk
      obtain ⟨k1, k2, k3, k4⟩ := KTb_ok _ (lk2_in hk)
      split at hs
      · rename_i as2 q r2 hst htk
        split at hs
        · rename_i hcond
          cases hs
          have h1 := Bool.and_eq_true_iff.mp hcond
          have h2 := Bool.and_eq_true_iff.mp h1.2
          have h3 := Bool.and_eq_true_iff.mp h2.2
          have c1 := Nat.le_of_ble_eq_true h1.1
          have c2 := Nat.le_of_ble_eq_true h2.1
          have c3 := Nat.le_of_ble_eq_true h3.1
          have c4 := Nat.le_of_ble_eq_true h3.2
          have hl3 : len = 3 := bq hok
          subst hl3
          obtain ⟨t, e1, e2, e3⟩ := mtk_eq _ _ _ _ _ htk
          rw [List.append_nil] at e2
          have hasr : as2.reverse = t := by rw [e2, List.reverse_reverse]
          have ho : ∀ w ∈ (Sum.inr (Sum.inr (some q)) : mV) :: as2, okv w := List.forall_mem_cons.mpr ⟨trivial, fun w hw => hr.2.1 w (by rw [e1]; exact List.mem_append_left _ (by rw [← hasr]; exact List.mem_reverse.mpr hw))⟩
          have hro : ∀ w ∈ r, okv w := fun w hw => hr.2.1 w (by rw [e1]; exact List.mem_append_right _ (List.mem_cons_of_mem _ hw))
          have K7 : (mth M').2.2.2.2.2.1 < 7 := own7 k1
          obtain ⟨-, o2⟩ := mth_ok (M := M')
          obtain ⟨g1, g2, g3, g4, g5, g6, g7⟩ := o2 K7
          have hO : isO q (mth M').2.2.2.2.2.1 := hC _ List.mem_cons_self
          obtain ⟨i1, i2⟩ := k4 hst
          have hMet := met_of IH l K7 hex D ad cy b Ls xs ho c1 hr.2.2.2.2.2.1 hr.2.2.2.2.2.2.1 hr.2.2.2.2.2.2.2
          refine cont hro ?_
          have hrec := mrecv_of (isO_c hO) hWs.1 hr.2.2.1 hO
          rw [← g3] at hrec
          refine va_runV (C := (mth M').2.2.1.cls) (b := ad q) (As := as2.map (mval ad)) (rest := r.map (mval ad)) hFix hMet ⟨callB_of _ hts (big_good K7) rfl rfl rfl (hts _ g4) (hts _ k2) ⟨g5, g6, g7⟩ ⟨by show (mth M').2.2.2.2.2.2.2.2.1 + 1 ≤ R.frames; omega, by show 8 + ((mth M').2.2.2.1 + 11) + (mth M').2.2.2.2.2.2.2.2.2 ≤ R.locals; omega⟩, hts _ i1, hts _ i2⟩ ⟨blind_mPc, hrec, hPre⟩ rfl (by rw [List.length_map, e2, List.length_reverse, e3]) hr.1.2.1.1 (by show st.map (mval ad) = _; rw [e1, ← hasr, List.map_append, List.map_reverse]; rfl) (lv_room (by rw [mcat_eq]; exact c2)) hdg ⟨hc1, hc2⟩
        · cases hs
      · cases hs
    · cases hs
  · cases hs
end SNF
theorem snd : ∀ n : Nat, SndAt n := by
  intro n
  induction n with
  | zero => intro M pc L st iv rv Q h; exact absurd h (by unfold mex; exact id)
  | succ n IH =>
    intro M pc L st iv rv Q h p l e R s m args below meth c H locs ls cells slots Qw D ad cy b Ls xs hX hc1 hc2 hWs hr hret
    unfold mex at h
    split at h
    · exact absurd h id
    · rename_i i len hlk
      obtain ⟨hdg, hok⟩ := mth_ins hlk
      have hX' := hX
      obtain ⟨hx, hb, hml, hown, hts, hF, hLc⟩ := hX'
      split at h
      · rename_i Cs pc' L' st' iv' rv' hnx
        obtain ⟨hC, hex⟩ := mconj_of h
        exact s_nx hx hb hml hown hts hWs hF hLc hdg hok hnx hC hr (fun H' locs' ls' hr' => IH M pc' L' st' iv' rv' Q hex p l e R s m args below meth c H' locs' ls' cells slots Qw D ad cy b Ls xs hX hc1 hc2 hWs hr' hret)
      · split at h
        · rename_i bs st' hbr
          exact s_br hx hb hdg hok hbr hr h (fun t ht hr' => IH M t L st' iv rv Q ht p l e R s m args below meth c H locs ls cells slots Qw D ad cy b Ls xs hX hc1 hc2 hWs hr' hret)
        · split at h
          · rename_i Cs M' as r hcl
            obtain ⟨hC, hex⟩ := mconj_of h
            exact s_call IH hX hc1 hc2 hWs hdg hok hcl hC hex hr (fun v iv' rv' H' locs' hq hr' => IH M (pc + 3) L (mpush v r) iv' rv' Q hq p l e R s m args below meth c H' locs' ls cells slots Qw D ad cy b Ls xs hX hc1 hc2 hWs hr' hret)
          · split at h
            · rename_i Cs v hrt
              obtain ⟨hC, hq⟩ := mconj_of h
              have hl1 := mrt_len hrt hok
              subst hl1
              exact hret i pc st Cs v L iv rv H locs ls hdg hrt hC hq hr
            · exact absurd h id
end
section
/-! runs: fuel, equations -/
theorem mconj_mono {Cs : List Prop} {P P' : Prop} (h : P → P') (hc : mconj Cs P) : mconj Cs P' := mconj_to (mconj_of hc).1 (h (mconj_of hc).2)
theorem mball_mono {bs : List (Prop × Nat)} {P P' : Nat → Prop} (h : ∀ t, P t → P' t) (hb : mball bs P) : mball bs P' := by
  induction bs with
  | nil => trivial
  | cons b r ih => exact ⟨fun hc => h _ (hb.1 hc), ih hb.2⟩
theorem mex_mono : ∀ (n M pc : Nat) (L : mL) (st : List mV) (iv : mIv) (rv : mRv) (Q Q' : Option mV → mIv → mRv → Prop), (∀ v i r, Q v i r → Q' v i r) → ∀ k, mex n M pc L st iv rv Q → mex (n + k) M pc L st iv rv Q' := by
  intro n
  induction n with
  | zero => intro M pc L st iv rv Q Q' hQ k h; exact absurd h (by unfold mex; exact id)
  | succ n IH =>
    intro M pc L st iv rv Q Q' hQ k h
    rw [show n + 1 + k = (n + k) + 1 by omega]
    unfold mex at h ⊢
    split at h
    · exact absurd h id
    · split at h
      · exact mconj_mono (IH _ _ _ _ _ _ Q Q' hQ k) h
      · split at h
        · exact mball_mono (fun t => IH _ _ _ _ _ _ Q Q' hQ k) h
        · split at h
          · exact mconj_mono (IH _ _ _ _ _ _ _ _ (fun v i r => IH _ _ _ _ _ _ Q Q' hQ k) k) h
          · split at h
            · exact mconj_mono (hQ _ _ _) h
            · exact absurd h id
theorem Ex.mono {M pc : Nat} {L : mL} {st : List mV} {iv : mIv} {rv : mRv} {Q Q' : Option mV → mIv → mRv → Prop} (hQ : ∀ v i r, Q v i r → Q' v i r) (h : Ex M pc L st iv rv Q) : Ex M pc L st iv rv Q' := by
  obtain ⟨n, h⟩ := h
  exact ⟨n, mex_mono n M pc L st iv rv Q Q' hQ 0 h⟩
theorem mex_le {n k M pc : Nat} {L : mL} {st : List mV} {iv : mIv} {rv : mRv} {Q : Option mV → mIv → mRv → Prop} (hk : n ≤ k) (h : mex n M pc L st iv rv Q) : mex k M pc L st iv rv Q := by
  have := mex_mono n M pc L st iv rv Q Q (fun _ _ _ h => h) (k - n) h
  rw [show n + (k - n) = k by omega] at this
  exact this
theorem mball_Ex {bs : List (Prop × Nat)} {M : Nat} {L : mL} {st : List mV} {iv : mIv} {rv : mRv} {Q : Option mV → mIv → mRv → Prop} (h : mball bs (fun t => Ex M t L st iv rv Q)) : ∃ n, mball bs (fun t => mex n M t L st iv rv Q) := by
  induction bs with
  | nil => exact ⟨0, trivial⟩
  | cons b r ih =>
    obtain ⟨n1, h1⟩ := ih h.2
    by_cases hb : b.1
    · obtain ⟨n2, h2⟩ := h.1 hb
      exact ⟨n1 + n2, fun _ => mex_le (by omega) h2, mball_mono (fun t => mex_le (by omega)) h1⟩
    · exact ⟨n1, fun hc => absurd hc hb, h1⟩
theorem mball_ex {bs : List (Prop × Nat)} {P : Nat → Nat → Prop} (hP : ∀ k k' t, k ≤ k' → P k t → P k' t) (h : mball bs (fun t => ∃ k, P k t)) : ∃ k, mball bs (P k) := by
  induction bs with
  | nil => exact ⟨0, trivial⟩
  | cons b r ih =>
    obtain ⟨n1, h1⟩ := ih h.2
    by_cases hb : b.1
    · obtain ⟨n2, h2⟩ := h.1 hb
      exact ⟨n1 + n2, fun _ => hP _ _ _ (by omega) h2, mball_mono (fun t => hP _ _ _ (by omega)) h1⟩
    · exact ⟨n1, fun hc => absurd hc hb, h1⟩
theorem mex_ex : ∀ (n M pc : Nat) (L : mL) (st : List mV) (iv : mIv) (rv : mRv) (P : Nat → Option mV → mIv → mRv → Prop), (∀ k k' v i r, k ≤ k' → P k v i r → P k' v i r) → mex n M pc L st iv rv (fun v i r => ∃ k, P k v i r) → ∃ k, mex n M pc L st iv rv (P k) := by
  intro n
  induction n with
  | zero => intro M pc L st iv rv P hP h; exact absurd h (by unfold mex; exact id)
  | succ n IH =>
    intro M pc L st iv rv P hP h
    unfold mex at h
    split at h
    · exact absurd h id
    · rename_i i len hlk
      split at h
      · rename_i hnx
        obtain ⟨hC, h⟩ := mconj_of h
        obtain ⟨k, hk⟩ := IH _ _ _ _ _ _ P hP h
        exact ⟨k, by unfold mex; rw [hlk]; simp only [hnx]; exact mconj_to hC hk⟩
      · rename_i hnx
        split at h
        · rename_i hbr
          obtain ⟨k, hk⟩ := mball_ex (P := fun k t => mex n M t L _ iv rv (P k)) (fun k k' t hk h => mex_mono _ _ _ _ _ _ _ _ _ (fun v i r => hP k k' v i r hk) 0 h) (mball_mono (fun t h => IH _ _ _ _ _ _ P hP h) h)
          exact ⟨k, by unfold mex; rw [hlk]; simp only [hnx, hbr]; exact hk⟩
        · rename_i hbr
          split at h
          · rename_i Cs M' as r hcl
            obtain ⟨hC, h⟩ := mconj_of h
            obtain ⟨k, hk⟩ := IH M' 0 _ _ _ _ (fun k v i r2 => mex n M (pc + 3) L (mpush v r) i r2 (P k)) (fun k k' v i r2 hk h => mex_mono _ _ _ _ _ _ _ _ _ (fun v i r => hP k k' v i r hk) 0 h) (mex_mono _ _ _ _ _ _ _ _ _ (fun v i r2 h => IH _ _ _ _ _ _ P hP h) 0 h)
            exact ⟨k, by unfold mex; rw [hlk]; simp only [hnx, hbr, hcl]; exact mconj_to hC hk⟩
          · rename_i hcl
            split at h
            · rename_i hrt
              obtain ⟨hC, k, hk⟩ := mconj_of h
              exact ⟨k, by unfold mex; rw [hlk]; simp only [hnx, hbr, hcl, hrt]; exact mconj_to hC hk⟩
            · exact absurd h id
/-- the same instruction decides both ways -/
theorem ex_eq {M pc : Nat} {L : mL} {st : List mV} {iv : mIv} {rv : mRv} {Q : Option mV → mIv → mRv → Prop} {i : Instr} {len : Nat} (hl : lk (mth M).1 pc = some (i, len)) :
    Ex M pc L st iv rv Q = (match mnx (mth M).2.2.2.2.2.1 i len pc L st iv rv with
      | some (Cs, pc', L', st', iv', rv') => mconj Cs (Ex M pc' L' st' iv' rv' Q)
      | none => match mbr i len pc st with
        | some (bs, st') => mball bs (fun t => Ex M t L st' iv rv Q)
        | none => match mcl (mth M).2.2.2.2.2.2.2.2.1 (mth M).2.2.2.2.2.2.2.2.2 (mth M).2.2.2.2.2.1 i st with
          | some (Cs, M', as, r) => mconj Cs (Ex M' 0 (mentry (mth M').2.2.2.1 as) [] iv rv (fun v iv' rv' => Ex M (pc + 3) L (mpush v r) iv' rv' Q))
          | none => match mrt (mth M).2.2.2.2.1 i st with
            | some (Cs, v) => mconj Cs (Q v iv rv)
            | none => False) := by
  apply propext
  constructor
  · intro h
    obtain ⟨n, h⟩ := h
    cases n with
    | zero => exact absurd h (by unfold mex; exact id)
    | succ n =>
      unfold mex at h
      rw [hl] at h
      simp only at h
      split at h
      · rename_i hnx
        rw [hnx]
        exact mconj_mono (fun h => ⟨n, h⟩) h
      · rename_i hnx
        rw [hnx]
        split at h
        · rename_i hbr
          rw [hbr]
          exact mball_mono (fun t h => ⟨n, h⟩) h
        · rename_i hbr
          rw [hbr]
          split at h
          · rename_i hcl
            rw [hcl]
            exact mconj_mono (fun h => Ex.mono (fun v i r h => ⟨n, h⟩) ⟨n, h⟩) h
          · rename_i hcl
            rw [hcl]
            split at h
            · rename_i hrt
              rw [hrt]
              exact h
            · exact absurd h id
  · intro h
    have key : ∀ n, (match mnx (mth M).2.2.2.2.2.1 i len pc L st iv rv with
      | some (Cs, pc', L', st', iv', rv') => mconj Cs (mex n M pc' L' st' iv' rv' Q)
      | none => match mbr i len pc st with
        | some (bs, st') => mball bs (fun t => mex n M t L st' iv rv Q)
        | none => match mcl (mth M).2.2.2.2.2.2.2.2.1 (mth M).2.2.2.2.2.2.2.2.2 (mth M).2.2.2.2.2.1 i st with
          | some (Cs, M', as, r) => mconj Cs (mex n M' 0 (mentry (mth M').2.2.2.1 as) [] iv rv (fun v iv' rv' => mex n M (pc + 3) L (mpush v r) iv' rv' Q))
          | none => match mrt (mth M).2.2.2.2.1 i st with
            | some (Cs, v) => mconj Cs (Q v iv rv)
            | none => False) → Ex M pc L st iv rv Q := fun n hn => ⟨n + 1, by unfold mex; rw [hl]; exact hn⟩
    split at h
    · rename_i Cs pc' L' st' iv' rv' hnx
      obtain ⟨hC, n, hn⟩ := mconj_of h
      refine key n ?_
      rw [hnx]
      exact mconj_to hC hn
    · rename_i hnx
      split at h
      · rename_i bs st' hbr
        obtain ⟨n, hn⟩ := mball_Ex h
        refine key n ?_
        rw [hnx, hbr]
        exact hn
      · rename_i hbr
        split at h
        · rename_i Cs M' as r hcl
          obtain ⟨hC, n, hn⟩ := mconj_of h
          obtain ⟨k, hk⟩ := mex_ex n M' 0 _ _ _ _ (fun k v i r2 => mex k M (pc + 3) L (mpush v r) i r2 Q) (fun k k' v i r2 hk h => mex_le hk h) hn
          refine key (n + k) ?_
          rw [hnx, hbr, hcl]
          refine mconj_to hC (mex_mono n M' 0 _ _ _ _ _ _ (fun v i r2 h => mex_le (by omega) h) k hk)
        · rename_i hcl
          split at h
          · rename_i Cs v hrt
            refine key 0 ?_
            rw [hnx, hbr, hcl, hrt]
            exact h
          · exact absurd h id
/-- a stretch of instructions, told by its own list -/
def mblk (o : Nat) : List (Nat × Instr × Nat) → mSt → Option (List Prop × mSt)
  | [], s => some ([], s)
  | (a, i, n) :: r, (pc, L, st, iv, rv) => match Nat.beq a pc with
    | true => match mnx o i n pc L st iv rv with
      | some (Cs, s') => match mblk o r s' with
        | some (Ds, s2) => some (Cs ++ Ds, s2)
        | none => none
      | none => none
    | false => none
def lkb (M : Nat) (code : List (Nat × Instr × Nat)) : Bool := code.all (fun e => decide (lk (mth M).1 e.1 = some e.2))
theorem mconj_app {Cs Ds : List Prop} {P : Prop} : mconj (Cs ++ Ds) P = mconj Cs (mconj Ds P) := by
  induction Cs with
  | nil => rfl
  | cons c cs ih => show (c ∧ mconj (cs ++ Ds) P) = (c ∧ mconj cs (mconj Ds P)); rw [ih]
theorem ex_blk {M pc pc' : Nat} {L L' : mL} {st st' : List mV} {iv iv' : mIv} {rv rv' : mRv} {Q : Option mV → mIv → mRv → Prop} (o : Nat) (code : List (Nat × Instr × Nat)) (Cs : List Prop) (ho : (mth M).2.2.2.2.2.1 = o) (hc : lkb M code = true) (h : mblk o code (pc, L, st, iv, rv) = some (Cs, pc', L', st', iv', rv')) : Ex M pc L st iv rv Q = mconj Cs (Ex M pc' L' st' iv' rv' Q) := by
  induction code generalizing pc L st iv rv Cs with
  | nil => cases h; rfl
  | cons x r ih =>
    obtain ⟨a, i, n⟩ := x
    have hc' := Bool.and_eq_true_iff.mp (show (decide (lk (mth M).1 a = some (i, n)) && r.all (fun e => decide (lk (mth M).1 e.1 = some e.2))) = true from hc)
    unfold mblk at h
    split at h
    · rename_i hb
      have := bq hb
      subst this
      split at h
      · rename_i Ds s' hnx
        obtain ⟨pc1, L1, st1, iv1, rv1⟩ := s'
        split at h
        · rename_i Es s2 hm
          cases h
          rw [ex_eq (of_decide_eq_true hc'.1), ho, hnx]
          show mconj Ds _ = _
          rw [mconj_app, ih Es hc'.2 hm]
        · cases h
      · cases h
    · cases h
theorem ex_bra {M pc : Nat} {L : mL} {st st' : List mV} {iv : mIv} {rv : mRv} {Q : Option mV → mIv → mRv → Prop} {i : Instr} {n : Nat} {bs : List (Prop × Nat)} (hc : lkb M [(pc, i, n)] = true) (h1 : ∀ o, mnx o i n pc L st iv rv = none) (h2 : mbr i n pc st = some (bs, st')) : Ex M pc L st iv rv Q = mball bs (fun t => Ex M t L st' iv rv Q) := by
  have hc' := Bool.and_eq_true_iff.mp (show (decide (lk (mth M).1 pc = some (i, n)) && true) = true from hc)
  rw [ex_eq (of_decide_eq_true hc'.1), h1, h2]
theorem ex_cal {M pc M' : Nat} {L : mL} {st as r : List mV} {iv : mIv} {rv : mRv} {Q : Option mV → mIv → mRv → Prop} {i : Instr} {n F Lc o nl : Nat} {Cs : List Prop} (hc : lkb M [(pc, i, n)] = true) (hF : (mth M).2.2.2.2.2.2.2.2.1 = F) (hL : (mth M).2.2.2.2.2.2.2.2.2 = Lc) (ho : (mth M).2.2.2.2.2.1 = o) (h1 : mnx o i n pc L st iv rv = none) (h2 : mbr i n pc st = none) (h3 : mcl F Lc o i st = some (Cs, M', as, r)) (h4 : (mth M').2.2.2.1 = nl) : Ex M pc L st iv rv Q = mconj Cs (Ex M' 0 (mentry nl as) [] iv rv (fun v iv' rv' => Ex M (pc + 3) L (mpush v r) iv' rv' Q)) := by
  have hc' := Bool.and_eq_true_iff.mp (show (decide (lk (mth M).1 pc = some (i, n)) && true) = true from hc)
  rw [ex_eq (of_decide_eq_true hc'.1), ho, h1, h2, hF, hL, h3, ← h4]
theorem ex_ret {M pc : Nat} {L : mL} {st : List mV} {iv : mIv} {rv : mRv} {Q : Option mV → mIv → mRv → Prop} {i : Instr} {n : Nat} {rt : Option FieldType} {Cs : List Prop} {v : Option mV} (hc : lkb M [(pc, i, n)] = true) (h1 : ∀ o, mnx o i n pc L st iv rv = none) (h2 : mbr i n pc st = none) (h3 : ∀ a b c, mcl a b c i st = none) (hr : (mth M).2.2.2.2.1 = rt) (h4 : mrt rt i st = some (Cs, v)) : Ex M pc L st iv rv Q = mconj Cs (Q v iv rv) := by
  have hc' := Bool.and_eq_true_iff.mp (show (decide (lk (mth M).1 pc = some (i, n)) && true) = true from hc)
  rw [ex_eq (of_decide_eq_true hc'.1), h1, h2, h3, hr, h4]
end
section
/-! the references, and what is where -/
def RVt : List (Nat × Nat × Nat) := [(0, 0, 1), (0, 1, 2), (0, 2, 3), (0, 3, 4), (0, 4, 5),
  (6, 6, 7), (8, 6, 9), (10, 6, 11), (12, 6, 13), (14, 6, 15), (16, 6, 17), (18, 6, 19), (20, 6, 21), (22, 6, 23),
  (24, 1, 25), (24, 4, 26), (24, 5, 27), (24, 6, 28), (24, 7, 29), (24, 8, 30), (24, 9, 40), (24, 10, 41), (24, 11, 42), (24, 12, 43), (24, 13, 44),
  (45, 1, 46), (45, 4, 47), (45, 5, 48), (45, 6, 49), (45, 7, 50), (45, 8, 51), (45, 9, 61), (45, 10, 62), (45, 11, 63), (45, 12, 64), (45, 13, 65),
  (66, 1, 67), (66, 2, 68), (66, 3, 69), (66, 4, 70), (66, 5, 71), (66, 6, 72), (66, 7, 73), (66, 8, 74), (66, 9, 75), (66, 12, 76), (66, 13, 77), (66, 15, 78), (66, 17, 79), (66, 18, 80), (66, 20, 81)]
def RV (sa sb : Nat) : mRv := fun p k => match Nat.beq p 5, Nat.beq p 30, Nat.beq p 51, (Nat.beq p 0 && Nat.beq k 7), (Nat.beq p 0 && Nat.beq k 8) with
  | true, _, _, _, _ => some (6 + 2 * k)
  | _, true, _, _, _ => some (31 + k)
  | _, _, true, _, _ => some (52 + k)
  | _, _, _, true, _ => some sa
  | _, _, _, _, true => some sb
  | _, _, _, _, _ => lk2 RVt p k
theorem bqf {a b : Nat} (h : a ≠ b) : Nat.beq a b = false := by
  cases h2 : Nat.beq a b with
  | false => rfl
  | true => exact absurd (bq h2) h
theorem RV_swap (sa sb : Nat) : st2 (st2 (RV sa sb) 0 7 (some sb)) 0 8 (some sa) = RV sb sa := by
  funext p k
  unfold st2
  by_cases hp : p = 0
  · subst hp
    by_cases h7 : k = 7
    · subst h7; rfl
    · by_cases h8 : k = 8
      · subst h8; rfl
      · rw [if_neg (fun e => h8 e.2), if_neg (fun e => h7 e.2)]
        have e7 : Nat.beq k 7 = false := bqf h7
        have e8 : Nat.beq k 8 = false := bqf h8
        unfold RV
        rw [e7, e8]
        rfl
  · rw [if_neg (fun e => hp e.1), if_neg (fun e => hp e.1)]
    have e0 : Nat.beq p 0 = false := bqf hp
    unfold RV
    rw [e0]
    cases p.beq 5 <;> cases p.beq 30 <;> cases p.beq 51 <;> rfl
theorem isO_wb : ∀ k, k < 9 → isO (6 + 2 * k) 1 := by unfold isO; decide +kernel
theorem isO_w {k : Nat} (h : k < 9) : isO (6 + 2 * k) 1 := isO_wb k h
theorem isA_r24b : ∀ i, i < 9 → isA (31 + i) 1 ∧ sln (31 + i) = 5 := by unfold isA sln; decide +kernel
theorem isA_r45b : ∀ i, i < 9 → isA (52 + i) 1 ∧ sln (52 + i) = 5 := by unfold isA sln; decide +kernel
theorem isA_r24 {i : Nat} (h : i < 9) : isA (31 + i) 1 := (isA_r24b i h).1
theorem isA_r45 {i : Nat} (h : i < 9) : isA (52 + i) 1 := (isA_r45b i h).1
theorem lt_r24 {i : Nat} {j : Int} (h : i < 9) (hj : j < 5) : j < sln (31 + i) := by rw [(isA_r24b i h).2]; exact hj
theorem lt_r45 {i : Nat} {j : Int} (h : i < 9) (hj : j < 5) : j < sln (52 + i) := by rw [(isA_r45b i h).2]; exact hj
theorem isC_rb : ∀ i, i < 9 → isC (31 + i) (52 + i) ∧ isC (52 + i) (31 + i) ∧ isC (31 + i) (31 + i) ∧ isC (52 + i) (52 + i) := by unfold isC; decide +kernel
theorem isC_a {i : Nat} (h : i < 9) : isC (31 + i) (52 + i) := (isC_rb i h).1
theorem isC_b {i : Nat} (h : i < 9) : isC (52 + i) (31 + i) := (isC_rb i h).2.1
theorem isC_c {i : Nat} (h : i < 9) : isC (31 + i) (31 + i) := (isC_rb i h).2.2.1
theorem isC_d {i : Nat} (h : i < 9) : isC (52 + i) (52 + i) := (isC_rb i h).2.2.2
def mall : List Prop → Prop
  | [] => True
  | c :: cs => c ∧ mall cs
theorem mall_in {Cs : List Prop} (h : mall Cs) : ∀ c ∈ Cs, c := by
  induction Cs with
  | nil => exact fun _ h => absurd h List.not_mem_nil
  | cons c cs ih => exact List.forall_mem_cons.mpr ⟨h.1, ih h.2⟩
theorem mconj_t {Cs : List Prop} {P : Prop} (h : mall Cs) : mconj Cs P = P := propext ⟨fun q => (mconj_of q).2, fun q => mconj_to (mall_in h) q⟩
theorem ex_blkT {M pc pc' : Nat} {L L' : mL} {st st' : List mV} {iv iv' : mIv} {rv rv' : mRv} {Q : Option mV → mIv → mRv → Prop} (o : Nat) (code : List (Nat × Instr × Nat)) {Cs : List Prop} (ho : (mth M).2.2.2.2.2.1 = o) (hc : lkb M code = true) (h : mblk o code (pc, L, st, iv, rv) = some (Cs, pc', L', st', iv', rv')) (hC : mall Cs) : Ex M pc L st iv rv Q = Ex M pc' L' st' iv' rv' Q := by
  rw [ex_blk o code Cs ho hc h, mconj_t hC]
theorem lc_eq (x y : Int) : lcv x y = 0 ↔ x = y := by unfold lcv; split <;> (try split) <;> omega
theorem lc_lt (x y : Int) : lcv x y < 0 ↔ x < y := by unfold lcv; split <;> (try split) <;> omega
theorem lc_ge (x y : Int) : 0 ≤ lcv x y ↔ y ≤ x := by unfold lcv; split <;> (try split) <;> omega
theorem lc_gt (x y : Int) : 0 < lcv x y ↔ y < x := by unfold lcv; split <;> (try split) <;> omega
theorem lc_le (x y : Int) : lcv x y ≤ 0 ↔ x ≤ y := by unfold lcv; split <;> (try split) <;> omega
/-- a branch: at c to t, else to f -/
theorem ex_brI {M pc t f : Nat} {L : mL} {st st' : List mV} {iv : mIv} {rv : mRv} {Q : Option mV → mIv → mRv → Prop} {i : Instr} {n : Nat} {P : Prop} (c : Prop) [Decidable c] (hc : lkb M [(pc, i, n)] = true) (h1 : ∀ o, mnx o i n pc L st iv rv = none) (h2 : mbr i n pc st = some ([(P, t), (¬ P, f)], st')) (hp : P ↔ c) : Ex M pc L st iv rv Q = if c then Ex M t L st' iv rv Q else Ex M f L st' iv rv Q := by
  rw [ex_bra hc h1 h2]
  apply propext
  by_cases h : c
  · rw [if_pos h]
    exact ⟨fun q => q.1 (hp.mpr h), fun q => ⟨fun _ => q, fun z => absurd (hp.mpr h) z, trivial⟩⟩
  · rw [if_neg h]
    exact ⟨fun q => q.2.1 (fun z => h (hp.mp z)), fun q => ⟨fun z => absurd (hp.mp z) h, fun _ => q, trivial⟩⟩
theorem ex_brN {M pc t f : Nat} {L : mL} {st st' : List mV} {iv : mIv} {rv : mRv} {Q : Option mV → mIv → mRv → Prop} {i : Instr} {n : Nat} {P : Prop} (c : Prop) [Decidable c] (hc : lkb M [(pc, i, n)] = true) (h1 : ∀ o, mnx o i n pc L st iv rv = none) (h2 : mbr i n pc st = some ([(P, t), (¬ P, f)], st')) (hp : P ↔ ¬ c) : Ex M pc L st iv rv Q = if c then Ex M f L st' iv rv Q else Ex M t L st' iv rv Q := by
  rw [ex_bra hc h1 h2]
  apply propext
  by_cases h : c
  · rw [if_pos h]
    exact ⟨fun q => q.2.1 (fun z => (hp.mp z) h), fun q => ⟨fun z => absurd h (hp.mp z), fun _ => q, trivial⟩⟩
  · rw [if_neg h]
    exact ⟨fun q => q.1 (hp.mpr h), fun q => ⟨fun _ => q, fun z => absurd (hp.mpr h) z, trivial⟩⟩
theorem ex_calT {M pc M' : Nat} {L : mL} {st as r : List mV} {iv : mIv} {rv : mRv} {Q : Option mV → mIv → mRv → Prop} {i : Instr} {n F Lc o nl : Nat} {Cs : List Prop} (hc : lkb M [(pc, i, n)] = true) (hF : (mth M).2.2.2.2.2.2.2.2.1 = F) (hL : (mth M).2.2.2.2.2.2.2.2.2 = Lc) (ho : (mth M).2.2.2.2.2.1 = o) (h1 : mnx o i n pc L st iv rv = none) (h2 : mbr i n pc st = none) (h3 : mcl F Lc o i st = some (Cs, M', as, r)) (h4 : (mth M').2.2.2.1 = nl) (hC : mall Cs) : Ex M pc L st iv rv Q = Ex M' 0 (mentry nl as) [] iv rv (fun v iv' rv' => Ex M (pc + 3) L (mpush v r) iv' rv' Q) := by
  rw [ex_cal hc hF hL ho h1 h2 h3 h4, mconj_t hC]
theorem ex_retT {M pc : Nat} {L : mL} {st : List mV} {iv : mIv} {rv : mRv} {Q : Option mV → mIv → mRv → Prop} {i : Instr} {n : Nat} {rt : Option FieldType} {Cs : List Prop} {v : Option mV} (hc : lkb M [(pc, i, n)] = true) (h1 : ∀ o, mnx o i n pc L st iv rv = none) (h2 : mbr i n pc st = none) (h3 : ∀ a b c, mcl a b c i st = none) (hr : (mth M).2.2.2.2.1 = rt) (h4 : mrt rt i st = some (Cs, v)) (hC : mall Cs) : Ex M pc L st iv rv Q = Q v iv rv := by
  rw [ex_ret hc h1 h2 h3 hr h4, mconj_t hC]
theorem split9 {P : Nat → Prop} {k : Nat} (hk : k < 9) (h0 : P 0) (h1 : P 1) (h2 : P 2) (h3 : P 3) (h4 : P 4) (h5 : P 5) (h6 : P 6) (h7 : P 7) (h8 : P 8) : P k := by
  rcases (show k = 0 ∨ k = 1 ∨ k = 2 ∨ k = 3 ∨ k = 4 ∨ k = 5 ∨ k = 6 ∨ k = 7 ∨ k = 8 by omega) with rfl | rfl | rfl | rfl | rfl | rfl | rfl | rfl | rfl <;> assumption
end
section
theorem b98_0 {sa sb : Nat} {iv : mIv} {Q : Option mV → mIv → mRv → Prop} {x0 x2 : Int} (h0 : x2 ≠ 0) : Ex 98 0 [some (.inr (.inl x0)), none, some (.inr (.inl x2)), none, none, none] [] iv (RV sa sb) Q = (if (Int64.ofInt x0 ^^^ Int64.ofInt x2).toInt < 0 then Ex 98 13 [some (.inr (.inl x0)), none, some (.inr (.inl x2)), none, some (.inr (.inl (w64 (x0.tdiv x2)))), none] [] iv (RV sa sb) Q else Ex 98 27 [some (.inr (.inl x0)), none, some (.inr (.inl x2)), none, some (.inr (.inl (w64 (x0.tdiv x2)))), none] [] iv (RV sa sb) Q) := by
  (refine Eq.trans (ex_blkT 5 [(0, .lload_n 0, 1), (1, .lload_n 2, 1), (2, .ldiv, 1), (3, .lstore 4, 2), (5, .lload_n 0, 1), (6, .lload_n 2, 1), (7, .lxor, 1), (8, .lconst 0, 1), (9, .lcmp, 1)] rfl (by decide +kernel) rfl (by exact (And.intro h0 trivial))) ?_; exact (ex_brN (M := 98) (pc := 10) (i := .ifCond .ge 17) (n := 3) _ (by decide +kernel) (fun _ => rfl) rfl ((lc_ge _ _).trans Int.not_lt.symm)))
theorem b98_13 {sa sb : Nat} {iv : mIv} {Q : Option mV → mIv → mRv → Prop} {x0 x2 x4 : Int}  : Ex 98 13 [some (.inr (.inl x0)), none, some (.inr (.inl x2)), none, some (.inr (.inl x4)), none] [] iv (RV sa sb) Q = (if w64 (x4 * x2) = x0 then Ex 98 27 [some (.inr (.inl x0)), none, some (.inr (.inl x2)), none, some (.inr (.inl x4)), none] [] iv (RV sa sb) Q else Ex 98 22 [some (.inr (.inl x0)), none, some (.inr (.inl x2)), none, some (.inr (.inl x4)), none] [] iv (RV sa sb) Q) := by
  (refine Eq.trans (ex_blkT 5 [(13, .lload 4, 2), (15, .lload_n 2, 1), (16, .lmul, 1), (17, .lload_n 0, 1), (18, .lcmp, 1)] rfl (by decide +kernel) rfl (by exact trivial)) ?_; exact (ex_brI (M := 98) (pc := 19) (i := .ifCond .eq 8) (n := 3) _ (by decide +kernel) (fun _ => rfl) rfl (lc_eq _ _)))
theorem b98_22 {sa sb : Nat} {iv : mIv} {Q : Option mV → mIv → mRv → Prop} {x0 x2 x4 : Int}  : Ex 98 22 [some (.inr (.inl x0)), none, some (.inr (.inl x2)), none, some (.inr (.inl x4)), none] [] iv (RV sa sb) Q = Q (some (.inr (.inl (w64 (x4 - 1))))) iv (RV sa sb) := by
  (refine Eq.trans (ex_blkT 5 [(22, .lload 4, 2), (24, .lconst 1, 1), (25, .lsub, 1)] rfl (by decide +kernel) rfl (by exact trivial)) ?_; exact (ex_retT (M := 98) (pc := 26) (i := .lreturn) (n := 1) (rt := some .long) (by decide +kernel) (fun _ => rfl) rfl (fun _ _ _ => rfl) rfl rfl (by exact trivial)))
theorem b98_27 {sa sb : Nat} {iv : mIv} {Q : Option mV → mIv → mRv → Prop} {x0 x2 x4 : Int}  : Ex 98 27 [some (.inr (.inl x0)), none, some (.inr (.inl x2)), none, some (.inr (.inl x4)), none] [] iv (RV sa sb) Q = Q (some (.inr (.inl x4))) iv (RV sa sb) := by
  (refine Eq.trans (ex_blkT 5 [(27, .lload 4, 2)] rfl (by decide +kernel) rfl (by exact trivial)) ?_; exact (ex_retT (M := 98) (pc := 29) (i := .lreturn) (n := 1) (rt := some .long) (by decide +kernel) (fun _ => rfl) rfl (fun _ _ _ => rfl) rfl rfl (by exact trivial)))
theorem b99_0 {sa sb : Nat} {iv : mIv} {Q : Option mV → mIv → mRv → Prop} {x0 : Int}  : Ex 99 0 [some (.inr (.inl x0)), none] [] iv (RV sa sb) Q = (if x0 < 0 then Ex 99 6 [some (.inr (.inl x0)), none] [] iv (RV sa sb) Q else Ex 99 11 [some (.inr (.inl x0)), none] [] iv (RV sa sb) Q) := by
  (refine Eq.trans (ex_blkT 5 [(0, .lload_n 0, 1), (1, .lconst 0, 1), (2, .lcmp, 1)] rfl (by decide +kernel) rfl (by exact trivial)) ?_; exact (ex_brN (M := 99) (pc := 3) (i := .ifCond .ge 8) (n := 3) _ (by decide +kernel) (fun _ => rfl) rfl ((lc_ge _ _).trans Int.not_lt.symm)))
theorem b99_6 {sa sb : Nat} {iv : mIv} {Q : Option mV → mIv → mRv → Prop} {x0 : Int}  : Ex 99 6 [some (.inr (.inl x0)), none] [] iv (RV sa sb) Q = Ex 99 12 [some (.inr (.inl x0)), none] [.inr (.inl (w64 (-x0)))] iv (RV sa sb) Q := by
  (refine Eq.trans (ex_blkT 5 [(6, .lload_n 0, 1), (7, .lneg, 1), (8, .goto 4, 3)] rfl (by decide +kernel) rfl (by exact trivial)) ?_; rfl)
theorem b99_11 {sa sb : Nat} {iv : mIv} {Q : Option mV → mIv → mRv → Prop} {x0 : Int}  : Ex 99 11 [some (.inr (.inl x0)), none] [] iv (RV sa sb) Q = Ex 99 12 [some (.inr (.inl x0)), none] [.inr (.inl x0)] iv (RV sa sb) Q := by
  (refine Eq.trans (ex_blkT 5 [(11, .lload_n 0, 1)] rfl (by decide +kernel) rfl (by exact trivial)) ?_; rfl)
theorem b99_12 {sa sb : Nat} {iv : mIv} {Q : Option mV → mIv → mRv → Prop} {x0 xs0 : Int}  : Ex 99 12 [some (.inr (.inl x0)), none] [.inr (.inl xs0)] iv (RV sa sb) Q = Q (some (.inr (.inl xs0))) iv (RV sa sb) := by
  exact (ex_retT (M := 99) (pc := 12) (i := .lreturn) (n := 1) (rt := some .long) (by decide +kernel) (fun _ => rfl) rfl (fun _ _ _ => rfl) rfl rfl (by exact trivial))
theorem b100_0 {sa sb : Nat} {iv : mIv} {Q : Option mV → mIv → mRv → Prop} {x0 x2 : Int}  : Ex 100 0 [some (.inr (.inl x0)), none, some (.inr (.inl x2)), none] [] iv (RV sa sb) Q = (if x0 < x2 then Ex 100 10 [some (.inr (.inl x0)), none, some (.inr (.inl x2)), none] [] iv (RV sa sb) Q else Ex 100 6 [some (.inr (.inl x0)), none, some (.inr (.inl x2)), none] [] iv (RV sa sb) Q) := by
  (refine Eq.trans (ex_blkT 5 [(0, .lload_n 0, 1), (1, .lload_n 2, 1), (2, .lcmp, 1)] rfl (by decide +kernel) rfl (by exact trivial)) ?_; exact (ex_brI (M := 100) (pc := 3) (i := .ifCond .lt 7) (n := 3) _ (by decide +kernel) (fun _ => rfl) rfl (lc_lt _ _)))
theorem b100_6 {sa sb : Nat} {iv : mIv} {Q : Option mV → mIv → mRv → Prop} {x0 x2 : Int}  : Ex 100 6 [some (.inr (.inl x0)), none, some (.inr (.inl x2)), none] [] iv (RV sa sb) Q = Ex 100 11 [some (.inr (.inl x0)), none, some (.inr (.inl x2)), none] [.inr (.inl x0)] iv (RV sa sb) Q := by
  (refine Eq.trans (ex_blkT 5 [(6, .lload_n 0, 1), (7, .goto 4, 3)] rfl (by decide +kernel) rfl (by exact trivial)) ?_; rfl)
theorem b100_10 {sa sb : Nat} {iv : mIv} {Q : Option mV → mIv → mRv → Prop} {x0 x2 : Int}  : Ex 100 10 [some (.inr (.inl x0)), none, some (.inr (.inl x2)), none] [] iv (RV sa sb) Q = Ex 100 11 [some (.inr (.inl x0)), none, some (.inr (.inl x2)), none] [.inr (.inl x2)] iv (RV sa sb) Q := by
  (refine Eq.trans (ex_blkT 5 [(10, .lload_n 2, 1)] rfl (by decide +kernel) rfl (by exact trivial)) ?_; rfl)
theorem b100_11 {sa sb : Nat} {iv : mIv} {Q : Option mV → mIv → mRv → Prop} {x0 x2 xs0 : Int}  : Ex 100 11 [some (.inr (.inl x0)), none, some (.inr (.inl x2)), none] [.inr (.inl xs0)] iv (RV sa sb) Q = Q (some (.inr (.inl xs0))) iv (RV sa sb) := by
  exact (ex_retT (M := 100) (pc := 11) (i := .lreturn) (n := 1) (rt := some .long) (by decide +kernel) (fun _ => rfl) rfl (fun _ _ _ => rfl) rfl rfl (by exact trivial))
theorem b101_0 {sa sb : Nat} {iv : mIv} {Q : Option mV → mIv → mRv → Prop} {x0 x1 : Int}  : Ex 101 0 [some (.inl x0), some (.inl x1)] [] iv (RV sa sb) Q = (if x1 < x0 then Ex 101 9 [some (.inl x0), some (.inl x1)] [] iv (RV sa sb) Q else Ex 101 5 [some (.inl x0), some (.inl x1)] [] iv (RV sa sb) Q) := by
  (refine Eq.trans (ex_blkT 5 [(0, .iload_n 0, 1), (1, .iload_n 1, 1)] rfl (by decide +kernel) rfl (by exact trivial)) ?_; exact (ex_brI (M := 101) (pc := 2) (i := .if_icmp .gt 7) (n := 3) _ (by decide +kernel) (fun _ => rfl) rfl Iff.rfl))
theorem b101_5 {sa sb : Nat} {iv : mIv} {Q : Option mV → mIv → mRv → Prop} {x0 x1 : Int}  : Ex 101 5 [some (.inl x0), some (.inl x1)] [] iv (RV sa sb) Q = Ex 101 10 [some (.inl x0), some (.inl x1)] [.inl x0] iv (RV sa sb) Q := by
  (refine Eq.trans (ex_blkT 5 [(5, .iload_n 0, 1), (6, .goto 4, 3)] rfl (by decide +kernel) rfl (by exact trivial)) ?_; rfl)
theorem b101_9 {sa sb : Nat} {iv : mIv} {Q : Option mV → mIv → mRv → Prop} {x0 x1 : Int}  : Ex 101 9 [some (.inl x0), some (.inl x1)] [] iv (RV sa sb) Q = Ex 101 10 [some (.inl x0), some (.inl x1)] [.inl x1] iv (RV sa sb) Q := by
  (refine Eq.trans (ex_blkT 5 [(9, .iload_n 1, 1)] rfl (by decide +kernel) rfl (by exact trivial)) ?_; rfl)
theorem b101_10 {sa sb : Nat} {iv : mIv} {Q : Option mV → mIv → mRv → Prop} {x0 x1 xs0 : Int}  : Ex 101 10 [some (.inl x0), some (.inl x1)] [.inl xs0] iv (RV sa sb) Q = Q (some (.inl xs0)) iv (RV sa sb) := by
  exact (ex_retT (M := 101) (pc := 10) (i := .ireturn) (n := 1) (rt := some .int) (by decide +kernel) (fun _ => rfl) rfl (fun _ _ _ => rfl) rfl rfl (by exact trivial))
theorem b102_0 {sa sb : Nat} {iv : mIv} {Q : Option mV → mIv → mRv → Prop} {x1 : Int} {q : Nat} (hq : q = 44 ∨ q = 65) : Ex 102 0 [some (.inr (.inr (some q))), some (.inr (.inl x1)), none, none, none] [] iv (RV sa sb) Q = Ex 102 6 [some (.inr (.inr (some q))), some (.inr (.inl x1)), none, some (.inl 0), some (.inl 45)] [] iv (RV sa sb) Q := by
  rcases hq with rfl | rfl
  all_goals (refine Eq.trans (ex_blkT 6 [(0, .iconst 0, 1), (1, .istore_n 3, 1), (2, .aload_n 0, 1), (3, .arraylength, 1), (4, .istore 4, 2)] rfl (by decide +kernel) rfl (by exact (And.intro (And.intro (by decide) (by decide)) trivial))) ?_; rfl)
theorem b102_6 {sa sb : Nat} {iv : mIv} {Q : Option mV → mIv → mRv → Prop} {x1 x3 x4 : Int} {q : Nat} (hq : q = 44 ∨ q = 65) : Ex 102 6 [some (.inr (.inr (some q))), some (.inr (.inl x1)), none, some (.inl x3), some (.inl x4)] [] iv (RV sa sb) Q = (if x3 < x4 then Ex 102 12 [some (.inr (.inr (some q))), some (.inr (.inl x1)), none, some (.inl x3), some (.inl x4)] [] iv (RV sa sb) Q else Ex 102 22 [some (.inr (.inr (some q))), some (.inr (.inl x1)), none, some (.inl x3), some (.inl x4)] [] iv (RV sa sb) Q) := by
  rcases hq with rfl | rfl
  all_goals (refine Eq.trans (ex_blkT 6 [(6, .iload_n 3, 1), (7, .iload 4, 2)] rfl (by decide +kernel) rfl (by exact trivial)) ?_; exact (ex_brN (M := 102) (pc := 9) (i := .if_icmp .ge 13) (n := 3) _ (by decide +kernel) (fun _ => rfl) rfl Int.not_lt.symm))
theorem b102_12 {sa sb : Nat} {iv : mIv} {Q : Option mV → mIv → mRv → Prop} {x1 x3 x4 : Int} {q : Nat} (hq : q = 44 ∨ q = 65) (h0 : 0 ≤ x3) (h1 : x3 < 45) : Ex 102 12 [some (.inr (.inr (some q))), some (.inr (.inl x1)), none, some (.inl x3), some (.inl x4)] [] iv (RV sa sb) Q = Ex 102 6 [some (.inr (.inr (some q))), some (.inr (.inl x1)), none, some (.inl (w32 (x3 + 1))), some (.inl x4)] [] (st2 iv q x3.toNat x1) (RV sa sb) Q := by
  rcases hq with rfl | rfl
  all_goals (refine Eq.trans (ex_blkT 6 [(12, .aload_n 0, 1), (13, .iload_n 3, 1), (14, .lload_n 1, 1), (15, .lastore, 1), (16, .iinc 3 1, 3), (19, .goto (-13), 3)] rfl (by decide +kernel) rfl (by exact (And.intro (And.intro rfl rfl) (And.intro h0 (And.intro h1 trivial))))) ?_; rfl)
theorem b102_22 {sa sb : Nat} {iv : mIv} {Q : Option mV → mIv → mRv → Prop} {x1 x3 x4 : Int} {q : Nat} (hq : q = 44 ∨ q = 65) : Ex 102 22 [some (.inr (.inr (some q))), some (.inr (.inl x1)), none, some (.inl x3), some (.inl x4)] [] iv (RV sa sb) Q = Q none iv (RV sa sb) := by
  rcases hq with rfl | rfl
  all_goals exact (ex_retT (M := 102) (pc := 22) (i := .return_) (n := 1) (rt := none) (by decide +kernel) (fun _ => rfl) rfl (fun _ _ _ => rfl) rfl rfl (by exact trivial))
theorem b103_0 {sa sb : Nat} {iv : mIv} {Q : Option mV → mIv → mRv → Prop} {x1 : Int} {f : Nat} (hf : f = 2 ∨ f = 3) : Ex 103 0 [some (.inr (.inr (some f))), some (.inl x1), none, none] [] iv (RV sa sb) Q = Ex 103 5 [some (.inr (.inr (some f))), some (.inl x1), some (.inl 0), some (.inl 5)] [] iv (RV sa sb) Q := by
  rcases hf with rfl | rfl
  all_goals (refine Eq.trans (ex_blkT 6 [(0, .iconst 0, 1), (1, .istore_n 2, 1), (2, .aload_n 0, 1), (3, .arraylength, 1), (4, .istore_n 3, 1)] rfl (by decide +kernel) rfl (by exact (And.intro (And.intro (by decide) (by decide)) trivial))) ?_; rfl)
theorem b103_5 {sa sb : Nat} {iv : mIv} {Q : Option mV → mIv → mRv → Prop} {x1 x2 x3 : Int} {f : Nat} (hf : f = 2 ∨ f = 3) : Ex 103 5 [some (.inr (.inr (some f))), some (.inl x1), some (.inl x2), some (.inl x3)] [] iv (RV sa sb) Q = (if x2 < x3 then Ex 103 10 [some (.inr (.inr (some f))), some (.inl x1), some (.inl x2), some (.inl x3)] [] iv (RV sa sb) Q else Ex 103 20 [some (.inr (.inr (some f))), some (.inl x1), some (.inl x2), some (.inl x3)] [] iv (RV sa sb) Q) := by
  rcases hf with rfl | rfl
  all_goals (refine Eq.trans (ex_blkT 6 [(5, .iload_n 2, 1), (6, .iload_n 3, 1)] rfl (by decide +kernel) rfl (by exact trivial)) ?_; exact (ex_brN (M := 103) (pc := 7) (i := .if_icmp .ge 13) (n := 3) _ (by decide +kernel) (fun _ => rfl) rfl Int.not_lt.symm))
theorem b103_10 {sa sb : Nat} {iv : mIv} {Q : Option mV → mIv → mRv → Prop} {x1 x2 x3 : Int} {f : Nat} (hf : f = 2 ∨ f = 3) (h0 : 0 ≤ x2) (h1 : x2 < 5) : Ex 103 10 [some (.inr (.inr (some f))), some (.inl x1), some (.inl x2), some (.inl x3)] [] iv (RV sa sb) Q = Ex 103 5 [some (.inr (.inr (some f))), some (.inl x1), some (.inl (w32 (x2 + 1))), some (.inl x3)] [] (st2 iv f x2.toNat x1) (RV sa sb) Q := by
  rcases hf with rfl | rfl
  all_goals (refine Eq.trans (ex_blkT 6 [(10, .aload_n 0, 1), (11, .iload_n 2, 1), (12, .iload_n 1, 1), (13, .iastore, 1), (14, .iinc 2 1, 3), (17, .goto (-12), 3)] rfl (by decide +kernel) rfl (by exact (And.intro (And.intro rfl rfl) (And.intro h0 (And.intro h1 trivial))))) ?_; rfl)
theorem b103_20 {sa sb : Nat} {iv : mIv} {Q : Option mV → mIv → mRv → Prop} {x1 x2 x3 : Int} {f : Nat} (hf : f = 2 ∨ f = 3) : Ex 103 20 [some (.inr (.inr (some f))), some (.inl x1), some (.inl x2), some (.inl x3)] [] iv (RV sa sb) Q = Q none iv (RV sa sb) := by
  rcases hf with rfl | rfl
  all_goals exact (ex_retT (M := 103) (pc := 20) (i := .return_) (n := 1) (rt := none) (by decide +kernel) (fun _ => rfl) rfl (fun _ _ _ => rfl) rfl rfl (by exact trivial))
end
section
theorem b0_0 {sa sb : Nat} {iv : mIv} {Q : Option mV → mIv → mRv → Prop} {x2 x4 : Int} {b : Nat} (hb : b = 24 ∨ b = 45) : Ex 0 0 [some (.inr (.inr (some b))), some (.inr (.inr (some 5))), some (.inl x2), some (.inr (.inr (some 1))), some (.inl x4), none] [] iv (RV sa sb) Q = Ex 101 0 [some (.inl x4), some (.inl 5)] [] (st2 iv b 0 1) (RV sa sb) (fun v iv2 rv2 => Ex 0 12 [some (.inr (.inr (some b))), some (.inr (.inr (some 5))), some (.inl x2), some (.inr (.inr (some 1))), some (.inl x4), none] (mpush v [.inr (.inr (some b))]) iv2 rv2 Q) := by
  rcases hb with rfl | rfl
  all_goals (refine Eq.trans (ex_blkT 0 [(0, .aload_n 0, 1), (1, .lconst 1, 1), (2, .putfield 9, 3), (5, .aload_n 0, 1), (6, .iload 4, 2), (8, .iconst 5, 1)] rfl (by decide +kernel) rfl (by exact (And.intro rfl trivial))) ?_; exact (Eq.trans (ex_calT (M := 0) (pc := 9) (i := .invokestatic 52) (n := 3) (F := 2) (Lc := 45) (o := 0) (nl := 2) (by decide +kernel) rfl rfl rfl rfl rfl rfl rfl (by exact trivial)) rfl))
theorem b0_12 {sa sb : Nat} {iv : mIv} {Q : Option mV → mIv → mRv → Prop} {x2 x4 xs0 : Int} {b : Nat} (hb : b = 24 ∨ b = 45) : Ex 0 12 [some (.inr (.inr (some b))), some (.inr (.inr (some 5))), some (.inl x2), some (.inr (.inr (some 1))), some (.inl x4), none] [.inl xs0, .inr (.inr (some b))] iv (RV sa sb) Q = Ex 0 18 [some (.inr (.inr (some b))), some (.inr (.inr (some 5))), some (.inl x2), some (.inr (.inr (some 1))), some (.inl x4), some (.inl 0)] [] (st2 iv b 3 xs0) (RV sa sb) Q := by
  rcases hb with rfl | rfl
  all_goals (refine Eq.trans (ex_blkT 0 [(12, .putfield 58, 3), (15, .iconst 0, 1), (16, .istore 5, 2)] rfl (by decide +kernel) rfl (by exact (And.intro rfl trivial))) ?_; rfl)
theorem b0_18 {sa sb : Nat} {iv : mIv} {Q : Option mV → mIv → mRv → Prop} {x2 x4 x5 : Int} {b : Nat} (hb : b = 24 ∨ b = 45) : Ex 0 18 [some (.inr (.inr (some b))), some (.inr (.inr (some 5))), some (.inl x2), some (.inr (.inr (some 1))), some (.inl x4), some (.inl x5)] [] iv (RV sa sb) Q = (if x5 < iv b 3 then Ex 0 27 [some (.inr (.inr (some b))), some (.inr (.inr (some 5))), some (.inl x2), some (.inr (.inr (some 1))), some (.inl x4), some (.inl x5)] [] iv (RV sa sb) Q else Ex 0 92 [some (.inr (.inr (some b))), some (.inr (.inr (some 5))), some (.inl x2), some (.inr (.inr (some 1))), some (.inl x4), some (.inl x5)] [] iv (RV sa sb) Q) := by
  rcases hb with rfl | rfl
  all_goals (refine Eq.trans (ex_blkT 0 [(18, .iload 5, 2), (20, .aload_n 0, 1), (21, .getfield 58, 3)] rfl (by decide +kernel) rfl (by exact (And.intro rfl trivial))) ?_; exact (ex_brN (M := 0) (pc := 24) (i := .if_icmp .ge 68) (n := 3) _ (by decide +kernel) (fun _ => rfl) rfl Int.not_lt.symm))
set_option maxHeartbeats 8000000 in
theorem b0_27 {sa sb : Nat} {iv : mIv} {Q : Option mV → mIv → mRv → Prop} {x2 x4 x5 : Int} {b : Nat} (hb : b = 24 ∨ b = 45) (h0 : 0 ≤ x5) (h1 : x5 < 5) (h2 : 0 ≤ w32 (9 + x5)) (h3 : w32 (9 + x5) < 14) : Ex 0 27 [some (.inr (.inr (some b))), some (.inr (.inr (some 5))), some (.inl x2), some (.inr (.inr (some 1))), some (.inl x4), some (.inl x5)] [] iv (RV sa sb) Q = Ex 0 18 [some (.inr (.inr (some b))), some (.inr (.inr (some 5))), some (.inl x2), some (.inr (.inr (some 1))), some (.inl x4), some (.inl (w32 (x5 + 1)))] [] (st2 (st2 (st2 (st2 (st2 iv (b + 16) x5.toNat (iv 1 x5.toNat)) (b + 4) x5.toNat (w32 (9 + x5))) (b + 17) (w32 (9 + x5)).toNat (w32 (4 + x5))) (b + 18) (w32 (9 + x5)).toNat 1) (b + 19) (w32 (9 + x5)).toNat 1) (RV sa sb) Q := by
  rcases hb with rfl | rfl
  all_goals (refine Eq.trans (ex_blkT 0 [(27, .aload_n 0, 1), (28, .getfield 37, 3), (31, .iload 5, 2), (33, .aload_n 3, 1), (34, .iload 5, 2), (36, .iaload, 1), (37, .iastore, 1), (38, .aload_n 0, 1), (39, .getfield 26, 3), (42, .iload 5, 2), (44, .bipush 9, 2), (46, .iload 5, 2), (48, .iadd, 1), (49, .iastore, 1), (50, .aload_n 0, 1), (51, .getfield 40, 3), (54, .bipush 9, 2), (56, .iload 5, 2), (58, .iadd, 1), (59, .iconst 4, 1), (60, .iload 5, 2), (62, .iadd, 1), (63, .iastore, 1), (64, .aload_n 0, 1), (65, .getfield 43, 3), (68, .bipush 9, 2), (70, .iload 5, 2), (72, .iadd, 1), (73, .iconst 1, 1), (74, .iastore, 1), (75, .aload_n 0, 1), (76, .getfield 46, 3), (79, .bipush 9, 2), (81, .iload 5, 2), (83, .iadd, 1), (84, .iconst 1, 1), (85, .iastore, 1), (86, .iinc 5 1, 3), (89, .goto (-71), 3)] rfl (by decide +kernel) rfl (by exact (And.intro rfl (And.intro rfl (And.intro (And.intro rfl rfl) (And.intro h0 (And.intro h1 (And.intro (And.intro rfl rfl) (And.intro h0 (And.intro h1 (And.intro rfl (And.intro rfl (And.intro (And.intro rfl rfl) (And.intro h0 (And.intro h1 (And.intro rfl (And.intro rfl (And.intro (And.intro rfl rfl) (And.intro h2 (And.intro h3 (And.intro rfl (And.intro rfl (And.intro (And.intro rfl rfl) (And.intro h2 (And.intro h3 (And.intro rfl (And.intro rfl (And.intro (And.intro rfl rfl) (And.intro h2 (And.intro h3 trivial)))))))))))))))))))))))))))))) ?_; rfl)
theorem b0_92 {sa sb : Nat} {iv : mIv} {Q : Option mV → mIv → mRv → Prop} {x2 x4 x5 : Int} {b : Nat} (hb : b = 24 ∨ b = 45) : Ex 0 92 [some (.inr (.inr (some b))), some (.inr (.inr (some 5))), some (.inl x2), some (.inr (.inr (some 1))), some (.inl x4), some (.inl x5)] [] iv (RV sa sb) Q = Ex 0 100 [some (.inr (.inr (some b))), some (.inr (.inr (some 5))), some (.inl x2), some (.inr (.inr (some 1))), some (.inl x4), some (.inl 0)] [] (st2 iv b 2 0) (RV sa sb) Q := by
  rcases hb with rfl | rfl
  all_goals (refine Eq.trans (ex_blkT 0 [(92, .aload_n 0, 1), (93, .iconst 0, 1), (94, .putfield 62, 3), (97, .iconst 0, 1), (98, .istore 5, 2)] rfl (by decide +kernel) rfl (by exact (And.intro rfl trivial))) ?_; rfl)
theorem b0_100 {sa sb : Nat} {iv : mIv} {Q : Option mV → mIv → mRv → Prop} {x2 x4 x5 : Int} {b : Nat} (hb : b = 24 ∨ b = 45) : Ex 0 100 [some (.inr (.inr (some b))), some (.inr (.inr (some 5))), some (.inl x2), some (.inr (.inr (some 1))), some (.inl x4), some (.inl x5)] [] iv (RV sa sb) Q = (if x5 < 9 then Ex 0 107 [some (.inr (.inr (some b))), some (.inr (.inr (some 5))), some (.inl x2), some (.inr (.inr (some 1))), some (.inl x4), some (.inl x5)] [] iv (RV sa sb) Q else Ex 0 140 [some (.inr (.inr (some b))), some (.inr (.inr (some 5))), some (.inl x2), some (.inr (.inr (some 1))), some (.inl x4), some (.inl x5)] [] iv (RV sa sb) Q) := by
  rcases hb with rfl | rfl
  all_goals (refine Eq.trans (ex_blkT 0 [(100, .iload 5, 2), (102, .bipush 9, 2)] rfl (by decide +kernel) rfl (by exact trivial)) ?_; exact (ex_brN (M := 0) (pc := 104) (i := .if_icmp .ge 36) (n := 3) _ (by decide +kernel) (fun _ => rfl) rfl Int.not_lt.symm))
theorem b0_107 {sa sb : Nat} {iv : mIv} {Q : Option mV → mIv → mRv → Prop} {x2 x4 x5 : Int} {b : Nat} (hb : b = 24 ∨ b = 45) : Ex 0 107 [some (.inr (.inr (some b))), some (.inr (.inr (some 5))), some (.inl x2), some (.inr (.inr (some 1))), some (.inl x4), some (.inl x5)] [] iv (RV sa sb) Q = (if x5 < 9 then Ex 0 114 [some (.inr (.inr (some b))), some (.inr (.inr (some 5))), some (.inl x2), some (.inr (.inr (some 1))), some (.inl x4), some (.inl x5)] [] iv (RV sa sb) Q else Ex 0 140 [some (.inr (.inr (some b))), some (.inr (.inr (some 5))), some (.inl x2), some (.inr (.inr (some 1))), some (.inl x4), some (.inl x5)] [] iv (RV sa sb) Q) := by
  rcases hb with rfl | rfl
  all_goals (refine Eq.trans (ex_blkT 0 [(107, .iload 5, 2), (109, .aload_n 1, 1), (110, .arraylength, 1)] rfl (by decide +kernel) rfl (by exact (And.intro (And.intro (by decide) (by decide)) trivial))) ?_; exact (ex_brN (M := 0) (pc := 111) (i := .if_icmp .ge 29) (n := 3) _ (by decide +kernel) (fun _ => rfl) rfl Int.not_lt.symm))
theorem b0_114 {sa sb : Nat} {iv : mIv} {Q : Option mV → mIv → mRv → Prop} {x2 x4 x5 : Int} {b : Nat} (hb : b = 24 ∨ b = 45) : Ex 0 114 [some (.inr (.inr (some b))), some (.inr (.inr (some 5))), some (.inl x2), some (.inr (.inr (some 1))), some (.inl x4), some (.inl x5)] [] iv (RV sa sb) Q = (if (Int32.ofInt ((Int32.ofInt x2 >>> (Int32.ofInt x5 &&& 31)).toInt) &&& Int32.ofInt 1).toInt = 1 then Ex 0 124 [some (.inr (.inr (some b))), some (.inr (.inr (some 5))), some (.inl x2), some (.inr (.inr (some 1))), some (.inl x4), some (.inl x5)] [] iv (RV sa sb) Q else Ex 0 134 [some (.inr (.inr (some b))), some (.inr (.inr (some 5))), some (.inl x2), some (.inr (.inr (some 1))), some (.inl x4), some (.inl x5)] [] iv (RV sa sb) Q) := by
  rcases hb with rfl | rfl
  all_goals (refine Eq.trans (ex_blkT 0 [(114, .iload_n 2, 1), (115, .iload 5, 2), (117, .ishr, 1), (118, .iconst 1, 1), (119, .iand, 1), (120, .iconst 1, 1)] rfl (by decide +kernel) rfl (by exact trivial)) ?_; exact (ex_brN (M := 0) (pc := 121) (i := .if_icmp .ne 13) (n := 3) _ (by decide +kernel) (fun _ => rfl) rfl Iff.rfl))
theorem b0_124 {sa sb : Nat} {iv : mIv} {Q : Option mV → mIv → mRv → Prop} {x2 x4 x5 : Int} {b : Nat} (hb : b = 24 ∨ b = 45) (h0 : 0 ≤ x5) (h1 : x5 < 9) : Ex 0 124 [some (.inr (.inr (some b))), some (.inr (.inr (some 5))), some (.inl x2), some (.inr (.inr (some 1))), some (.inl x4), some (.inl x5)] [] iv (RV sa sb) Q = Ex 1 0 [some (.inr (.inr (some b))), some (.inl x5), some (.inr (.inr (some (6 + 2 * x5.toNat)))), none, none, none] [] iv (RV sa sb) (fun v iv2 rv2 => Ex 0 134 [some (.inr (.inr (some b))), some (.inr (.inr (some 5))), some (.inl x2), some (.inr (.inr (some 1))), some (.inl x4), some (.inl x5)] (mpush v []) iv2 rv2 Q) := by
  rcases hb with rfl | rfl
  all_goals (refine Eq.trans (ex_blkT 0 [(124, .aload_n 0, 1), (125, .iload 5, 2), (127, .aload_n 1, 1), (128, .iload 5, 2), (130, .aaload, 1)] rfl (by decide +kernel) rfl (by exact (And.intro rfl (And.intro h0 (And.intro h1 (And.intro rfl trivial)))))) ?_; exact (Eq.trans (ex_calT (M := 0) (pc := 131) (i := .invokevirtual 65) (n := 3) (F := 2) (Lc := 45) (o := 0) (nl := 6) (by decide +kernel) rfl rfl rfl rfl rfl rfl rfl (by exact (And.intro rfl trivial))) rfl))
theorem b0_134 {sa sb : Nat} {iv : mIv} {Q : Option mV → mIv → mRv → Prop} {x2 x4 x5 : Int} {b : Nat} (hb : b = 24 ∨ b = 45) : Ex 0 134 [some (.inr (.inr (some b))), some (.inr (.inr (some 5))), some (.inl x2), some (.inr (.inr (some 1))), some (.inl x4), some (.inl x5)] [] iv (RV sa sb) Q = Ex 0 100 [some (.inr (.inr (some b))), some (.inr (.inr (some 5))), some (.inl x2), some (.inr (.inr (some 1))), some (.inl x4), some (.inl (w32 (x5 + 1)))] [] iv (RV sa sb) Q := by
  rcases hb with rfl | rfl
  all_goals (refine Eq.trans (ex_blkT 0 [(134, .iinc 5 1, 3), (137, .goto (-37), 3)] rfl (by decide +kernel) rfl (by exact trivial)) ?_; rfl)
theorem b0_140 {sa sb : Nat} {iv : mIv} {Q : Option mV → mIv → mRv → Prop} {x2 x4 x5 : Int} {b : Nat} (hb : b = 24 ∨ b = 45) : Ex 0 140 [some (.inr (.inr (some b))), some (.inr (.inr (some 5))), some (.inl x2), some (.inr (.inr (some 1))), some (.inl x4), some (.inl x5)] [] iv (RV sa sb) Q = Q none iv (RV sa sb) := by
  rcases hb with rfl | rfl
  all_goals exact (ex_retT (M := 0) (pc := 140) (i := .return_) (n := 1) (rt := none) (by decide +kernel) (fun _ => rfl) rfl (fun _ _ _ => rfl) rfl rfl (by exact trivial))
set_option maxHeartbeats 8000000 in
theorem b1_0 {sa sb : Nat} {iv : mIv} {Q : Option mV → mIv → mRv → Prop} {x1 : Int} {b k : Nat} (hb : b = 24 ∨ b = 45) (hk : k < 9) (h0 : 0 ≤ x1) (h1 : x1 < 14) : Ex 1 0 [some (.inr (.inr (some b))), some (.inl x1), some (.inr (.inr (some (6 + 2 * k)))), none, none, none] [] iv (RV sa sb) Q = Ex 19 0 [some (.inr (.inr (some (6 + 2 * k))))] [] (st2 iv (b + 17) x1.toNat (iv (6 + 2 * k) 3)) (RV sa sb) (fun v iv2 rv2 => Ex 1 19 [some (.inr (.inr (some b))), some (.inl x1), some (.inr (.inr (some (6 + 2 * k)))), none, none, none] (mpush v [.inl x1, .inr (.inr (some (b + 18)))]) iv2 rv2 Q) := by
  rcases hb with rfl | rfl
  all_goals (refine Eq.trans (ex_blkT 0 [(0, .aload_n 0, 1), (1, .getfield 40, 3), (4, .iload_n 1, 1), (5, .aload_n 2, 1), (6, .getfield 69, 3), (9, .iastore, 1), (10, .aload_n 0, 1), (11, .getfield 43, 3), (14, .iload_n 1, 1), (15, .aload_n 2, 1)] rfl (by decide +kernel) rfl (by exact (And.intro rfl (And.intro rfl (And.intro (by first | exact isO_w (by omega) | exact rfl) (And.intro (And.intro rfl rfl) (And.intro h0 (And.intro h1 (And.intro rfl (And.intro rfl trivial)))))))))) ?_; exact (Eq.trans (ex_calT (M := 1) (pc := 16) (i := .invokevirtual 73) (n := 3) (F := 1) (Lc := 20) (o := 0) (nl := 1) (by decide +kernel) rfl rfl rfl rfl rfl rfl rfl (by exact (And.intro (by first | exact isO_w (by omega) | exact rfl) trivial))) rfl))
theorem b1_19 {sa sb : Nat} {iv : mIv} {Q : Option mV → mIv → mRv → Prop} {x1 xs0 xs1 : Int} {b k : Nat} (hb : b = 24 ∨ b = 45) (hk : k < 9) (h0 : 0 ≤ xs1) (h1 : xs1 < 14) : Ex 1 19 [some (.inr (.inr (some b))), some (.inl x1), some (.inr (.inr (some (6 + 2 * k)))), none, none, none] [.inl xs0, .inl xs1, .inr (.inr (some (b + 18)))] iv (RV sa sb) Q = Ex 20 0 [some (.inr (.inr (some (6 + 2 * k))))] [] (st2 iv (b + 18) xs1.toNat xs0) (RV sa sb) (fun v iv2 rv2 => Ex 1 29 [some (.inr (.inr (some b))), some (.inl x1), some (.inr (.inr (some (6 + 2 * k)))), none, none, none] (mpush v [.inl x1, .inr (.inr (some (b + 19)))]) iv2 rv2 Q) := by
  rcases hb with rfl | rfl
  all_goals (refine Eq.trans (ex_blkT 0 [(19, .iastore, 1), (20, .aload_n 0, 1), (21, .getfield 46, 3), (24, .iload_n 1, 1), (25, .aload_n 2, 1)] rfl (by decide +kernel) rfl (by exact (And.intro (And.intro rfl rfl) (And.intro h0 (And.intro h1 (And.intro rfl (And.intro rfl trivial))))))) ?_; exact (Eq.trans (ex_calT (M := 1) (pc := 26) (i := .invokevirtual 77) (n := 3) (F := 1) (Lc := 20) (o := 0) (nl := 1) (by decide +kernel) rfl rfl rfl rfl rfl rfl rfl (by exact (And.intro (by first | exact isO_w (by omega) | exact rfl) trivial))) rfl))
theorem b1_29 {sa sb : Nat} {iv : mIv} {Q : Option mV → mIv → mRv → Prop} {x1 xs0 xs1 : Int} {b k : Nat} (hb : b = 24 ∨ b = 45) (hk : k < 9) (h0 : 0 ≤ xs1) (h1 : xs1 < 14) : Ex 1 29 [some (.inr (.inr (some b))), some (.inl x1), some (.inr (.inr (some (6 + 2 * k)))), none, none, none] [.inl xs0, .inl xs1, .inr (.inr (some (b + 19)))] iv (RV sa sb) Q = Ex 1 40 [some (.inr (.inr (some b))), some (.inl x1), some (.inr (.inr (some (6 + 2 * k)))), some (.inr (.inl (w32 (-((st2 iv (b + 19) xs1.toNat xs0) (6 + 2 * k) 5))))), none, some (.inl 0)] [] (st2 iv (b + 19) xs1.toNat xs0) (RV sa sb) Q := by
  rcases hb with rfl | rfl
  all_goals (refine Eq.trans (ex_blkT 0 [(29, .iastore, 1), (30, .aload_n 2, 1), (31, .getfield 80, 3), (34, .ineg, 1), (35, .i2l, 1), (36, .lstore_n 3, 1), (37, .iconst 0, 1), (38, .istore 5, 2)] rfl (by decide +kernel) rfl (by exact (And.intro (And.intro rfl rfl) (And.intro h0 (And.intro h1 (And.intro (by first | exact isO_w (by omega) | exact rfl) trivial)))))) ?_; rfl)
theorem b1_40 {sa sb : Nat} {iv : mIv} {Q : Option mV → mIv → mRv → Prop} {x1 x3 x5 : Int} {b k : Nat} (hb : b = 24 ∨ b = 45) (hk : k < 9) : Ex 1 40 [some (.inr (.inr (some b))), some (.inl x1), some (.inr (.inr (some (6 + 2 * k)))), some (.inr (.inl x3)), none, some (.inl x5)] [] iv (RV sa sb) Q = (if x5 < iv b 3 then Ex 1 49 [some (.inr (.inr (some b))), some (.inl x1), some (.inr (.inr (some (6 + 2 * k)))), some (.inr (.inl x3)), none, some (.inl x5)] [] iv (RV sa sb) Q else Ex 1 95 [some (.inr (.inr (some b))), some (.inl x1), some (.inr (.inr (some (6 + 2 * k)))), some (.inr (.inl x3)), none, some (.inl x5)] [] iv (RV sa sb) Q) := by
  rcases hb with rfl | rfl
  all_goals (refine Eq.trans (ex_blkT 0 [(40, .iload 5, 2), (42, .aload_n 0, 1), (43, .getfield 58, 3)] rfl (by decide +kernel) rfl (by exact (And.intro rfl trivial))) ?_; exact (ex_brN (M := 1) (pc := 46) (i := .if_icmp .ge 49) (n := 3) _ (by decide +kernel) (fun _ => rfl) rfl Int.not_lt.symm))
set_option maxHeartbeats 8000000 in
theorem b1_49 {sa sb : Nat} {iv : mIv} {Q : Option mV → mIv → mRv → Prop} {x1 x3 x5 : Int} {b k : Nat} (hb : b = 24 ∨ b = 45) (hk : k < 9) (h0 : 0 ≤ iv b 2) (h1 : iv b 2 < 9) (h2 : 0 ≤ x5) (h3 : x5 < 5) : Ex 1 49 [some (.inr (.inr (some b))), some (.inl x1), some (.inr (.inr (some (6 + 2 * k)))), some (.inr (.inl x3)), none, some (.inl x5)] [] iv (RV sa sb) Q = Ex 1 40 [some (.inr (.inr (some b))), some (.inl x1), some (.inr (.inr (some (6 + 2 * k)))), some (.inr (.inl (w64 (x3 + (w64 (((st2 iv (b + 7 + (iv b 2).toNat) x5.toNat (iv (7 + 2 * k) x5.toNat)) (7 + 2 * k) x5.toNat) * ((st2 iv (b + 7 + (iv b 2).toNat) x5.toNat (iv (7 + 2 * k) x5.toNat)) (b + 16) x5.toNat))))))), none, some (.inl (w32 (x5 + 1)))] [] (st2 iv (b + 7 + (iv b 2).toNat) x5.toNat (iv (7 + 2 * k) x5.toNat)) (RV sa sb) Q := by
  rcases hb with rfl | rfl
  all_goals (rcases (show k = 0 ∨ k = 1 ∨ k = 2 ∨ k = 3 ∨ k = 4 ∨ k = 5 ∨ k = 6 ∨ k = 7 ∨ k = 8 by omega) with rfl | rfl | rfl | rfl | rfl | rfl | rfl | rfl | rfl)
  all_goals (refine Eq.trans (ex_blkT 0 [(49, .aload_n 0, 1), (50, .getfield 34, 3), (53, .aload_n 0, 1), (54, .getfield 62, 3), (57, .aaload, 1), (58, .iload 5, 2), (60, .aload_n 2, 1), (61, .getfield 83, 3), (64, .iload 5, 2), (66, .iaload, 1), (67, .i2l, 1), (68, .lastore, 1), (69, .lload_n 3, 1), (70, .aload_n 2, 1), (71, .getfield 83, 3), (74, .iload 5, 2), (76, .iaload, 1), (77, .i2l, 1), (78, .aload_n 0, 1), (79, .getfield 37, 3), (82, .iload 5, 2), (84, .iaload, 1), (85, .i2l, 1), (86, .lmul, 1), (87, .ladd, 1), (88, .lstore_n 3, 1), (89, .iinc 5 1, 3), (92, .goto (-52), 3)] rfl (by decide +kernel) rfl (by exact (And.intro rfl (And.intro rfl (And.intro rfl (And.intro rfl (And.intro h0 (And.intro h1 (And.intro rfl (And.intro (by first | exact isO_w (by omega) | exact rfl) (And.intro rfl (And.intro (And.intro rfl rfl) (And.intro h2 (And.intro h3 (And.intro (by first | exact isA_r24 (by omega) | exact isA_r45 (by omega)) (And.intro h2 (And.intro (by first | exact lt_r24 (by omega) h3 | exact lt_r45 (by omega) h3) (And.intro (by first | exact isO_w (by omega) | exact rfl) (And.intro rfl (And.intro (And.intro rfl rfl) (And.intro h2 (And.intro h3 (And.intro rfl (And.intro rfl (And.intro (And.intro rfl rfl) (And.intro h2 (And.intro h3 trivial))))))))))))))))))))))))))) ?_; rfl)
set_option maxHeartbeats 8000000 in
theorem b1_95 {sa sb : Nat} {iv : mIv} {Q : Option mV → mIv → mRv → Prop} {x1 x3 x5 : Int} {b k : Nat} (hb : b = 24 ∨ b = 45) (hk : k < 9) (h0 : 0 ≤ iv b 2) (h1 : iv b 2 < 9) : Ex 1 95 [some (.inr (.inr (some b))), some (.inl x1), some (.inr (.inr (some (6 + 2 * k)))), some (.inr (.inl x3)), none, some (.inl x5)] [] iv (RV sa sb) Q = (if x3 < 0 then Ex 1 119 [some (.inr (.inr (some b))), some (.inl x1), some (.inr (.inr (some (6 + 2 * k)))), some (.inr (.inl x3)), none, some (.inl x5)] [.inl ((st2 iv (b + 5) (iv b 2).toNat x3) b 2), .inr (.inr (some (b + 3)))] (st2 iv (b + 5) (iv b 2).toNat x3) (RV sa sb) Q else Ex 1 123 [some (.inr (.inr (some b))), some (.inl x1), some (.inr (.inr (some (6 + 2 * k)))), some (.inr (.inl x3)), none, some (.inl x5)] [.inl ((st2 iv (b + 5) (iv b 2).toNat x3) b 2), .inr (.inr (some (b + 3)))] (st2 iv (b + 5) (iv b 2).toNat x3) (RV sa sb) Q) := by
  rcases hb with rfl | rfl
  all_goals (refine Eq.trans (ex_blkT 0 [(95, .aload_n 0, 1), (96, .getfield 29, 3), (99, .aload_n 0, 1), (100, .getfield 62, 3), (103, .lload_n 3, 1), (104, .lastore, 1), (105, .aload_n 0, 1), (106, .getfield 23, 3), (109, .aload_n 0, 1), (110, .getfield 62, 3), (113, .lload_n 3, 1), (114, .lconst 0, 1), (115, .lcmp, 1)] rfl (by decide +kernel) rfl (by exact (And.intro rfl (And.intro rfl (And.intro rfl (And.intro (And.intro rfl rfl) (And.intro h0 (And.intro h1 (And.intro rfl (And.intro rfl (And.intro rfl trivial))))))))))) ?_; exact (ex_brN (M := 1) (pc := 116) (i := .ifCond .ge 7) (n := 3) _ (by decide +kernel) (fun _ => rfl) rfl ((lc_ge _ _).trans Int.not_lt.symm)))
theorem b1_119 {sa sb : Nat} {iv : mIv} {Q : Option mV → mIv → mRv → Prop} {x1 x3 x5 xs0 : Int} {b k : Nat} (hb : b = 24 ∨ b = 45) (hk : k < 9) : Ex 1 119 [some (.inr (.inr (some b))), some (.inl x1), some (.inr (.inr (some (6 + 2 * k)))), some (.inr (.inl x3)), none, some (.inl x5)] [.inl xs0, .inr (.inr (some (b + 3)))] iv (RV sa sb) Q = Ex 1 124 [some (.inr (.inr (some b))), some (.inl x1), some (.inr (.inr (some (6 + 2 * k)))), some (.inr (.inl x3)), none, some (.inl x5)] [.inl (-1), .inl xs0, .inr (.inr (some (b + 3)))] iv (RV sa sb) Q := by
  rcases hb with rfl | rfl
  all_goals (refine Eq.trans (ex_blkT 0 [(119, .iconst (-1), 1), (120, .goto 4, 3)] rfl (by decide +kernel) rfl (by exact trivial)) ?_; rfl)
theorem b1_123 {sa sb : Nat} {iv : mIv} {Q : Option mV → mIv → mRv → Prop} {x1 x3 x5 xs0 : Int} {b k : Nat} (hb : b = 24 ∨ b = 45) (hk : k < 9) : Ex 1 123 [some (.inr (.inr (some b))), some (.inl x1), some (.inr (.inr (some (6 + 2 * k)))), some (.inr (.inl x3)), none, some (.inl x5)] [.inl xs0, .inr (.inr (some (b + 3)))] iv (RV sa sb) Q = Ex 1 124 [some (.inr (.inr (some b))), some (.inl x1), some (.inr (.inr (some (6 + 2 * k)))), some (.inr (.inl x3)), none, some (.inl x5)] [.inl 1, .inl xs0, .inr (.inr (some (b + 3)))] iv (RV sa sb) Q := by
  rcases hb with rfl | rfl
  all_goals (refine Eq.trans (ex_blkT 0 [(123, .iconst 1, 1)] rfl (by decide +kernel) rfl (by exact trivial)) ?_; rfl)
set_option maxHeartbeats 8000000 in
theorem b1_124 {sa sb : Nat} {iv : mIv} {Q : Option mV → mIv → mRv → Prop} {x1 x3 x5 xs0 xs1 : Int} {b k : Nat} (hb : b = 24 ∨ b = 45) (hk : k < 9) (h0 : 0 ≤ xs1) (h1 : xs1 < 9) (h2 : 0 ≤ (st2 iv (b + 3) xs1.toNat xs0) b 2) (h3 : (st2 iv (b + 3) xs1.toNat xs0) b 2 < 9) : Ex 1 124 [some (.inr (.inr (some b))), some (.inl x1), some (.inr (.inr (some (6 + 2 * k)))), some (.inr (.inl x3)), none, some (.inl x5)] [.inl xs0, .inl xs1, .inr (.inr (some (b + 3)))] iv (RV sa sb) Q = Q none (st2 (st2 (st2 iv (b + 3) xs1.toNat xs0) (b + 2) ((st2 iv (b + 3) xs1.toNat xs0) b 2).toNat x1) b 2 (w32 (((st2 (st2 iv (b + 3) xs1.toNat xs0) (b + 2) ((st2 iv (b + 3) xs1.toNat xs0) b 2).toNat x1) b 2) + 1))) (RV sa sb) := by
  rcases hb with rfl | rfl
  all_goals (refine Eq.trans (ex_blkT 0 [(124, .iastore, 1), (125, .aload_n 0, 1), (126, .getfield 19, 3), (129, .aload_n 0, 1), (130, .getfield 62, 3), (133, .iload_n 1, 1), (134, .iastore, 1), (135, .aload_n 0, 1), (136, .dup, 1), (137, .getfield 62, 3), (140, .iconst 1, 1), (141, .iadd, 1), (142, .putfield 62, 3)] rfl (by decide +kernel) rfl (by exact (And.intro (And.intro rfl rfl) (And.intro h0 (And.intro h1 (And.intro rfl (And.intro rfl (And.intro rfl (And.intro (And.intro rfl rfl) (And.intro h2 (And.intro h3 (And.intro rfl (And.intro rfl trivial))))))))))))) ?_; exact (ex_retT (M := 1) (pc := 145) (i := .return_) (n := 1) (rt := none) (by decide +kernel) (fun _ => rfl) rfl (fun _ _ _ => rfl) rfl rfl (by exact trivial)))
set_option maxHeartbeats 8000000 in
theorem b2_0 {sa sb : Nat} {iv : mIv} {Q : Option mV → mIv → mRv → Prop} {b d : Nat} (hb : b = 24 ∨ b = 45) (hd : d = 24 ∨ d = 45) : Ex 2 0 [some (.inr (.inr (some b))), some (.inr (.inr (some d))), none] [] iv (RV sa sb) Q = Ex 2 144 [some (.inr (.inr (some b))), some (.inr (.inr (some d))), some (.inl 0)] [] (cpyv (cpyv (cpyv (cpyv (cpyv (cpyv (cpyv (cpyv (st2 (st2 (st2 iv b 0 (iv d 0)) b 2 ((st2 iv b 0 (iv d 0)) d 2)) b 3 ((st2 (st2 iv b 0 (iv d 0)) b 2 ((st2 iv b 0 (iv d 0)) d 2)) d 3)) (d + 2) (b + 2) 0 0 9) (d + 3) (b + 3) 0 0 9) (d + 4) (b + 4) 0 0 5) (d + 5) (b + 5) 0 0 9) (d + 16) (b + 16) 0 0 5) (d + 17) (b + 17) 0 0 14) (d + 18) (b + 18) 0 0 14) (d + 19) (b + 19) 0 0 14) (RV sa sb) Q := by
  rcases hb with rfl | rfl
  all_goals (rcases hd with rfl | rfl)
  all_goals (refine Eq.trans (ex_blkT 0 [(0, .aload_n 0, 1), (1, .aload_n 1, 1), (2, .getfield 9, 3), (5, .putfield 9, 3), (8, .aload_n 0, 1), (9, .aload_n 1, 1), (10, .getfield 62, 3), (13, .putfield 62, 3), (16, .aload_n 0, 1), (17, .aload_n 1, 1), (18, .getfield 58, 3), (21, .putfield 58, 3), (24, .aload_n 1, 1), (25, .getfield 19, 3), (28, .iconst 0, 1), (29, .aload_n 0, 1), (30, .getfield 19, 3), (33, .iconst 0, 1), (34, .bipush 9, 2), (36, .invokestatic 86, 3), (39, .aload_n 1, 1), (40, .getfield 23, 3), (43, .iconst 0, 1), (44, .aload_n 0, 1), (45, .getfield 23, 3), (48, .iconst 0, 1), (49, .bipush 9, 2), (51, .invokestatic 86, 3), (54, .aload_n 1, 1), (55, .getfield 26, 3), (58, .iconst 0, 1), (59, .aload_n 0, 1), (60, .getfield 26, 3), (63, .iconst 0, 1), (64, .iconst 5, 1), (65, .invokestatic 86, 3), (68, .aload_n 1, 1), (69, .getfield 29, 3), (72, .iconst 0, 1), (73, .aload_n 0, 1), (74, .getfield 29, 3), (77, .iconst 0, 1), (78, .bipush 9, 2), (80, .invokestatic 86, 3), (83, .aload_n 1, 1), (84, .getfield 37, 3), (87, .iconst 0, 1), (88, .aload_n 0, 1), (89, .getfield 37, 3), (92, .iconst 0, 1), (93, .iconst 5, 1), (94, .invokestatic 86, 3), (97, .aload_n 1, 1), (98, .getfield 40, 3), (101, .iconst 0, 1), (102, .aload_n 0, 1), (103, .getfield 40, 3), (106, .iconst 0, 1), (107, .bipush 14, 2), (109, .invokestatic 86, 3), (112, .aload_n 1, 1), (113, .getfield 43, 3), (116, .iconst 0, 1), (117, .aload_n 0, 1), (118, .getfield 43, 3), (121, .iconst 0, 1), (122, .bipush 14, 2), (124, .invokestatic 86, 3), (127, .aload_n 1, 1), (128, .getfield 46, 3), (131, .iconst 0, 1), (132, .aload_n 0, 1), (133, .getfield 46, 3), (136, .iconst 0, 1), (137, .bipush 14, 2), (139, .invokestatic 86, 3), (142, .iconst 0, 1), (143, .istore_n 2, 1)] rfl (by decide +kernel) rfl (by exact (And.intro rfl (And.intro rfl (And.intro rfl (And.intro rfl (And.intro rfl (And.intro rfl (And.intro rfl (And.intro rfl (And.intro rfl (And.intro rfl (And.intro (And.intro (Nat.le_of_ble_eq_true rfl) (And.intro (Nat.le_of_ble_eq_true rfl) (And.intro rfl (And.intro rfl (And.intro rfl (Nat.le_of_ble_eq_true rfl)))))) (And.intro (by decide) (And.intro (by decide) (And.intro (by decide) (And.intro (Int.le_refl _) (And.intro (Int.le_refl _) (And.intro rfl (And.intro rfl (And.intro rfl (And.intro rfl (And.intro (And.intro (Nat.le_of_ble_eq_true rfl) (And.intro (Nat.le_of_ble_eq_true rfl) (And.intro rfl (And.intro rfl (And.intro rfl (Nat.le_of_ble_eq_true rfl)))))) (And.intro (by decide) (And.intro (by decide) (And.intro (by decide) (And.intro (Int.le_refl _) (And.intro (Int.le_refl _) (And.intro rfl (And.intro rfl (And.intro rfl (And.intro rfl (And.intro (And.intro (Nat.le_of_ble_eq_true rfl) (And.intro (Nat.le_of_ble_eq_true rfl) (And.intro rfl (And.intro rfl (And.intro rfl (Nat.le_of_ble_eq_true rfl)))))) (And.intro (by decide) (And.intro (by decide) (And.intro (by decide) (And.intro (Int.le_refl _) (And.intro (Int.le_refl _) (And.intro rfl (And.intro rfl (And.intro rfl (And.intro rfl (And.intro (And.intro (Nat.le_of_ble_eq_true rfl) (And.intro (Nat.le_of_ble_eq_true rfl) (And.intro rfl (And.intro rfl (And.intro rfl (Nat.le_of_ble_eq_true rfl)))))) (And.intro (by decide) (And.intro (by decide) (And.intro (by decide) (And.intro (Int.le_refl _) (And.intro (Int.le_refl _) (And.intro rfl (And.intro rfl (And.intro rfl (And.intro rfl (And.intro (And.intro (Nat.le_of_ble_eq_true rfl) (And.intro (Nat.le_of_ble_eq_true rfl) (And.intro rfl (And.intro rfl (And.intro rfl (Nat.le_of_ble_eq_true rfl)))))) (And.intro (by decide) (And.intro (by decide) (And.intro (by decide) (And.intro (Int.le_refl _) (And.intro (Int.le_refl _) (And.intro rfl (And.intro rfl (And.intro rfl (And.intro rfl (And.intro (And.intro (Nat.le_of_ble_eq_true rfl) (And.intro (Nat.le_of_ble_eq_true rfl) (And.intro rfl (And.intro rfl (And.intro rfl (Nat.le_of_ble_eq_true rfl)))))) (And.intro (by decide) (And.intro (by decide) (And.intro (by decide) (And.intro (Int.le_refl _) (And.intro (Int.le_refl _) (And.intro rfl (And.intro rfl (And.intro rfl (And.intro rfl (And.intro (And.intro (Nat.le_of_ble_eq_true rfl) (And.intro (Nat.le_of_ble_eq_true rfl) (And.intro rfl (And.intro rfl (And.intro rfl (Nat.le_of_ble_eq_true rfl)))))) (And.intro (by decide) (And.intro (by decide) (And.intro (by decide) (And.intro (Int.le_refl _) (And.intro (Int.le_refl _) (And.intro rfl (And.intro rfl (And.intro rfl (And.intro rfl (And.intro (And.intro (Nat.le_of_ble_eq_true rfl) (And.intro (Nat.le_of_ble_eq_true rfl) (And.intro rfl (And.intro rfl (And.intro rfl (Nat.le_of_ble_eq_true rfl)))))) (And.intro (by decide) (And.intro (by decide) (And.intro (by decide) (And.intro (Int.le_refl _) (And.intro (Int.le_refl _) trivial)))))))))))))))))))))))))))))))))))))))))))))))))))))))))))))))))))))))))))))))))))))))) ?_; rfl)
theorem b2_144 {sa sb : Nat} {iv : mIv} {Q : Option mV → mIv → mRv → Prop} {x2 : Int} {b d : Nat} (hb : b = 24 ∨ b = 45) (hd : d = 24 ∨ d = 45) : Ex 2 144 [some (.inr (.inr (some b))), some (.inr (.inr (some d))), some (.inl x2)] [] iv (RV sa sb) Q = (if x2 < iv b 2 then Ex 2 152 [some (.inr (.inr (some b))), some (.inr (.inr (some d))), some (.inl x2)] [] iv (RV sa sb) Q else Ex 2 176 [some (.inr (.inr (some b))), some (.inr (.inr (some d))), some (.inl x2)] [] iv (RV sa sb) Q) := by
  rcases hb with rfl | rfl
  all_goals (rcases hd with rfl | rfl)
  all_goals (refine Eq.trans (ex_blkT 0 [(144, .iload_n 2, 1), (145, .aload_n 0, 1), (146, .getfield 62, 3)] rfl (by decide +kernel) rfl (by exact (And.intro rfl trivial))) ?_; exact (ex_brN (M := 2) (pc := 149) (i := .if_icmp .ge 27) (n := 3) _ (by decide +kernel) (fun _ => rfl) rfl Int.not_lt.symm))
set_option maxHeartbeats 8000000 in
theorem b2_152 {sa sb : Nat} {iv : mIv} {Q : Option mV → mIv → mRv → Prop} {x2 : Int} {b d : Nat} (hb : b = 24 ∨ b = 45) (hd : d = 24 ∨ d = 45) (h0 : 0 ≤ x2) (h1 : x2 < 9) : Ex 2 152 [some (.inr (.inr (some b))), some (.inr (.inr (some d))), some (.inl x2)] [] iv (RV sa sb) Q = Ex 2 144 [some (.inr (.inr (some b))), some (.inr (.inr (some d))), some (.inl (w32 (x2 + 1)))] [] (cpyv iv (d + 7 + x2.toNat) (b + 7 + x2.toNat) 0 0 5) (RV sa sb) Q := by
  rcases hb with rfl | rfl
  all_goals (rcases hd with rfl | rfl)
  all_goals (refine Eq.trans (ex_blkT 0 [(152, .aload_n 1, 1), (153, .getfield 34, 3), (156, .iload_n 2, 1), (157, .aaload, 1), (158, .iconst 0, 1), (159, .aload_n 0, 1), (160, .getfield 34, 3), (163, .iload_n 2, 1), (164, .aaload, 1), (165, .iconst 0, 1), (166, .iconst 5, 1), (167, .invokestatic 86, 3), (170, .iinc 2 1, 3), (173, .goto (-29), 3)] rfl (by decide +kernel) rfl (by exact (And.intro rfl (And.intro rfl (And.intro rfl (And.intro h0 (And.intro h1 (And.intro rfl (And.intro rfl (And.intro rfl (And.intro rfl (And.intro h0 (And.intro h1 (And.intro rfl (And.intro (by first | exact isC_a (by omega) | exact isC_b (by omega) | exact isC_c (by omega) | exact isC_d (by omega)) (And.intro (by decide) (And.intro (by decide) (And.intro (by decide) (And.intro (by first | exact Int.le_of_eq (isA_r24b _ (by omega)).2.symm | exact Int.le_of_eq (isA_r45b _ (by omega)).2.symm) (And.intro (by first | exact Int.le_of_eq (isA_r24b _ (by omega)).2.symm | exact Int.le_of_eq (isA_r45b _ (by omega)).2.symm) trivial)))))))))))))))))))) ?_; rfl)
theorem b2_176 {sa sb : Nat} {iv : mIv} {Q : Option mV → mIv → mRv → Prop} {x2 : Int} {b d : Nat} (hb : b = 24 ∨ b = 45) (hd : d = 24 ∨ d = 45) : Ex 2 176 [some (.inr (.inr (some b))), some (.inr (.inr (some d))), some (.inl x2)] [] iv (RV sa sb) Q = Q none iv (RV sa sb) := by
  rcases hb with rfl | rfl
  all_goals (rcases hd with rfl | rfl)
  all_goals exact (ex_retT (M := 2) (pc := 176) (i := .return_) (n := 1) (rt := none) (by decide +kernel) (fun _ => rfl) rfl (fun _ _ _ => rfl) rfl rfl (by exact trivial))
set_option maxHeartbeats 8000000 in
theorem b3_0 {sa sb : Nat} {iv : mIv} {Q : Option mV → mIv → mRv → Prop} {x1 : Int} {b : Nat} (hb : b = 24 ∨ b = 45) (h0 : 0 ≤ x1) (h1 : x1 < 14) : Ex 3 0 [some (.inr (.inr (some b))), some (.inl x1)] [] iv (RV sa sb) Q = Q none (st2 (st2 iv (b + 18) x1.toNat 0) (b + 19) x1.toNat 0) (RV sa sb) := by
  rcases hb with rfl | rfl
  all_goals (refine Eq.trans (ex_blkT 0 [(0, .aload_n 0, 1), (1, .getfield 43, 3), (4, .iload_n 1, 1), (5, .iconst 0, 1), (6, .iastore, 1), (7, .aload_n 0, 1), (8, .getfield 46, 3), (11, .iload_n 1, 1), (12, .iconst 0, 1), (13, .iastore, 1)] rfl (by decide +kernel) rfl (by exact (And.intro rfl (And.intro rfl (And.intro (And.intro rfl rfl) (And.intro h0 (And.intro h1 (And.intro rfl (And.intro rfl (And.intro (And.intro rfl rfl) (And.intro h0 (And.intro h1 trivial)))))))))))) ?_; exact (ex_retT (M := 3) (pc := 14) (i := .return_) (n := 1) (rt := none) (by decide +kernel) (fun _ => rfl) rfl (fun _ _ _ => rfl) rfl rfl (by exact trivial)))
theorem b4_0 {sa sb : Nat} {iv : mIv} {Q : Option mV → mIv → mRv → Prop} {b : Nat} (hb : b = 24 ∨ b = 45) : Ex 4 0 [some (.inr (.inr (some b))), none] [] iv (RV sa sb) Q = Ex 4 2 [some (.inr (.inr (some b))), some (.inl 0)] [] iv (RV sa sb) Q := by
  rcases hb with rfl | rfl
  all_goals (refine Eq.trans (ex_blkT 0 [(0, .iconst 0, 1), (1, .istore_n 1, 1)] rfl (by decide +kernel) rfl (by exact trivial)) ?_; rfl)
theorem b4_2 {sa sb : Nat} {iv : mIv} {Q : Option mV → mIv → mRv → Prop} {x1 : Int} {b : Nat} (hb : b = 24 ∨ b = 45) : Ex 4 2 [some (.inr (.inr (some b))), some (.inl x1)] [] iv (RV sa sb) Q = (if x1 < iv b 2 then Ex 4 10 [some (.inr (.inr (some b))), some (.inl x1)] [] iv (RV sa sb) Q else Ex 4 53 [some (.inr (.inr (some b))), some (.inl x1)] [] iv (RV sa sb) Q) := by
  rcases hb with rfl | rfl
  all_goals (refine Eq.trans (ex_blkT 0 [(2, .iload_n 1, 1), (3, .aload_n 0, 1), (4, .getfield 62, 3)] rfl (by decide +kernel) rfl (by exact (And.intro rfl trivial))) ?_; exact (ex_brN (M := 4) (pc := 7) (i := .if_icmp .ge 46) (n := 3) _ (by decide +kernel) (fun _ => rfl) rfl Int.not_lt.symm))
set_option maxHeartbeats 8000000 in
theorem b4_10 {sa sb : Nat} {iv : mIv} {Q : Option mV → mIv → mRv → Prop} {x1 : Int} {b : Nat} (hb : b = 24 ∨ b = 45) (h0 : 0 ≤ x1) (h1 : x1 < 9) (h2 : 0 ≤ iv (b + 2) x1.toNat) (h3 : iv (b + 2) x1.toNat < 14) : Ex 4 10 [some (.inr (.inr (some b))), some (.inl x1)] [] iv (RV sa sb) Q = (if iv (b + 17) (iv (b + 2) x1.toNat).toNat = 0 then Ex 4 24 [some (.inr (.inr (some b))), some (.inl x1)] [] iv (RV sa sb) Q else Ex 4 47 [some (.inr (.inr (some b))), some (.inl x1)] [] iv (RV sa sb) Q) := by
  rcases hb with rfl | rfl
  all_goals (refine Eq.trans (ex_blkT 0 [(10, .aload_n 0, 1), (11, .getfield 40, 3), (14, .aload_n 0, 1), (15, .getfield 19, 3), (18, .iload_n 1, 1), (19, .iaload, 1), (20, .iaload, 1)] rfl (by decide +kernel) rfl (by exact (And.intro rfl (And.intro rfl (And.intro rfl (And.intro rfl (And.intro (And.intro rfl rfl) (And.intro h0 (And.intro h1 (And.intro (And.intro rfl rfl) (And.intro h2 (And.intro h3 trivial)))))))))))) ?_; exact (ex_brN (M := 4) (pc := 21) (i := .ifCond .ne 26) (n := 3) _ (by decide +kernel) (fun _ => rfl) rfl Iff.rfl))
theorem b4_24 {sa sb : Nat} {iv : mIv} {Q : Option mV → mIv → mRv → Prop} {x1 : Int} {b : Nat} (hb : b = 24 ∨ b = 45) (h0 : 0 ≤ x1) (h1 : x1 < 9) : Ex 4 24 [some (.inr (.inr (some b))), some (.inl x1)] [] iv (RV sa sb) Q = (if iv (b + 5) x1.toNat = 0 then Ex 4 47 [some (.inr (.inr (some b))), some (.inl x1)] [] iv (RV sa sb) Q else Ex 4 35 [some (.inr (.inr (some b))), some (.inl x1)] [] iv (RV sa sb) Q) := by
  rcases hb with rfl | rfl
  all_goals (refine Eq.trans (ex_blkT 0 [(24, .aload_n 0, 1), (25, .getfield 29, 3), (28, .iload_n 1, 1), (29, .laload, 1), (30, .lconst 0, 1), (31, .lcmp, 1)] rfl (by decide +kernel) rfl (by exact (And.intro rfl (And.intro rfl (And.intro (And.intro rfl rfl) (And.intro h0 (And.intro h1 trivial))))))) ?_; exact (ex_brI (M := 4) (pc := 32) (i := .ifCond .eq 15) (n := 3) _ (by decide +kernel) (fun _ => rfl) rfl (lc_eq _ _)))
theorem b4_35 {sa sb : Nat} {iv : mIv} {Q : Option mV → mIv → mRv → Prop} {x1 : Int} {b : Nat} (hb : b = 24 ∨ b = 45) : Ex 4 35 [some (.inr (.inr (some b))), some (.inl x1)] [] iv (RV sa sb) Q = Ex 10 0 [some (.inr (.inr (some b))), some (.inl x1)] [] iv (RV sa sb) (fun v iv2 rv2 => Ex 4 40 [some (.inr (.inr (some b))), some (.inl x1)] (mpush v []) iv2 rv2 Q) := by
  rcases hb with rfl | rfl
  all_goals (refine Eq.trans (ex_blkT 0 [(35, .aload_n 0, 1), (36, .iload_n 1, 1)] rfl (by decide +kernel) rfl (by exact trivial)) ?_; exact (Eq.trans (ex_calT (M := 4) (pc := 37) (i := .invokevirtual 92) (n := 3) (F := 1) (Lc := 21) (o := 0) (nl := 2) (by decide +kernel) rfl rfl rfl rfl rfl rfl rfl (by exact (And.intro rfl trivial))) rfl))
theorem b4_40 {sa sb : Nat} {iv : mIv} {Q : Option mV → mIv → mRv → Prop} {x1 xs0 : Int} {b : Nat} (hb : b = 24 ∨ b = 45) : Ex 4 40 [some (.inr (.inr (some b))), some (.inl x1)] [.inr (.inl xs0)] iv (RV sa sb) Q = (if xs0 = 0 then Ex 4 47 [some (.inr (.inr (some b))), some (.inl x1)] [] iv (RV sa sb) Q else Ex 4 45 [some (.inr (.inr (some b))), some (.inl x1)] [] iv (RV sa sb) Q) := by
  rcases hb with rfl | rfl
  all_goals (refine Eq.trans (ex_blkT 0 [(40, .lconst 0, 1), (41, .lcmp, 1)] rfl (by decide +kernel) rfl (by exact trivial)) ?_; exact (ex_brI (M := 4) (pc := 42) (i := .ifCond .eq 5) (n := 3) _ (by decide +kernel) (fun _ => rfl) rfl (lc_eq _ _)))
theorem b4_45 {sa sb : Nat} {iv : mIv} {Q : Option mV → mIv → mRv → Prop} {x1 : Int} {b : Nat} (hb : b = 24 ∨ b = 45) : Ex 4 45 [some (.inr (.inr (some b))), some (.inl x1)] [] iv (RV sa sb) Q = Q (some (.inl 0)) iv (RV sa sb) := by
  rcases hb with rfl | rfl
  all_goals (refine Eq.trans (ex_blkT 0 [(45, .iconst 0, 1)] rfl (by decide +kernel) rfl (by exact trivial)) ?_; exact (ex_retT (M := 4) (pc := 46) (i := .ireturn) (n := 1) (rt := some .boolean) (by decide +kernel) (fun _ => rfl) rfl (fun _ _ _ => rfl) rfl rfl (by exact (And.intro (Or.inl rfl) trivial))))
theorem b4_47 {sa sb : Nat} {iv : mIv} {Q : Option mV → mIv → mRv → Prop} {x1 : Int} {b : Nat} (hb : b = 24 ∨ b = 45) : Ex 4 47 [some (.inr (.inr (some b))), some (.inl x1)] [] iv (RV sa sb) Q = Ex 4 2 [some (.inr (.inr (some b))), some (.inl (w32 (x1 + 1)))] [] iv (RV sa sb) Q := by
  rcases hb with rfl | rfl
  all_goals (refine Eq.trans (ex_blkT 0 [(47, .iinc 1 1, 3), (50, .goto (-48), 3)] rfl (by decide +kernel) rfl (by exact trivial)) ?_; rfl)
theorem b4_53 {sa sb : Nat} {iv : mIv} {Q : Option mV → mIv → mRv → Prop} {x1 : Int} {b : Nat} (hb : b = 24 ∨ b = 45) : Ex 4 53 [some (.inr (.inr (some b))), some (.inl x1)] [] iv (RV sa sb) Q = Q (some (.inl 1)) iv (RV sa sb) := by
  rcases hb with rfl | rfl
  all_goals (refine Eq.trans (ex_blkT 0 [(53, .iconst 1, 1)] rfl (by decide +kernel) rfl (by exact trivial)) ?_; exact (ex_retT (M := 4) (pc := 54) (i := .ireturn) (n := 1) (rt := some .boolean) (by decide +kernel) (fun _ => rfl) rfl (fun _ _ _ => rfl) rfl rfl (by exact (And.intro (Or.inr rfl) trivial))))
theorem b5_0 {sa sb : Nat} {iv : mIv} {Q : Option mV → mIv → mRv → Prop} {b : Nat} (hb : b = 24 ∨ b = 45) : Ex 5 0 [some (.inr (.inr (some b))), none] [] iv (RV sa sb) Q = Ex 7 0 [some (.inr (.inr (some b))), some (.inl (w32 (4 + (iv b 3)))), none, none] [] iv (RV sa sb) (fun v iv2 rv2 => Ex 5 10 [some (.inr (.inr (some b))), none] (mpush v []) iv2 rv2 Q) := by
  rcases hb with rfl | rfl
  all_goals (refine Eq.trans (ex_blkT 0 [(0, .aload_n 0, 1), (1, .iconst 4, 1), (2, .aload_n 0, 1), (3, .getfield 58, 3), (6, .iadd, 1)] rfl (by decide +kernel) rfl (by exact (And.intro rfl trivial))) ?_; exact (Eq.trans (ex_calT (M := 5) (pc := 7) (i := .invokevirtual 96) (n := 3) (F := 4) (Lc := 97) (o := 0) (nl := 4) (by decide +kernel) rfl rfl rfl rfl rfl rfl rfl (by exact (And.intro rfl trivial))) rfl))
theorem b5_10 {sa sb : Nat} {iv : mIv} {Q : Option mV → mIv → mRv → Prop} {b : Nat} (hb : b = 24 ∨ b = 45) : Ex 5 10 [some (.inr (.inr (some b))), none] [] iv (RV sa sb) Q = Ex 5 12 [some (.inr (.inr (some b))), some (.inl 0)] [] iv (RV sa sb) Q := by
  rcases hb with rfl | rfl
  all_goals (refine Eq.trans (ex_blkT 0 [(10, .iconst 0, 1), (11, .istore_n 1, 1)] rfl (by decide +kernel) rfl (by exact trivial)) ?_; rfl)
theorem b5_12 {sa sb : Nat} {iv : mIv} {Q : Option mV → mIv → mRv → Prop} {x1 : Int} {b : Nat} (hb : b = 24 ∨ b = 45) : Ex 5 12 [some (.inr (.inr (some b))), some (.inl x1)] [] iv (RV sa sb) Q = (if x1 < iv b 3 then Ex 5 20 [some (.inr (.inr (some b))), some (.inl x1)] [] iv (RV sa sb) Q else Ex 5 44 [some (.inr (.inr (some b))), some (.inl x1)] [] iv (RV sa sb) Q) := by
  rcases hb with rfl | rfl
  all_goals (refine Eq.trans (ex_blkT 0 [(12, .iload_n 1, 1), (13, .aload_n 0, 1), (14, .getfield 58, 3)] rfl (by decide +kernel) rfl (by exact (And.intro rfl trivial))) ?_; exact (ex_brN (M := 5) (pc := 17) (i := .if_icmp .ge 27) (n := 3) _ (by decide +kernel) (fun _ => rfl) rfl Int.not_lt.symm))
set_option maxHeartbeats 8000000 in
theorem b5_20 {sa sb : Nat} {iv : mIv} {Q : Option mV → mIv → mRv → Prop} {x1 : Int} {b : Nat} (hb : b = 24 ∨ b = 45) (h0 : 0 ≤ x1) (h1 : x1 < 5) : Ex 5 20 [some (.inr (.inr (some b))), some (.inl x1)] [] iv (RV sa sb) Q = Ex 5 12 [some (.inr (.inr (some b))), some (.inl (w32 (x1 + 1)))] [] (st2 iv (b + 1) x1.toNat (w64 ((iv (b + 16) x1.toNat) * (iv b 0)))) (RV sa sb) Q := by
  rcases hb with rfl | rfl
  all_goals (refine Eq.trans (ex_blkT 0 [(20, .aload_n 0, 1), (21, .getfield 15, 3), (24, .iload_n 1, 1), (25, .aload_n 0, 1), (26, .getfield 37, 3), (29, .iload_n 1, 1), (30, .iaload, 1), (31, .i2l, 1), (32, .aload_n 0, 1), (33, .getfield 9, 3), (36, .lmul, 1), (37, .lastore, 1), (38, .iinc 1 1, 3), (41, .goto (-29), 3)] rfl (by decide +kernel) rfl (by exact (And.intro rfl (And.intro rfl (And.intro rfl (And.intro rfl (And.intro (And.intro rfl rfl) (And.intro h0 (And.intro h1 (And.intro rfl (And.intro (And.intro rfl rfl) (And.intro h0 (And.intro h1 trivial))))))))))))) ?_; rfl)
theorem b5_44 {sa sb : Nat} {iv : mIv} {Q : Option mV → mIv → mRv → Prop} {x1 : Int} {b : Nat} (hb : b = 24 ∨ b = 45) : Ex 5 44 [some (.inr (.inr (some b))), some (.inl x1)] [] iv (RV sa sb) Q = Ex 5 46 [some (.inr (.inr (some b))), some (.inl 0)] [] iv (RV sa sb) Q := by
  rcases hb with rfl | rfl
  all_goals (refine Eq.trans (ex_blkT 0 [(44, .iconst 0, 1), (45, .istore_n 1, 1)] rfl (by decide +kernel) rfl (by exact trivial)) ?_; rfl)
theorem b5_46 {sa sb : Nat} {iv : mIv} {Q : Option mV → mIv → mRv → Prop} {x1 : Int} {b : Nat} (hb : b = 24 ∨ b = 45) : Ex 5 46 [some (.inr (.inr (some b))), some (.inl x1)] [] iv (RV sa sb) Q = (if x1 < iv b 2 then Ex 5 54 [some (.inr (.inr (some b))), some (.inl x1)] [] iv (RV sa sb) Q else Ex 5 94 [some (.inr (.inr (some b))), some (.inl x1)] [] iv (RV sa sb) Q) := by
  rcases hb with rfl | rfl
  all_goals (refine Eq.trans (ex_blkT 0 [(46, .iload_n 1, 1), (47, .aload_n 0, 1), (48, .getfield 62, 3)] rfl (by decide +kernel) rfl (by exact (And.intro rfl trivial))) ?_; exact (ex_brN (M := 5) (pc := 51) (i := .if_icmp .ge 43) (n := 3) _ (by decide +kernel) (fun _ => rfl) rfl Int.not_lt.symm))
theorem b5_54 {sa sb : Nat} {iv : mIv} {Q : Option mV → mIv → mRv → Prop} {x1 : Int} {b : Nat} (hb : b = 24 ∨ b = 45) (h0 : 0 ≤ x1) (h1 : x1 < 9) : Ex 5 54 [some (.inr (.inr (some b))), some (.inl x1)] [] iv (RV sa sb) Q = (if iv (b + 2) x1.toNat < 9 then Ex 5 88 [some (.inr (.inr (some b))), some (.inl x1)] [] iv (RV sa sb) Q else Ex 5 65 [some (.inr (.inr (some b))), some (.inl x1)] [] iv (RV sa sb) Q) := by
  rcases hb with rfl | rfl
  all_goals (refine Eq.trans (ex_blkT 0 [(54, .aload_n 0, 1), (55, .getfield 19, 3), (58, .iload_n 1, 1), (59, .iaload, 1), (60, .bipush 9, 2)] rfl (by decide +kernel) rfl (by exact (And.intro rfl (And.intro rfl (And.intro (And.intro rfl rfl) (And.intro h0 (And.intro h1 trivial))))))) ?_; exact (ex_brI (M := 5) (pc := 62) (i := .if_icmp .lt 26) (n := 3) _ (by decide +kernel) (fun _ => rfl) rfl Iff.rfl))
set_option maxHeartbeats 8000000 in
theorem b5_65 {sa sb : Nat} {iv : mIv} {Q : Option mV → mIv → mRv → Prop} {x1 : Int} {b : Nat} (hb : b = 24 ∨ b = 45) (h0 : 0 ≤ x1) (h1 : x1 < 9) (h2 : 0 ≤ w32 ((iv (b + 2) x1.toNat) - 9)) (h3 : w32 ((iv (b + 2) x1.toNat) - 9) < 5) : Ex 5 65 [some (.inr (.inr (some b))), some (.inl x1)] [] iv (RV sa sb) Q = Ex 5 88 [some (.inr (.inr (some b))), some (.inl x1)] [] (st2 iv (b + 1) (w32 ((iv (b + 2) x1.toNat) - 9)).toNat (w64 ((iv (b + 1) (w32 ((iv (b + 2) x1.toNat) - 9)).toNat) + (iv (b + 5) x1.toNat)))) (RV sa sb) Q := by
  rcases hb with rfl | rfl
  all_goals (refine Eq.trans (ex_blkT 0 [(65, .aload_n 0, 1), (66, .getfield 15, 3), (69, .aload_n 0, 1), (70, .getfield 19, 3), (73, .iload_n 1, 1), (74, .iaload, 1), (75, .bipush 9, 2), (77, .isub, 1), (78, .dup2, 1), (79, .laload, 1), (80, .aload_n 0, 1), (81, .getfield 29, 3), (84, .iload_n 1, 1), (85, .laload, 1), (86, .ladd, 1), (87, .lastore, 1)] rfl (by decide +kernel) rfl (by exact (And.intro rfl (And.intro rfl (And.intro rfl (And.intro rfl (And.intro (And.intro rfl rfl) (And.intro h0 (And.intro h1 (And.intro (And.intro rfl rfl) (And.intro h2 (And.intro h3 (And.intro rfl (And.intro rfl (And.intro (And.intro rfl rfl) (And.intro h0 (And.intro h1 (And.intro (And.intro rfl rfl) (And.intro h2 (And.intro h3 trivial)))))))))))))))))))) ?_; rfl)
theorem b5_88 {sa sb : Nat} {iv : mIv} {Q : Option mV → mIv → mRv → Prop} {x1 : Int} {b : Nat} (hb : b = 24 ∨ b = 45) : Ex 5 88 [some (.inr (.inr (some b))), some (.inl x1)] [] iv (RV sa sb) Q = Ex 5 46 [some (.inr (.inr (some b))), some (.inl (w32 (x1 + 1)))] [] iv (RV sa sb) Q := by
  rcases hb with rfl | rfl
  all_goals (refine Eq.trans (ex_blkT 0 [(88, .iinc 1 1, 3), (91, .goto (-45), 3)] rfl (by decide +kernel) rfl (by exact trivial)) ?_; rfl)
theorem b5_94 {sa sb : Nat} {iv : mIv} {Q : Option mV → mIv → mRv → Prop} {x1 : Int} {b : Nat} (hb : b = 24 ∨ b = 45) : Ex 5 94 [some (.inr (.inr (some b))), some (.inl x1)] [] iv (RV sa sb) Q = Q none iv (RV sa sb) := by
  rcases hb with rfl | rfl
  all_goals exact (ex_retT (M := 5) (pc := 94) (i := .return_) (n := 1) (rt := none) (by decide +kernel) (fun _ => rfl) rfl (fun _ _ _ => rfl) rfl rfl (by exact trivial))
theorem b6_0 {sa sb : Nat} {iv : mIv} {Q : Option mV → mIv → mRv → Prop} {b k : Nat} (hb : b = 24 ∨ b = 45) (hk : k < 9) : Ex 6 0 [some (.inr (.inr (some b))), some (.inr (.inr (some (6 + 2 * k)))), none, none, none] [] iv (RV sa sb) Q = Ex 6 15 [some (.inr (.inr (some b))), some (.inr (.inr (some (6 + 2 * k)))), some (.inr (.inl (w64 ((w32 (-(iv (6 + 2 * k) 5))) * (iv b 0))))), none, some (.inl 0)] [] iv (RV sa sb) Q := by
  rcases hb with rfl | rfl
  all_goals (refine Eq.trans (ex_blkT 0 [(0, .aload_n 1, 1), (1, .getfield 80, 3), (4, .ineg, 1), (5, .i2l, 1), (6, .aload_n 0, 1), (7, .getfield 9, 3), (10, .lmul, 1), (11, .lstore_n 2, 1), (12, .iconst 0, 1), (13, .istore 4, 2)] rfl (by decide +kernel) rfl (by exact (And.intro (by first | exact isO_w (by omega) | exact rfl) (And.intro rfl trivial)))) ?_; rfl)
theorem b6_15 {sa sb : Nat} {iv : mIv} {Q : Option mV → mIv → mRv → Prop} {x2 x4 : Int} {b k : Nat} (hb : b = 24 ∨ b = 45) (hk : k < 9) : Ex 6 15 [some (.inr (.inr (some b))), some (.inr (.inr (some (6 + 2 * k)))), some (.inr (.inl x2)), none, some (.inl x4)] [] iv (RV sa sb) Q = (if x4 < iv b 3 then Ex 6 24 [some (.inr (.inr (some b))), some (.inr (.inr (some (6 + 2 * k)))), some (.inr (.inl x2)), none, some (.inl x4)] [] iv (RV sa sb) Q else Ex 6 49 [some (.inr (.inr (some b))), some (.inr (.inr (some (6 + 2 * k)))), some (.inr (.inl x2)), none, some (.inl x4)] [] iv (RV sa sb) Q) := by
  rcases hb with rfl | rfl
  all_goals (refine Eq.trans (ex_blkT 0 [(15, .iload 4, 2), (17, .aload_n 0, 1), (18, .getfield 58, 3)] rfl (by decide +kernel) rfl (by exact (And.intro rfl trivial))) ?_; exact (ex_brN (M := 6) (pc := 21) (i := .if_icmp .ge 28) (n := 3) _ (by decide +kernel) (fun _ => rfl) rfl Int.not_lt.symm))
set_option maxHeartbeats 8000000 in
theorem b6_24 {sa sb : Nat} {iv : mIv} {Q : Option mV → mIv → mRv → Prop} {x2 x4 : Int} {b k : Nat} (hb : b = 24 ∨ b = 45) (hk : k < 9) (h0 : 0 ≤ x4) (h1 : x4 < 5) : Ex 6 24 [some (.inr (.inr (some b))), some (.inr (.inr (some (6 + 2 * k)))), some (.inr (.inl x2)), none, some (.inl x4)] [] iv (RV sa sb) Q = Ex 6 15 [some (.inr (.inr (some b))), some (.inr (.inr (some (6 + 2 * k)))), some (.inr (.inl (w64 (x2 + (w64 ((iv (7 + 2 * k) x4.toNat) * (iv (b + 1) x4.toNat))))))), none, some (.inl (w32 (x4 + 1)))] [] iv (RV sa sb) Q := by
  rcases hb with rfl | rfl
  all_goals (rcases (show k = 0 ∨ k = 1 ∨ k = 2 ∨ k = 3 ∨ k = 4 ∨ k = 5 ∨ k = 6 ∨ k = 7 ∨ k = 8 by omega) with rfl | rfl | rfl | rfl | rfl | rfl | rfl | rfl | rfl)
  all_goals (refine Eq.trans (ex_blkT 0 [(24, .lload_n 2, 1), (25, .aload_n 1, 1), (26, .getfield 83, 3), (29, .iload 4, 2), (31, .iaload, 1), (32, .i2l, 1), (33, .aload_n 0, 1), (34, .getfield 15, 3), (37, .iload 4, 2), (39, .laload, 1), (40, .lmul, 1), (41, .ladd, 1), (42, .lstore_n 2, 1), (43, .iinc 4 1, 3), (46, .goto (-31), 3)] rfl (by decide +kernel) rfl (by exact (And.intro (by first | exact isO_w (by omega) | exact rfl) (And.intro rfl (And.intro (And.intro rfl rfl) (And.intro h0 (And.intro h1 (And.intro rfl (And.intro rfl (And.intro (And.intro rfl rfl) (And.intro h0 (And.intro h1 trivial)))))))))))) ?_; rfl)
theorem b6_49 {sa sb : Nat} {iv : mIv} {Q : Option mV → mIv → mRv → Prop} {x2 x4 : Int} {b k : Nat} (hb : b = 24 ∨ b = 45) (hk : k < 9) : Ex 6 49 [some (.inr (.inr (some b))), some (.inr (.inr (some (6 + 2 * k)))), some (.inr (.inl x2)), none, some (.inl x4)] [] iv (RV sa sb) Q = (if iv (6 + 2 * k) 2 = 1 then Ex 6 57 [some (.inr (.inr (some b))), some (.inr (.inr (some (6 + 2 * k)))), some (.inr (.inl x2)), none, some (.inl x4)] [] iv (RV sa sb) Q else Ex 6 63 [some (.inr (.inr (some b))), some (.inr (.inr (some (6 + 2 * k)))), some (.inr (.inl x2)), none, some (.inl x4)] [] iv (RV sa sb) Q) := by
  rcases hb with rfl | rfl
  all_goals (refine Eq.trans (ex_blkT 0 [(49, .aload_n 1, 1), (50, .getfield 100, 3), (53, .iconst 1, 1)] rfl (by decide +kernel) rfl (by exact (And.intro (by first | exact isO_w (by omega) | exact rfl) trivial))) ?_; exact (ex_brN (M := 6) (pc := 54) (i := .if_icmp .ne 9) (n := 3) _ (by decide +kernel) (fun _ => rfl) rfl Iff.rfl))
theorem b6_57 {sa sb : Nat} {iv : mIv} {Q : Option mV → mIv → mRv → Prop} {x2 x4 : Int} {b k : Nat} (hb : b = 24 ∨ b = 45) (hk : k < 9) : Ex 6 57 [some (.inr (.inr (some b))), some (.inr (.inr (some (6 + 2 * k)))), some (.inr (.inl x2)), none, some (.inl x4)] [] iv (RV sa sb) Q = Ex 100 0 [some (.inr (.inl x2)), none, some (.inr (.inl 0)), none] [] iv (RV sa sb) (fun v iv2 rv2 => Ex 6 62 [some (.inr (.inr (some b))), some (.inr (.inr (some (6 + 2 * k)))), some (.inr (.inl x2)), none, some (.inl x4)] (mpush v []) iv2 rv2 Q) := by
  rcases hb with rfl | rfl
  all_goals (refine Eq.trans (ex_blkT 0 [(57, .lload_n 2, 1), (58, .lconst 0, 1)] rfl (by decide +kernel) rfl (by exact trivial)) ?_; exact (Eq.trans (ex_calT (M := 6) (pc := 59) (i := .invokestatic 103) (n := 3) (F := 1) (Lc := 23) (o := 0) (nl := 4) (by decide +kernel) rfl rfl rfl rfl rfl rfl rfl (by exact trivial)) rfl))
theorem b6_62 {sa sb : Nat} {iv : mIv} {Q : Option mV → mIv → mRv → Prop} {x2 x4 xs0 : Int} {b k : Nat} (hb : b = 24 ∨ b = 45) (hk : k < 9) : Ex 6 62 [some (.inr (.inr (some b))), some (.inr (.inr (some (6 + 2 * k)))), some (.inr (.inl x2)), none, some (.inl x4)] [.inr (.inl xs0)] iv (RV sa sb) Q = Q (some (.inr (.inl xs0))) iv (RV sa sb) := by
  rcases hb with rfl | rfl
  all_goals exact (ex_retT (M := 6) (pc := 62) (i := .lreturn) (n := 1) (rt := some .long) (by decide +kernel) (fun _ => rfl) rfl (fun _ _ _ => rfl) rfl rfl (by exact trivial))
theorem b6_63 {sa sb : Nat} {iv : mIv} {Q : Option mV → mIv → mRv → Prop} {x2 x4 : Int} {b k : Nat} (hb : b = 24 ∨ b = 45) (hk : k < 9) : Ex 6 63 [some (.inr (.inr (some b))), some (.inr (.inr (some (6 + 2 * k)))), some (.inr (.inl x2)), none, some (.inl x4)] [] iv (RV sa sb) Q = (if iv (6 + 2 * k) 2 = 2 then Ex 6 71 [some (.inr (.inr (some b))), some (.inr (.inr (some (6 + 2 * k)))), some (.inr (.inl x2)), none, some (.inl x4)] [] iv (RV sa sb) Q else Ex 6 80 [some (.inr (.inr (some b))), some (.inr (.inr (some (6 + 2 * k)))), some (.inr (.inl x2)), none, some (.inl x4)] [] iv (RV sa sb) Q) := by
  rcases hb with rfl | rfl
  all_goals (refine Eq.trans (ex_blkT 0 [(63, .aload_n 1, 1), (64, .getfield 100, 3), (67, .iconst 2, 1)] rfl (by decide +kernel) rfl (by exact (And.intro (by first | exact isO_w (by omega) | exact rfl) trivial))) ?_; exact (ex_brN (M := 6) (pc := 68) (i := .if_icmp .ne 12) (n := 3) _ (by decide +kernel) (fun _ => rfl) rfl Iff.rfl))
theorem b6_71 {sa sb : Nat} {iv : mIv} {Q : Option mV → mIv → mRv → Prop} {x2 x4 : Int} {b k : Nat} (hb : b = 24 ∨ b = 45) (hk : k < 9) : Ex 6 71 [some (.inr (.inr (some b))), some (.inr (.inr (some (6 + 2 * k)))), some (.inr (.inl x2)), none, some (.inl x4)] [] iv (RV sa sb) Q = Ex 100 0 [some (.inr (.inl (w64 (-x2)))), none, some (.inr (.inl 0)), none] [] iv (RV sa sb) (fun v iv2 rv2 => Ex 6 77 [some (.inr (.inr (some b))), some (.inr (.inr (some (6 + 2 * k)))), some (.inr (.inl x2)), none, some (.inl x4)] (mpush v []) iv2 rv2 Q) := by
  rcases hb with rfl | rfl
  all_goals (refine Eq.trans (ex_blkT 0 [(71, .lload_n 2, 1), (72, .lneg, 1), (73, .lconst 0, 1)] rfl (by decide +kernel) rfl (by exact trivial)) ?_; exact (Eq.trans (ex_calT (M := 6) (pc := 74) (i := .invokestatic 103) (n := 3) (F := 1) (Lc := 23) (o := 0) (nl := 4) (by decide +kernel) rfl rfl rfl rfl rfl rfl rfl (by exact trivial)) rfl))
theorem b6_77 {sa sb : Nat} {iv : mIv} {Q : Option mV → mIv → mRv → Prop} {x2 x4 xs0 : Int} {b k : Nat} (hb : b = 24 ∨ b = 45) (hk : k < 9) : Ex 6 77 [some (.inr (.inr (some b))), some (.inr (.inr (some (6 + 2 * k)))), some (.inr (.inl x2)), none, some (.inl x4)] [.inr (.inl xs0)] iv (RV sa sb) Q = Ex 6 84 [some (.inr (.inr (some b))), some (.inr (.inr (some (6 + 2 * k)))), some (.inr (.inl x2)), none, some (.inl x4)] [.inr (.inl xs0)] iv (RV sa sb) Q := by
  rcases hb with rfl | rfl
  all_goals (refine Eq.trans (ex_blkT 0 [(77, .goto 7, 3)] rfl (by decide +kernel) rfl (by exact trivial)) ?_; rfl)
theorem b6_80 {sa sb : Nat} {iv : mIv} {Q : Option mV → mIv → mRv → Prop} {x2 x4 : Int} {b k : Nat} (hb : b = 24 ∨ b = 45) (hk : k < 9) : Ex 6 80 [some (.inr (.inr (some b))), some (.inr (.inr (some (6 + 2 * k)))), some (.inr (.inl x2)), none, some (.inl x4)] [] iv (RV sa sb) Q = Ex 99 0 [some (.inr (.inl x2)), none] [] iv (RV sa sb) (fun v iv2 rv2 => Ex 6 84 [some (.inr (.inr (some b))), some (.inr (.inr (some (6 + 2 * k)))), some (.inr (.inl x2)), none, some (.inl x4)] (mpush v []) iv2 rv2 Q) := by
  rcases hb with rfl | rfl
  all_goals (refine Eq.trans (ex_blkT 0 [(80, .lload_n 2, 1)] rfl (by decide +kernel) rfl (by exact trivial)) ?_; exact (Eq.trans (ex_calT (M := 6) (pc := 81) (i := .invokestatic 107) (n := 3) (F := 1) (Lc := 23) (o := 0) (nl := 2) (by decide +kernel) rfl rfl rfl rfl rfl rfl rfl (by exact trivial)) rfl))
theorem b6_84 {sa sb : Nat} {iv : mIv} {Q : Option mV → mIv → mRv → Prop} {x2 x4 xs0 : Int} {b k : Nat} (hb : b = 24 ∨ b = 45) (hk : k < 9) : Ex 6 84 [some (.inr (.inr (some b))), some (.inr (.inr (some (6 + 2 * k)))), some (.inr (.inl x2)), none, some (.inl x4)] [.inr (.inl xs0)] iv (RV sa sb) Q = Q (some (.inr (.inl xs0))) iv (RV sa sb) := by
  rcases hb with rfl | rfl
  all_goals exact (ex_retT (M := 6) (pc := 84) (i := .lreturn) (n := 1) (rt := some .long) (by decide +kernel) (fun _ => rfl) rfl (fun _ _ _ => rfl) rfl rfl (by exact trivial))
theorem b7_0 {sa sb : Nat} {iv : mIv} {Q : Option mV → mIv → mRv → Prop} {x1 : Int} {b : Nat} (hb : b = 24 ∨ b = 45) : Ex 7 0 [some (.inr (.inr (some b))), some (.inl x1), none, none] [] iv (RV sa sb) Q = Ex 7 2 [some (.inr (.inr (some b))), some (.inl x1), some (.inl 0), none] [] iv (RV sa sb) Q := by
  rcases hb with rfl | rfl
  all_goals (refine Eq.trans (ex_blkT 0 [(0, .iconst 0, 1), (1, .istore_n 2, 1)] rfl (by decide +kernel) rfl (by exact trivial)) ?_; rfl)
theorem b7_2 {sa sb : Nat} {iv : mIv} {Q : Option mV → mIv → mRv → Prop} {x1 x2 : Int} {b : Nat} {u3 : Option mV} (hb : b = 24 ∨ b = 45) : Ex 7 2 [some (.inr (.inr (some b))), some (.inl x1), some (.inl x2), u3] [] iv (RV sa sb) Q = (if x2 < 1000000 then Ex 7 8 [some (.inr (.inr (some b))), some (.inl x1), some (.inl x2), u3] [] iv (RV sa sb) Q else Ex 7 40 [some (.inr (.inr (some b))), some (.inl x1), some (.inl x2), u3] [] iv (RV sa sb) Q) := by
  rcases hb with rfl | rfl
  all_goals (refine Eq.trans (ex_blkT 0 [(2, .iload_n 2, 1), (3, .ldc 111, 2)] rfl (by decide +kernel) rfl (by exact trivial)) ?_; exact (ex_brN (M := 7) (pc := 5) (i := .if_icmp .ge 35) (n := 3) _ (by decide +kernel) (fun _ => rfl) rfl Int.not_lt.symm))
theorem b7_8 {sa sb : Nat} {iv : mIv} {Q : Option mV → mIv → mRv → Prop} {x1 x2 : Int} {b : Nat} {u3 : Option mV} (hb : b = 24 ∨ b = 45) : Ex 7 8 [some (.inr (.inr (some b))), some (.inl x1), some (.inl x2), u3] [] iv (RV sa sb) Q = Ex 8 0 [some (.inr (.inr (some b))), some (.inl x1), none, none, none] [] iv (RV sa sb) (fun v iv2 rv2 => Ex 7 13 [some (.inr (.inr (some b))), some (.inl x1), some (.inl x2), u3] (mpush v []) iv2 rv2 Q) := by
  rcases hb with rfl | rfl
  all_goals (refine Eq.trans (ex_blkT 0 [(8, .aload_n 0, 1), (9, .iload_n 1, 1)] rfl (by decide +kernel) rfl (by exact trivial)) ?_; exact (Eq.trans (ex_calT (M := 7) (pc := 10) (i := .invokevirtual 112) (n := 3) (F := 3) (Lc := 74) (o := 0) (nl := 5) (by decide +kernel) rfl rfl rfl rfl rfl rfl rfl (by exact (And.intro rfl trivial))) rfl))
theorem b7_13 {sa sb : Nat} {iv : mIv} {Q : Option mV → mIv → mRv → Prop} {x1 x2 xs0 : Int} {b : Nat} {u3 : Option mV} (hb : b = 24 ∨ b = 45) : Ex 7 13 [some (.inr (.inr (some b))), some (.inl x1), some (.inl x2), u3] [.inl xs0] iv (RV sa sb) Q = (if xs0 = 0 then Ex 7 16 [some (.inr (.inr (some b))), some (.inl x1), some (.inl x2), u3] [] iv (RV sa sb) Q else Ex 7 17 [some (.inr (.inr (some b))), some (.inl x1), some (.inl x2), u3] [] iv (RV sa sb) Q) := by
  rcases hb with rfl | rfl
  all_goals exact (ex_brN (M := 7) (pc := 13) (i := .ifCond .ne 4) (n := 3) _ (by decide +kernel) (fun _ => rfl) rfl Iff.rfl)
theorem b7_16 {sa sb : Nat} {iv : mIv} {Q : Option mV → mIv → mRv → Prop} {x1 x2 : Int} {b : Nat} {u3 : Option mV} (hb : b = 24 ∨ b = 45) : Ex 7 16 [some (.inr (.inr (some b))), some (.inl x1), some (.inl x2), u3] [] iv (RV sa sb) Q = Q none iv (RV sa sb) := by
  rcases hb with rfl | rfl
  all_goals exact (ex_retT (M := 7) (pc := 16) (i := .return_) (n := 1) (rt := none) (by decide +kernel) (fun _ => rfl) rfl (fun _ _ _ => rfl) rfl rfl (by exact trivial))
theorem b7_17 {sa sb : Nat} {iv : mIv} {Q : Option mV → mIv → mRv → Prop} {x1 x2 : Int} {b : Nat} {u3 : Option mV} (hb : b = 24 ∨ b = 45) : Ex 7 17 [some (.inr (.inr (some b))), some (.inl x1), some (.inl x2), u3] [] iv (RV sa sb) Q = Ex 12 0 [some (.inr (.inr (some b))), some (.inl x1), none, none, none] [] iv (RV sa sb) (fun v iv2 rv2 => Ex 7 22 [some (.inr (.inr (some b))), some (.inl x1), some (.inl x2), u3] (mpush v []) iv2 rv2 Q) := by
  rcases hb with rfl | rfl
  all_goals (refine Eq.trans (ex_blkT 0 [(17, .aload_n 0, 1), (18, .iload_n 1, 1)] rfl (by decide +kernel) rfl (by exact trivial)) ?_; exact (Eq.trans (ex_calT (M := 7) (pc := 19) (i := .invokevirtual 116) (n := 3) (F := 3) (Lc := 74) (o := 0) (nl := 5) (by decide +kernel) rfl rfl rfl rfl rfl rfl rfl (by exact (And.intro rfl trivial))) rfl))
theorem b7_22 {sa sb : Nat} {iv : mIv} {Q : Option mV → mIv → mRv → Prop} {x1 x2 xs0 : Int} {b : Nat} {u3 : Option mV} (hb : b = 24 ∨ b = 45) : Ex 7 22 [some (.inr (.inr (some b))), some (.inl x1), some (.inl x2), u3] [.inl xs0] iv (RV sa sb) Q = (if xs0 = (-1) then Ex 7 28 [some (.inr (.inr (some b))), some (.inl x1), some (.inl x2), some (.inl xs0)] [] iv (RV sa sb) Q else Ex 7 29 [some (.inr (.inr (some b))), some (.inl x1), some (.inl x2), some (.inl xs0)] [] iv (RV sa sb) Q) := by
  rcases hb with rfl | rfl
  all_goals (refine Eq.trans (ex_blkT 0 [(22, .istore_n 3, 1), (23, .iload_n 3, 1), (24, .iconst (-1), 1)] rfl (by decide +kernel) rfl (by exact trivial)) ?_; exact (ex_brN (M := 7) (pc := 25) (i := .if_icmp .ne 4) (n := 3) _ (by decide +kernel) (fun _ => rfl) rfl Iff.rfl))
theorem b7_28 {sa sb : Nat} {iv : mIv} {Q : Option mV → mIv → mRv → Prop} {x1 x2 x3 : Int} {b : Nat} (hb : b = 24 ∨ b = 45) : Ex 7 28 [some (.inr (.inr (some b))), some (.inl x1), some (.inl x2), some (.inl x3)] [] iv (RV sa sb) Q = Q none iv (RV sa sb) := by
  rcases hb with rfl | rfl
  all_goals exact (ex_retT (M := 7) (pc := 28) (i := .return_) (n := 1) (rt := none) (by decide +kernel) (fun _ => rfl) rfl (fun _ _ _ => rfl) rfl rfl (by exact trivial))
theorem b7_29 {sa sb : Nat} {iv : mIv} {Q : Option mV → mIv → mRv → Prop} {x1 x2 x3 : Int} {b : Nat} (hb : b = 24 ∨ b = 45) : Ex 7 29 [some (.inr (.inr (some b))), some (.inl x1), some (.inl x2), some (.inl x3)] [] iv (RV sa sb) Q = Ex 15 0 [some (.inr (.inr (some b))), some (.inl x3), none, none, none, none, none, none] [] iv (RV sa sb) (fun v iv2 rv2 => Ex 7 34 [some (.inr (.inr (some b))), some (.inl x1), some (.inl x2), some (.inl x3)] (mpush v []) iv2 rv2 Q) := by
  rcases hb with rfl | rfl
  all_goals (refine Eq.trans (ex_blkT 0 [(29, .aload_n 0, 1), (30, .iload_n 3, 1)] rfl (by decide +kernel) rfl (by exact trivial)) ?_; exact (Eq.trans (ex_calT (M := 7) (pc := 31) (i := .invokevirtual 120) (n := 3) (F := 3) (Lc := 74) (o := 0) (nl := 8) (by decide +kernel) rfl rfl rfl rfl rfl rfl rfl (by exact (And.intro rfl trivial))) rfl))
theorem b7_34 {sa sb : Nat} {iv : mIv} {Q : Option mV → mIv → mRv → Prop} {x1 x2 x3 : Int} {b : Nat} (hb : b = 24 ∨ b = 45) : Ex 7 34 [some (.inr (.inr (some b))), some (.inl x1), some (.inl x2), some (.inl x3)] [] iv (RV sa sb) Q = Ex 7 2 [some (.inr (.inr (some b))), some (.inl x1), some (.inl (w32 (x2 + 1))), some (.inl x3)] [] iv (RV sa sb) Q := by
  rcases hb with rfl | rfl
  all_goals (refine Eq.trans (ex_blkT 0 [(34, .iinc 2 1, 3), (37, .goto (-35), 3)] rfl (by decide +kernel) rfl (by exact trivial)) ?_; rfl)
theorem b7_40 {sa sb : Nat} {iv : mIv} {Q : Option mV → mIv → mRv → Prop} {x1 x2 : Int} {b : Nat} {u3 : Option mV} (hb : b = 24 ∨ b = 45) : Ex 7 40 [some (.inr (.inr (some b))), some (.inl x1), some (.inl x2), u3] [] iv (RV sa sb) Q = Q none iv (RV sa sb) := by
  rcases hb with rfl | rfl
  all_goals exact (ex_retT (M := 7) (pc := 40) (i := .return_) (n := 1) (rt := none) (by decide +kernel) (fun _ => rfl) rfl (fun _ _ _ => rfl) rfl rfl (by exact trivial))
theorem b8_0 {sa sb : Nat} {iv : mIv} {Q : Option mV → mIv → mRv → Prop} {x1 : Int} {b : Nat} (hb : b = 24 ∨ b = 45) : Ex 8 0 [some (.inr (.inr (some b))), some (.inl x1), none, none, none] [] iv (RV sa sb) Q = Ex 9 0 [some (.inr (.inr (some b))), some (.inl x1), none, none, none, none, none] [] iv (RV sa sb) (fun v iv2 rv2 => Ex 8 5 [some (.inr (.inr (some b))), some (.inl x1), none, none, none] (mpush v []) iv2 rv2 Q) := by
  rcases hb with rfl | rfl
  all_goals (refine Eq.trans (ex_blkT 0 [(0, .aload_n 0, 1), (1, .iload_n 1, 1)] rfl (by decide +kernel) rfl (by exact trivial)) ?_; exact (Eq.trans (ex_calT (M := 8) (pc := 2) (i := .invokevirtual 123) (n := 3) (F := 2) (Lc := 50) (o := 0) (nl := 7) (by decide +kernel) rfl rfl rfl rfl rfl rfl rfl (by exact (And.intro rfl trivial))) rfl))
theorem b8_5 {sa sb : Nat} {iv : mIv} {Q : Option mV → mIv → mRv → Prop} {x1 : Int} {b : Nat} (hb : b = 24 ∨ b = 45) : Ex 8 5 [some (.inr (.inr (some b))), some (.inl x1), none, none, none] [] iv (RV sa sb) Q = Ex 8 10 [some (.inr (.inr (some b))), some (.inl x1), some (.inl 28), some (.inl 0), none] [] iv (RV sa sb) Q := by
  rcases hb with rfl | rfl
  all_goals (refine Eq.trans (ex_blkT 0 [(5, .bipush 28, 2), (7, .istore_n 2, 1), (8, .iconst 0, 1), (9, .istore_n 3, 1)] rfl (by decide +kernel) rfl (by exact trivial)) ?_; rfl)
theorem b8_10 {sa sb : Nat} {iv : mIv} {Q : Option mV → mIv → mRv → Prop} {x1 x2 x3 : Int} {b : Nat} {u4 : Option mV} (hb : b = 24 ∨ b = 45) : Ex 8 10 [some (.inr (.inr (some b))), some (.inl x1), some (.inl x2), some (.inl x3), u4] [] iv (RV sa sb) Q = (if x3 < iv b 3 then Ex 8 18 [some (.inr (.inr (some b))), some (.inl x1), some (.inl x2), some (.inl x3), u4] [] iv (RV sa sb) Q else Ex 8 105 [some (.inr (.inr (some b))), some (.inl x1), some (.inl x2), some (.inl x3), u4] [] iv (RV sa sb) Q) := by
  rcases hb with rfl | rfl
  all_goals (refine Eq.trans (ex_blkT 0 [(10, .iload_n 3, 1), (11, .aload_n 0, 1), (12, .getfield 58, 3)] rfl (by decide +kernel) rfl (by exact (And.intro rfl trivial))) ?_; exact (ex_brN (M := 8) (pc := 15) (i := .if_icmp .ge 90) (n := 3) _ (by decide +kernel) (fun _ => rfl) rfl Int.not_lt.symm))
theorem b8_18 {sa sb : Nat} {iv : mIv} {Q : Option mV → mIv → mRv → Prop} {x1 x2 x3 : Int} {b : Nat} {u4 : Option mV} (hb : b = 24 ∨ b = 45) (h0 : 0 ≤ x3) (h1 : x3 < 5) : Ex 8 18 [some (.inr (.inr (some b))), some (.inl x1), some (.inl x2), some (.inl x3), u4] [] iv (RV sa sb) Q = (if w32 (2 * (iv (b + 4) x3.toNat)) < x2 then Ex 8 34 [some (.inr (.inr (some b))), some (.inl x1), some (.inl x2), some (.inl x3), some (.inl (iv (b + 4) x3.toNat))] [] iv (RV sa sb) Q else Ex 8 62 [some (.inr (.inr (some b))), some (.inl x1), some (.inl x2), some (.inl x3), some (.inl (iv (b + 4) x3.toNat))] [] iv (RV sa sb) Q) := by
  rcases hb with rfl | rfl
  all_goals (refine Eq.trans (ex_blkT 0 [(18, .aload_n 0, 1), (19, .getfield 26, 3), (22, .iload_n 3, 1), (23, .iaload, 1), (24, .istore 4, 2), (26, .iconst 2, 1), (27, .iload 4, 2), (29, .imul, 1), (30, .iload_n 2, 1)] rfl (by decide +kernel) rfl (by exact (And.intro rfl (And.intro rfl (And.intro (And.intro rfl rfl) (And.intro h0 (And.intro h1 trivial))))))) ?_; exact (ex_brN (M := 8) (pc := 31) (i := .if_icmp .ge 31) (n := 3) _ (by decide +kernel) (fun _ => rfl) rfl Int.not_lt.symm))
theorem b8_34 {sa sb : Nat} {iv : mIv} {Q : Option mV → mIv → mRv → Prop} {x1 x2 x3 x4 : Int} {b : Nat} (hb : b = 24 ∨ b = 45) : Ex 8 34 [some (.inr (.inr (some b))), some (.inl x1), some (.inl x2), some (.inl x3), some (.inl x4)] [] iv (RV sa sb) Q = Ex 11 0 [some (.inr (.inr (some b))), some (.inl x3), some (.inl 1), some (.inl x1), none, none, none, none] [] iv (RV sa sb) (fun v iv2 rv2 => Ex 8 41 [some (.inr (.inr (some b))), some (.inl x1), some (.inl x2), some (.inl x3), some (.inl x4)] (mpush v []) iv2 rv2 Q) := by
  rcases hb with rfl | rfl
  all_goals (refine Eq.trans (ex_blkT 0 [(34, .aload_n 0, 1), (35, .iload_n 3, 1), (36, .iconst 1, 1), (37, .iload_n 1, 1)] rfl (by decide +kernel) rfl (by exact trivial)) ?_; exact (Eq.trans (ex_calT (M := 8) (pc := 38) (i := .invokevirtual 126) (n := 3) (F := 2) (Lc := 50) (o := 0) (nl := 8) (by decide +kernel) rfl rfl rfl rfl rfl rfl rfl (by exact (And.intro rfl trivial))) rfl))
theorem b8_41 {sa sb : Nat} {iv : mIv} {Q : Option mV → mIv → mRv → Prop} {x1 x2 x3 x4 xs0 : Int} {b : Nat} (hb : b = 24 ∨ b = 45) : Ex 8 41 [some (.inr (.inr (some b))), some (.inl x1), some (.inl x2), some (.inl x3), some (.inl x4)] [.inl xs0] iv (RV sa sb) Q = (if xs0 = 0 then Ex 8 62 [some (.inr (.inr (some b))), some (.inl x1), some (.inl x2), some (.inl x3), some (.inl x4)] [] iv (RV sa sb) Q else Ex 8 44 [some (.inr (.inr (some b))), some (.inl x1), some (.inl x2), some (.inl x3), some (.inl x4)] [] iv (RV sa sb) Q) := by
  rcases hb with rfl | rfl
  all_goals exact (ex_brI (M := 8) (pc := 41) (i := .ifCond .eq 21) (n := 3) _ (by decide +kernel) (fun _ => rfl) rfl Iff.rfl)
theorem b8_44 {sa sb : Nat} {iv : mIv} {Q : Option mV → mIv → mRv → Prop} {x1 x2 x3 x4 : Int} {b : Nat} (hb : b = 24 ∨ b = 45) : Ex 8 44 [some (.inr (.inr (some b))), some (.inl x1), some (.inl x2), some (.inl x3), some (.inl x4)] [] iv (RV sa sb) Q = Ex 8 99 [some (.inr (.inr (some b))), some (.inl x1), some (.inl (w32 (2 * x4))), some (.inl x3), some (.inl x4)] [] (st2 (st2 iv b 14 x3) b 15 1) (RV sa sb) Q := by
  rcases hb with rfl | rfl
  all_goals (refine Eq.trans (ex_blkT 0 [(44, .iconst 2, 1), (45, .iload 4, 2), (47, .imul, 1), (48, .istore_n 2, 1), (49, .aload_n 0, 1), (50, .iload_n 3, 1), (51, .putfield 130, 3), (54, .aload_n 0, 1), (55, .iconst 1, 1), (56, .putfield 133, 3), (59, .goto 40, 3)] rfl (by decide +kernel) rfl (by exact (And.intro rfl (And.intro rfl trivial)))) ?_; rfl)
theorem b8_62 {sa sb : Nat} {iv : mIv} {Q : Option mV → mIv → mRv → Prop} {x1 x2 x3 x4 : Int} {b : Nat} (hb : b = 24 ∨ b = 45) : Ex 8 62 [some (.inr (.inr (some b))), some (.inl x1), some (.inl x2), some (.inl x3), some (.inl x4)] [] iv (RV sa sb) Q = (if w32 ((w32 (2 * x4)) + 1) < x2 then Ex 8 72 [some (.inr (.inr (some b))), some (.inl x1), some (.inl x2), some (.inl x3), some (.inl x4)] [] iv (RV sa sb) Q else Ex 8 99 [some (.inr (.inr (some b))), some (.inl x1), some (.inl x2), some (.inl x3), some (.inl x4)] [] iv (RV sa sb) Q) := by
  rcases hb with rfl | rfl
  all_goals (refine Eq.trans (ex_blkT 0 [(62, .iconst 2, 1), (63, .iload 4, 2), (65, .imul, 1), (66, .iconst 1, 1), (67, .iadd, 1), (68, .iload_n 2, 1)] rfl (by decide +kernel) rfl (by exact trivial)) ?_; exact (ex_brN (M := 8) (pc := 69) (i := .if_icmp .ge 30) (n := 3) _ (by decide +kernel) (fun _ => rfl) rfl Int.not_lt.symm))
theorem b8_72 {sa sb : Nat} {iv : mIv} {Q : Option mV → mIv → mRv → Prop} {x1 x2 x3 x4 : Int} {b : Nat} (hb : b = 24 ∨ b = 45) : Ex 8 72 [some (.inr (.inr (some b))), some (.inl x1), some (.inl x2), some (.inl x3), some (.inl x4)] [] iv (RV sa sb) Q = Ex 11 0 [some (.inr (.inr (some b))), some (.inl x3), some (.inl (-1)), some (.inl x1), none, none, none, none] [] iv (RV sa sb) (fun v iv2 rv2 => Ex 8 79 [some (.inr (.inr (some b))), some (.inl x1), some (.inl x2), some (.inl x3), some (.inl x4)] (mpush v []) iv2 rv2 Q) := by
  rcases hb with rfl | rfl
  all_goals (refine Eq.trans (ex_blkT 0 [(72, .aload_n 0, 1), (73, .iload_n 3, 1), (74, .iconst (-1), 1), (75, .iload_n 1, 1)] rfl (by decide +kernel) rfl (by exact trivial)) ?_; exact (Eq.trans (ex_calT (M := 8) (pc := 76) (i := .invokevirtual 126) (n := 3) (F := 2) (Lc := 50) (o := 0) (nl := 8) (by decide +kernel) rfl rfl rfl rfl rfl rfl rfl (by exact (And.intro rfl trivial))) rfl))
theorem b8_79 {sa sb : Nat} {iv : mIv} {Q : Option mV → mIv → mRv → Prop} {x1 x2 x3 x4 xs0 : Int} {b : Nat} (hb : b = 24 ∨ b = 45) : Ex 8 79 [some (.inr (.inr (some b))), some (.inl x1), some (.inl x2), some (.inl x3), some (.inl x4)] [.inl xs0] iv (RV sa sb) Q = (if xs0 = 0 then Ex 8 99 [some (.inr (.inr (some b))), some (.inl x1), some (.inl x2), some (.inl x3), some (.inl x4)] [] iv (RV sa sb) Q else Ex 8 82 [some (.inr (.inr (some b))), some (.inl x1), some (.inl x2), some (.inl x3), some (.inl x4)] [] iv (RV sa sb) Q) := by
  rcases hb with rfl | rfl
  all_goals exact (ex_brI (M := 8) (pc := 79) (i := .ifCond .eq 20) (n := 3) _ (by decide +kernel) (fun _ => rfl) rfl Iff.rfl)
theorem b8_82 {sa sb : Nat} {iv : mIv} {Q : Option mV → mIv → mRv → Prop} {x1 x2 x3 x4 : Int} {b : Nat} (hb : b = 24 ∨ b = 45) : Ex 8 82 [some (.inr (.inr (some b))), some (.inl x1), some (.inl x2), some (.inl x3), some (.inl x4)] [] iv (RV sa sb) Q = Ex 8 99 [some (.inr (.inr (some b))), some (.inl x1), some (.inl (w32 ((w32 (2 * x4)) + 1))), some (.inl x3), some (.inl x4)] [] (st2 (st2 iv b 14 x3) b 15 (-1)) (RV sa sb) Q := by
  rcases hb with rfl | rfl
  all_goals (refine Eq.trans (ex_blkT 0 [(82, .iconst 2, 1), (83, .iload 4, 2), (85, .imul, 1), (86, .iconst 1, 1), (87, .iadd, 1), (88, .istore_n 2, 1), (89, .aload_n 0, 1), (90, .iload_n 3, 1), (91, .putfield 130, 3), (94, .aload_n 0, 1), (95, .iconst (-1), 1), (96, .putfield 133, 3)] rfl (by decide +kernel) rfl (by exact (And.intro rfl (And.intro rfl trivial)))) ?_; rfl)
theorem b8_99 {sa sb : Nat} {iv : mIv} {Q : Option mV → mIv → mRv → Prop} {x1 x2 x3 x4 : Int} {b : Nat} (hb : b = 24 ∨ b = 45) : Ex 8 99 [some (.inr (.inr (some b))), some (.inl x1), some (.inl x2), some (.inl x3), some (.inl x4)] [] iv (RV sa sb) Q = Ex 8 10 [some (.inr (.inr (some b))), some (.inl x1), some (.inl x2), some (.inl (w32 (x3 + 1))), some (.inl x4)] [] iv (RV sa sb) Q := by
  rcases hb with rfl | rfl
  all_goals (refine Eq.trans (ex_blkT 0 [(99, .iinc 3 1, 3), (102, .goto (-92), 3)] rfl (by decide +kernel) rfl (by exact trivial)) ?_; rfl)
theorem b8_105 {sa sb : Nat} {iv : mIv} {Q : Option mV → mIv → mRv → Prop} {x1 x2 x3 : Int} {b : Nat} {u4 : Option mV} (hb : b = 24 ∨ b = 45) : Ex 8 105 [some (.inr (.inr (some b))), some (.inl x1), some (.inl x2), some (.inl x3), u4] [] iv (RV sa sb) Q = (if x2 < 28 then Ex 8 111 [some (.inr (.inr (some b))), some (.inl x1), some (.inl x2), some (.inl x3), u4] [] iv (RV sa sb) Q else Ex 8 115 [some (.inr (.inr (some b))), some (.inl x1), some (.inl x2), some (.inl x3), u4] [] iv (RV sa sb) Q) := by
  rcases hb with rfl | rfl
  all_goals (refine Eq.trans (ex_blkT 0 [(105, .iload_n 2, 1), (106, .bipush 28, 2)] rfl (by decide +kernel) rfl (by exact trivial)) ?_; exact (ex_brN (M := 8) (pc := 108) (i := .if_icmp .ge 7) (n := 3) _ (by decide +kernel) (fun _ => rfl) rfl Int.not_lt.symm))
theorem b8_111 {sa sb : Nat} {iv : mIv} {Q : Option mV → mIv → mRv → Prop} {x1 x2 x3 : Int} {b : Nat} {u4 : Option mV} (hb : b = 24 ∨ b = 45) : Ex 8 111 [some (.inr (.inr (some b))), some (.inl x1), some (.inl x2), some (.inl x3), u4] [] iv (RV sa sb) Q = Ex 8 116 [some (.inr (.inr (some b))), some (.inl x1), some (.inl x2), some (.inl x3), u4] [.inl 1] iv (RV sa sb) Q := by
  rcases hb with rfl | rfl
  all_goals (refine Eq.trans (ex_blkT 0 [(111, .iconst 1, 1), (112, .goto 4, 3)] rfl (by decide +kernel) rfl (by exact trivial)) ?_; rfl)
theorem b8_115 {sa sb : Nat} {iv : mIv} {Q : Option mV → mIv → mRv → Prop} {x1 x2 x3 : Int} {b : Nat} {u4 : Option mV} (hb : b = 24 ∨ b = 45) : Ex 8 115 [some (.inr (.inr (some b))), some (.inl x1), some (.inl x2), some (.inl x3), u4] [] iv (RV sa sb) Q = Ex 8 116 [some (.inr (.inr (some b))), some (.inl x1), some (.inl x2), some (.inl x3), u4] [.inl 0] iv (RV sa sb) Q := by
  rcases hb with rfl | rfl
  all_goals (refine Eq.trans (ex_blkT 0 [(115, .iconst 0, 1)] rfl (by decide +kernel) rfl (by exact trivial)) ?_; rfl)
theorem b8_116 {sa sb : Nat} {iv : mIv} {Q : Option mV → mIv → mRv → Prop} {x1 x2 x3 xs0 : Int} {b : Nat} {u4 : Option mV} (hb : b = 24 ∨ b = 45) (hz : xs0 = 0 ∨ xs0 = 1) : Ex 8 116 [some (.inr (.inr (some b))), some (.inl x1), some (.inl x2), some (.inl x3), u4] [.inl xs0] iv (RV sa sb) Q = Q (some (.inl xs0)) iv (RV sa sb) := by
  rcases hb with rfl | rfl
  all_goals exact (ex_retT (M := 8) (pc := 116) (i := .ireturn) (n := 1) (rt := some .boolean) (by decide +kernel) (fun _ => rfl) rfl (fun _ _ _ => rfl) rfl rfl (by exact (And.intro hz trivial)))
theorem b9_0 {sa sb : Nat} {iv : mIv} {Q : Option mV → mIv → mRv → Prop} {x1 : Int} {b : Nat} (hb : b = 24 ∨ b = 45) : Ex 9 0 [some (.inr (.inr (some b))), some (.inl x1), none, none, none, none, none] [] iv (RV sa sb) Q = Ex 102 0 [some (.inr (.inr (some (b + 20)))), some (.inr (.inl 0)), none, none, none] [] iv (RV sa sb) (fun v iv2 rv2 => Ex 9 8 [some (.inr (.inr (some b))), some (.inl x1), none, none, none, none, none] (mpush v []) iv2 rv2 Q) := by
  rcases hb with rfl | rfl
  all_goals (refine Eq.trans (ex_blkT 0 [(0, .aload_n 0, 1), (1, .getfield 49, 3), (4, .lconst 0, 1)] rfl (by decide +kernel) rfl (by exact (And.intro rfl (And.intro rfl trivial)))) ?_; exact (Eq.trans (ex_calT (M := 9) (pc := 5) (i := .invokestatic 136) (n := 3) (F := 1) (Lc := 24) (o := 0) (nl := 5) (by decide +kernel) rfl rfl rfl rfl rfl rfl rfl (by exact trivial)) rfl))
theorem b9_8 {sa sb : Nat} {iv : mIv} {Q : Option mV → mIv → mRv → Prop} {x1 : Int} {b : Nat} (hb : b = 24 ∨ b = 45) : Ex 9 8 [some (.inr (.inr (some b))), some (.inl x1), none, none, none, none, none] [] iv (RV sa sb) Q = Ex 9 10 [some (.inr (.inr (some b))), some (.inl x1), some (.inl 0), none, none, none, none] [] iv (RV sa sb) Q := by
  rcases hb with rfl | rfl
  all_goals (refine Eq.trans (ex_blkT 0 [(8, .iconst 0, 1), (9, .istore_n 2, 1)] rfl (by decide +kernel) rfl (by exact trivial)) ?_; rfl)
theorem b9_10 {sa sb : Nat} {iv : mIv} {Q : Option mV → mIv → mRv → Prop} {x1 x2 : Int} {b : Nat} {u3 u4 u6 : Option mV} (hb : b = 24 ∨ b = 45) : Ex 9 10 [some (.inr (.inr (some b))), some (.inl x1), some (.inl x2), u3, u4, none, u6] [] iv (RV sa sb) Q = (if x2 < iv b 2 then Ex 9 18 [some (.inr (.inr (some b))), some (.inl x1), some (.inl x2), u3, u4, none, u6] [] iv (RV sa sb) Q else Ex 9 99 [some (.inr (.inr (some b))), some (.inl x1), some (.inl x2), u3, u4, none, u6] [] iv (RV sa sb) Q) := by
  rcases hb with rfl | rfl
  all_goals (refine Eq.trans (ex_blkT 0 [(10, .iload_n 2, 1), (11, .aload_n 0, 1), (12, .getfield 62, 3)] rfl (by decide +kernel) rfl (by exact (And.intro rfl trivial))) ?_; exact (ex_brN (M := 9) (pc := 15) (i := .if_icmp .ge 84) (n := 3) _ (by decide +kernel) (fun _ => rfl) rfl Int.not_lt.symm))
set_option maxHeartbeats 8000000 in
theorem b9_18 {sa sb : Nat} {iv : mIv} {Q : Option mV → mIv → mRv → Prop} {x1 x2 : Int} {b : Nat} {u3 u4 u6 : Option mV} (hb : b = 24 ∨ b = 45) (h0 : 0 ≤ x2) (h1 : x2 < 9) (h2 : 0 ≤ iv (b + 2) x2.toNat) (h3 : iv (b + 2) x2.toNat < 14) : Ex 9 18 [some (.inr (.inr (some b))), some (.inl x1), some (.inl x2), u3, u4, none, u6] [] iv (RV sa sb) Q = Ex 10 0 [some (.inr (.inr (some b))), some (.inl x2)] [] iv (RV sa sb) (fun v iv2 rv2 => Ex 9 35 [some (.inr (.inr (some b))), some (.inl x1), some (.inl x2), some (.inl (iv (b + 17) (iv (b + 2) x2.toNat).toNat)), u4, none, u6] (mpush v []) iv2 rv2 Q) := by
  rcases hb with rfl | rfl
  all_goals (refine Eq.trans (ex_blkT 0 [(18, .aload_n 0, 1), (19, .getfield 40, 3), (22, .aload_n 0, 1), (23, .getfield 19, 3), (26, .iload_n 2, 1), (27, .iaload, 1), (28, .iaload, 1), (29, .istore_n 3, 1), (30, .aload_n 0, 1), (31, .iload_n 2, 1)] rfl (by decide +kernel) rfl (by exact (And.intro rfl (And.intro rfl (And.intro rfl (And.intro rfl (And.intro (And.intro rfl rfl) (And.intro h0 (And.intro h1 (And.intro (And.intro rfl rfl) (And.intro h2 (And.intro h3 trivial)))))))))))) ?_; exact (Eq.trans (ex_calT (M := 9) (pc := 32) (i := .invokevirtual 92) (n := 3) (F := 1) (Lc := 24) (o := 0) (nl := 2) (by decide +kernel) rfl rfl rfl rfl rfl rfl rfl (by exact (And.intro rfl trivial))) rfl))
theorem b9_35 {sa sb : Nat} {iv : mIv} {Q : Option mV → mIv → mRv → Prop} {x1 x2 x3 xs0 : Int} {b : Nat} {u4 u6 : Option mV} (hb : b = 24 ∨ b = 45) : Ex 9 35 [some (.inr (.inr (some b))), some (.inl x1), some (.inl x2), some (.inl x3), u4, none, u6] [.inr (.inl xs0)] iv (RV sa sb) Q = (if xs0 = 0 then Ex 9 93 [some (.inr (.inr (some b))), some (.inl x1), some (.inl x2), some (.inl x3), some (.inr (.inl xs0)), none, u6] [] iv (RV sa sb) Q else Ex 9 44 [some (.inr (.inr (some b))), some (.inl x1), some (.inl x2), some (.inl x3), some (.inr (.inl xs0)), none, u6] [] iv (RV sa sb) Q) := by
  rcases hb with rfl | rfl
  all_goals (refine Eq.trans (ex_blkT 0 [(35, .lstore 4, 2), (37, .lload 4, 2), (39, .lconst 0, 1), (40, .lcmp, 1)] rfl (by decide +kernel) rfl (by exact trivial)) ?_; exact (ex_brI (M := 9) (pc := 41) (i := .ifCond .eq 52) (n := 3) _ (by decide +kernel) (fun _ => rfl) rfl (lc_eq _ _)))
theorem b9_44 {sa sb : Nat} {iv : mIv} {Q : Option mV → mIv → mRv → Prop} {x1 x2 x3 x4 : Int} {b : Nat} {u6 : Option mV} (hb : b = 24 ∨ b = 45) : Ex 9 44 [some (.inr (.inr (some b))), some (.inl x1), some (.inl x2), some (.inl x3), some (.inr (.inl x4)), none, u6] [] iv (RV sa sb) Q = (if x3 < x1 then Ex 9 49 [some (.inr (.inr (some b))), some (.inl x1), some (.inl x2), some (.inl x3), some (.inr (.inl x4)), none, u6] [] iv (RV sa sb) Q else Ex 9 93 [some (.inr (.inr (some b))), some (.inl x1), some (.inl x2), some (.inl x3), some (.inr (.inl x4)), none, u6] [] iv (RV sa sb) Q) := by
  rcases hb with rfl | rfl
  all_goals (refine Eq.trans (ex_blkT 0 [(44, .iload_n 3, 1), (45, .iload_n 1, 1)] rfl (by decide +kernel) rfl (by exact trivial)) ?_; exact (ex_brN (M := 9) (pc := 46) (i := .if_icmp .ge 47) (n := 3) _ (by decide +kernel) (fun _ => rfl) rfl Int.not_lt.symm))
theorem b9_49 {sa sb : Nat} {iv : mIv} {Q : Option mV → mIv → mRv → Prop} {x1 x2 x3 x4 : Int} {b : Nat} {u6 : Option mV} (hb : b = 24 ∨ b = 45) : Ex 9 49 [some (.inr (.inr (some b))), some (.inl x1), some (.inl x2), some (.inl x3), some (.inr (.inl x4)), none, u6] [] iv (RV sa sb) Q = Ex 9 52 [some (.inr (.inr (some b))), some (.inl x1), some (.inl x2), some (.inl x3), some (.inr (.inl x4)), none, some (.inl 0)] [] iv (RV sa sb) Q := by
  rcases hb with rfl | rfl
  all_goals (refine Eq.trans (ex_blkT 0 [(49, .iconst 0, 1), (50, .istore 6, 2)] rfl (by decide +kernel) rfl (by exact trivial)) ?_; rfl)
theorem b9_52 {sa sb : Nat} {iv : mIv} {Q : Option mV → mIv → mRv → Prop} {x1 x2 x3 x4 x6 : Int} {b : Nat} (hb : b = 24 ∨ b = 45) : Ex 9 52 [some (.inr (.inr (some b))), some (.inl x1), some (.inl x2), some (.inl x3), some (.inr (.inl x4)), none, some (.inl x6)] [] iv (RV sa sb) Q = (if x6 < iv b 3 then Ex 9 61 [some (.inr (.inr (some b))), some (.inl x1), some (.inl x2), some (.inl x3), some (.inr (.inl x4)), none, some (.inl x6)] [] iv (RV sa sb) Q else Ex 9 93 [some (.inr (.inr (some b))), some (.inl x1), some (.inl x2), some (.inl x3), some (.inr (.inl x4)), none, some (.inl x6)] [] iv (RV sa sb) Q) := by
  rcases hb with rfl | rfl
  all_goals (refine Eq.trans (ex_blkT 0 [(52, .iload 6, 2), (54, .aload_n 0, 1), (55, .getfield 58, 3)] rfl (by decide +kernel) rfl (by exact (And.intro rfl trivial))) ?_; exact (ex_brN (M := 9) (pc := 58) (i := .if_icmp .ge 35) (n := 3) _ (by decide +kernel) (fun _ => rfl) rfl Int.not_lt.symm))
set_option maxHeartbeats 8000000 in
theorem b9_61 {sa sb : Nat} {iv : mIv} {Q : Option mV → mIv → mRv → Prop} {x1 x2 x3 x4 x6 : Int} {b : Nat} (hb : b = 24 ∨ b = 45) (h0 : 0 ≤ w32 ((w32 (x3 * 5)) + x6)) (h1 : w32 ((w32 (x3 * 5)) + x6) < 45) (h2 : 0 ≤ x2) (h3 : x2 < 9) (h4 : 0 ≤ x6) (h5 : x6 < 5) : Ex 9 61 [some (.inr (.inr (some b))), some (.inl x1), some (.inl x2), some (.inl x3), some (.inr (.inl x4)), none, some (.inl x6)] [] iv (RV sa sb) Q = Ex 9 52 [some (.inr (.inr (some b))), some (.inl x1), some (.inl x2), some (.inl x3), some (.inr (.inl x4)), none, some (.inl (w32 (x6 + 1)))] [] (st2 iv (b + 20) (w32 ((w32 (x3 * 5)) + x6)).toNat (w64 ((iv (b + 20) (w32 ((w32 (x3 * 5)) + x6)).toNat) + (w64 (x4 * (iv (b + 7 + x2.toNat) x6.toNat)))))) (RV sa sb) Q := by
  rcases hb with rfl | rfl
  all_goals (refine Eq.trans (ex_blkT 0 [(61, .aload_n 0, 1), (62, .getfield 49, 3), (65, .iload_n 3, 1), (66, .iconst 5, 1), (67, .imul, 1), (68, .iload 6, 2), (70, .iadd, 1), (71, .dup2, 1), (72, .laload, 1), (73, .lload 4, 2), (75, .aload_n 0, 1), (76, .getfield 34, 3), (79, .iload_n 2, 1), (80, .aaload, 1), (81, .iload 6, 2), (83, .laload, 1), (84, .lmul, 1), (85, .ladd, 1), (86, .lastore, 1), (87, .iinc 6 1, 3), (90, .goto (-38), 3)] rfl (by decide +kernel) rfl (by exact (And.intro rfl (And.intro rfl (And.intro (And.intro rfl rfl) (And.intro h0 (And.intro h1 (And.intro rfl (And.intro rfl (And.intro rfl (And.intro h2 (And.intro h3 (And.intro rfl (And.intro (by first | exact isA_r24 (by omega) | exact isA_r45 (by omega)) (And.intro h4 (And.intro (by first | exact lt_r24 (by omega) h5 | exact lt_r45 (by omega) h5) (And.intro (And.intro rfl rfl) (And.intro h0 (And.intro h1 trivial))))))))))))))))))) ?_; rfl)
theorem b9_93 {sa sb : Nat} {iv : mIv} {Q : Option mV → mIv → mRv → Prop} {x1 x2 x3 x4 : Int} {b : Nat} {u6 : Option mV} (hb : b = 24 ∨ b = 45) : Ex 9 93 [some (.inr (.inr (some b))), some (.inl x1), some (.inl x2), some (.inl x3), some (.inr (.inl x4)), none, u6] [] iv (RV sa sb) Q = Ex 9 10 [some (.inr (.inr (some b))), some (.inl x1), some (.inl (w32 (x2 + 1))), some (.inl x3), some (.inr (.inl x4)), none, u6] [] iv (RV sa sb) Q := by
  rcases hb with rfl | rfl
  all_goals (refine Eq.trans (ex_blkT 0 [(93, .iinc 2 1, 3), (96, .goto (-86), 3)] rfl (by decide +kernel) rfl (by exact trivial)) ?_; rfl)
theorem b9_99 {sa sb : Nat} {iv : mIv} {Q : Option mV → mIv → mRv → Prop} {x1 x2 : Int} {b : Nat} {u3 u4 u6 : Option mV} (hb : b = 24 ∨ b = 45) : Ex 9 99 [some (.inr (.inr (some b))), some (.inl x1), some (.inl x2), u3, u4, none, u6] [] iv (RV sa sb) Q = Q none iv (RV sa sb) := by
  rcases hb with rfl | rfl
  all_goals exact (ex_retT (M := 9) (pc := 99) (i := .return_) (n := 1) (rt := none) (by decide +kernel) (fun _ => rfl) rfl (fun _ _ _ => rfl) rfl rfl (by exact trivial))
theorem b10_0 {sa sb : Nat} {iv : mIv} {Q : Option mV → mIv → mRv → Prop} {x1 : Int} {b : Nat} (hb : b = 24 ∨ b = 45) (h0 : 0 ≤ x1) (h1 : x1 < 9) : Ex 10 0 [some (.inr (.inr (some b))), some (.inl x1)] [] iv (RV sa sb) Q = (if 0 < iv (b + 3) x1.toNat then Ex 10 9 [some (.inr (.inr (some b))), some (.inl x1)] [] iv (RV sa sb) Q else Ex 10 24 [some (.inr (.inr (some b))), some (.inl x1)] [] iv (RV sa sb) Q) := by
  rcases hb with rfl | rfl
  all_goals (refine Eq.trans (ex_blkT 0 [(0, .aload_n 0, 1), (1, .getfield 23, 3), (4, .iload_n 1, 1), (5, .iaload, 1)] rfl (by decide +kernel) rfl (by exact (And.intro rfl (And.intro rfl (And.intro (And.intro rfl rfl) (And.intro h0 (And.intro h1 trivial))))))) ?_; exact (ex_brN (M := 10) (pc := 6) (i := .ifCond .le 18) (n := 3) _ (by decide +kernel) (fun _ => rfl) rfl Int.not_lt.symm))
set_option maxHeartbeats 8000000 in
theorem b10_9 {sa sb : Nat} {iv : mIv} {Q : Option mV → mIv → mRv → Prop} {x1 : Int} {b : Nat} (hb : b = 24 ∨ b = 45) (h0 : 0 ≤ x1) (h1 : x1 < 9) (h2 : 0 ≤ iv (b + 2) x1.toNat) (h3 : iv (b + 2) x1.toNat < 14) : Ex 10 9 [some (.inr (.inr (some b))), some (.inl x1)] [] iv (RV sa sb) Q = Ex 10 37 [some (.inr (.inr (some b))), some (.inl x1)] [.inr (.inl (iv (b + 18) (iv (b + 2) x1.toNat).toNat))] iv (RV sa sb) Q := by
  rcases hb with rfl | rfl
  all_goals (refine Eq.trans (ex_blkT 0 [(9, .aload_n 0, 1), (10, .getfield 43, 3), (13, .aload_n 0, 1), (14, .getfield 19, 3), (17, .iload_n 1, 1), (18, .iaload, 1), (19, .iaload, 1), (20, .i2l, 1), (21, .goto 16, 3)] rfl (by decide +kernel) rfl (by exact (And.intro rfl (And.intro rfl (And.intro rfl (And.intro rfl (And.intro (And.intro rfl rfl) (And.intro h0 (And.intro h1 (And.intro (And.intro rfl rfl) (And.intro h2 (And.intro h3 trivial)))))))))))) ?_; rfl)
set_option maxHeartbeats 8000000 in
theorem b10_24 {sa sb : Nat} {iv : mIv} {Q : Option mV → mIv → mRv → Prop} {x1 : Int} {b : Nat} (hb : b = 24 ∨ b = 45) (h0 : 0 ≤ x1) (h1 : x1 < 9) (h2 : 0 ≤ iv (b + 2) x1.toNat) (h3 : iv (b + 2) x1.toNat < 14) : Ex 10 24 [some (.inr (.inr (some b))), some (.inl x1)] [] iv (RV sa sb) Q = Ex 10 37 [some (.inr (.inr (some b))), some (.inl x1)] [.inr (.inl (w32 (-(iv (b + 19) (iv (b + 2) x1.toNat).toNat))))] iv (RV sa sb) Q := by
  rcases hb with rfl | rfl
  all_goals (refine Eq.trans (ex_blkT 0 [(24, .aload_n 0, 1), (25, .getfield 46, 3), (28, .aload_n 0, 1), (29, .getfield 19, 3), (32, .iload_n 1, 1), (33, .iaload, 1), (34, .iaload, 1), (35, .ineg, 1), (36, .i2l, 1)] rfl (by decide +kernel) rfl (by exact (And.intro rfl (And.intro rfl (And.intro rfl (And.intro rfl (And.intro (And.intro rfl rfl) (And.intro h0 (And.intro h1 (And.intro (And.intro rfl rfl) (And.intro h2 (And.intro h3 trivial)))))))))))) ?_; rfl)
theorem b10_37 {sa sb : Nat} {iv : mIv} {Q : Option mV → mIv → mRv → Prop} {x1 xs0 : Int} {b : Nat} (hb : b = 24 ∨ b = 45) : Ex 10 37 [some (.inr (.inr (some b))), some (.inl x1)] [.inr (.inl xs0)] iv (RV sa sb) Q = Q (some (.inr (.inl xs0))) iv (RV sa sb) := by
  rcases hb with rfl | rfl
  all_goals exact (ex_retT (M := 10) (pc := 37) (i := .lreturn) (n := 1) (rt := some .long) (by decide +kernel) (fun _ => rfl) rfl (fun _ _ _ => rfl) rfl rfl (by exact trivial))
theorem b11_0 {sa sb : Nat} {iv : mIv} {Q : Option mV → mIv → mRv → Prop} {x1 x2 x3 : Int} {b : Nat} (hb : b = 24 ∨ b = 45) (h0 : 0 ≤ x1) (h1 : x1 < 5) : Ex 11 0 [some (.inr (.inr (some b))), some (.inl x1), some (.inl x2), some (.inl x3), none, none, none, none] [] iv (RV sa sb) Q = Ex 11 11 [some (.inr (.inr (some b))), some (.inl x1), some (.inl x2), some (.inl x3), some (.inl (iv (b + 4) x1.toNat)), some (.inl 0), none, none] [] iv (RV sa sb) Q := by
  rcases hb with rfl | rfl
  all_goals (refine Eq.trans (ex_blkT 0 [(0, .aload_n 0, 1), (1, .getfield 26, 3), (4, .iload_n 1, 1), (5, .iaload, 1), (6, .istore 4, 2), (8, .iconst 0, 1), (9, .istore 5, 2)] rfl (by decide +kernel) rfl (by exact (And.intro rfl (And.intro rfl (And.intro (And.intro rfl rfl) (And.intro h0 (And.intro h1 trivial))))))) ?_; rfl)
theorem b11_11 {sa sb : Nat} {iv : mIv} {Q : Option mV → mIv → mRv → Prop} {x1 x2 x3 x4 x5 : Int} {b : Nat} {u6 : Option mV} (hb : b = 24 ∨ b = 45) : Ex 11 11 [some (.inr (.inr (some b))), some (.inl x1), some (.inl x2), some (.inl x3), some (.inl x4), some (.inl x5), u6, none] [] iv (RV sa sb) Q = (if x5 < x3 then Ex 11 17 [some (.inr (.inr (some b))), some (.inl x1), some (.inl x2), some (.inl x3), some (.inl x4), some (.inl x5), u6, none] [] iv (RV sa sb) Q else Ex 11 103 [some (.inr (.inr (some b))), some (.inl x1), some (.inl x2), some (.inl x3), some (.inl x4), some (.inl x5), u6, none] [] iv (RV sa sb) Q) := by
  rcases hb with rfl | rfl
  all_goals (refine Eq.trans (ex_blkT 0 [(11, .iload 5, 2), (13, .iload_n 3, 1)] rfl (by decide +kernel) rfl (by exact trivial)) ?_; exact (ex_brN (M := 11) (pc := 14) (i := .if_icmp .ge 89) (n := 3) _ (by decide +kernel) (fun _ => rfl) rfl Int.not_lt.symm))
set_option maxHeartbeats 8000000 in
theorem b11_17 {sa sb : Nat} {iv : mIv} {Q : Option mV → mIv → mRv → Prop} {x1 x2 x3 x4 x5 : Int} {b : Nat} {u6 : Option mV} (hb : b = 24 ∨ b = 45) (h0 : 0 ≤ w32 ((w32 (x5 * 5)) + x1)) (h1 : w32 ((w32 (x5 * 5)) + x1) < 45) (h2 : 0 ≤ x4) (h3 : x4 < 14) : Ex 11 17 [some (.inr (.inr (some b))), some (.inl x1), some (.inl x2), some (.inl x3), some (.inl x4), some (.inl x5), u6, none] [] iv (RV sa sb) Q = (if x5 = iv (b + 17) x4.toNat then Ex 11 45 [some (.inr (.inr (some b))), some (.inl x1), some (.inl x2), some (.inl x3), some (.inl x4), some (.inl x5), some (.inr (.inl (w64 (x2 * (iv (b + 20) (w32 ((w32 (x5 * 5)) + x1)).toNat))))), none] [] iv (RV sa sb) Q else Ex 11 77 [some (.inr (.inr (some b))), some (.inl x1), some (.inl x2), some (.inl x3), some (.inl x4), some (.inl x5), some (.inr (.inl (w64 (x2 * (iv (b + 20) (w32 ((w32 (x5 * 5)) + x1)).toNat))))), none] [] iv (RV sa sb) Q) := by
  rcases hb with rfl | rfl
  all_goals (refine Eq.trans (ex_blkT 0 [(17, .iload_n 2, 1), (18, .i2l, 1), (19, .aload_n 0, 1), (20, .getfield 49, 3), (23, .iload 5, 2), (25, .iconst 5, 1), (26, .imul, 1), (27, .iload_n 1, 1), (28, .iadd, 1), (29, .laload, 1), (30, .lmul, 1), (31, .lstore 6, 2), (33, .iload 5, 2), (35, .aload_n 0, 1), (36, .getfield 40, 3), (39, .iload 4, 2), (41, .iaload, 1)] rfl (by decide +kernel) rfl (by exact (And.intro rfl (And.intro rfl (And.intro (And.intro rfl rfl) (And.intro h0 (And.intro h1 (And.intro rfl (And.intro rfl (And.intro (And.intro rfl rfl) (And.intro h2 (And.intro h3 trivial)))))))))))) ?_; exact (ex_brN (M := 11) (pc := 42) (i := .if_icmp .ne 35) (n := 3) _ (by decide +kernel) (fun _ => rfl) rfl Iff.rfl))
theorem b11_45 {sa sb : Nat} {iv : mIv} {Q : Option mV → mIv → mRv → Prop} {x1 x2 x3 x4 x5 x6 : Int} {b : Nat} (hb : b = 24 ∨ b = 45) : Ex 11 45 [some (.inr (.inr (some b))), some (.inl x1), some (.inl x2), some (.inl x3), some (.inl x4), some (.inl x5), some (.inr (.inl x6)), none] [] iv (RV sa sb) Q = (if 0 < x2 then Ex 11 55 [some (.inr (.inr (some b))), some (.inl x1), some (.inl x2), some (.inl x3), some (.inl x4), some (.inl x5), some (.inr (.inl x6)), none] [.inr (.inl (iv b 0)), .inr (.inl x6)] iv (RV sa sb) Q else Ex 11 65 [some (.inr (.inr (some b))), some (.inl x1), some (.inl x2), some (.inl x3), some (.inl x4), some (.inl x5), some (.inr (.inl x6)), none] [.inr (.inl (iv b 0)), .inr (.inl x6)] iv (RV sa sb) Q) := by
  rcases hb with rfl | rfl
  all_goals (refine Eq.trans (ex_blkT 0 [(45, .lload 6, 2), (47, .aload_n 0, 1), (48, .getfield 9, 3), (51, .iload_n 2, 1)] rfl (by decide +kernel) rfl (by exact (And.intro rfl trivial))) ?_; exact (ex_brN (M := 11) (pc := 52) (i := .ifCond .le 13) (n := 3) _ (by decide +kernel) (fun _ => rfl) rfl Int.not_lt.symm))
theorem b11_55 {sa sb : Nat} {iv : mIv} {Q : Option mV → mIv → mRv → Prop} {x1 x2 x3 x4 x5 x6 xs0 xs1 : Int} {b : Nat} (hb : b = 24 ∨ b = 45) (h0 : 0 ≤ x4) (h1 : x4 < 14) : Ex 11 55 [some (.inr (.inr (some b))), some (.inl x1), some (.inl x2), some (.inl x3), some (.inl x4), some (.inl x5), some (.inr (.inl x6)), none] [.inr (.inl xs0), .inr (.inl xs1)] iv (RV sa sb) Q = Ex 11 72 [some (.inr (.inr (some b))), some (.inl x1), some (.inl x2), some (.inl x3), some (.inl x4), some (.inl x5), some (.inr (.inl x6)), none] [.inl (iv (b + 18) x4.toNat), .inr (.inl xs0), .inr (.inl xs1)] iv (RV sa sb) Q := by
  rcases hb with rfl | rfl
  all_goals (refine Eq.trans (ex_blkT 0 [(55, .aload_n 0, 1), (56, .getfield 43, 3), (59, .iload 4, 2), (61, .iaload, 1), (62, .goto 10, 3)] rfl (by decide +kernel) rfl (by exact (And.intro rfl (And.intro rfl (And.intro (And.intro rfl rfl) (And.intro h0 (And.intro h1 trivial))))))) ?_; rfl)
theorem b11_65 {sa sb : Nat} {iv : mIv} {Q : Option mV → mIv → mRv → Prop} {x1 x2 x3 x4 x5 x6 xs0 xs1 : Int} {b : Nat} (hb : b = 24 ∨ b = 45) (h0 : 0 ≤ x4) (h1 : x4 < 14) : Ex 11 65 [some (.inr (.inr (some b))), some (.inl x1), some (.inl x2), some (.inl x3), some (.inl x4), some (.inl x5), some (.inr (.inl x6)), none] [.inr (.inl xs0), .inr (.inl xs1)] iv (RV sa sb) Q = Ex 11 72 [some (.inr (.inr (some b))), some (.inl x1), some (.inl x2), some (.inl x3), some (.inl x4), some (.inl x5), some (.inr (.inl x6)), none] [.inl (iv (b + 19) x4.toNat), .inr (.inl xs0), .inr (.inl xs1)] iv (RV sa sb) Q := by
  rcases hb with rfl | rfl
  all_goals (refine Eq.trans (ex_blkT 0 [(65, .aload_n 0, 1), (66, .getfield 46, 3), (69, .iload 4, 2), (71, .iaload, 1)] rfl (by decide +kernel) rfl (by exact (And.intro rfl (And.intro rfl (And.intro (And.intro rfl rfl) (And.intro h0 (And.intro h1 trivial))))))) ?_; rfl)
theorem b11_72 {sa sb : Nat} {iv : mIv} {Q : Option mV → mIv → mRv → Prop} {x1 x2 x3 x4 x5 x6 xs0 xs1 xs2 : Int} {b : Nat} (hb : b = 24 ∨ b = 45) : Ex 11 72 [some (.inr (.inr (some b))), some (.inl x1), some (.inl x2), some (.inl x3), some (.inl x4), some (.inl x5), some (.inr (.inl x6)), none] [.inl xs0, .inr (.inl xs1), .inr (.inl xs2)] iv (RV sa sb) Q = Ex 11 77 [some (.inr (.inr (some b))), some (.inl x1), some (.inl x2), some (.inl x3), some (.inl x4), some (.inl x5), some (.inr (.inl (w64 (xs2 + (w64 (xs1 * xs0)))))), none] [] iv (RV sa sb) Q := by
  rcases hb with rfl | rfl
  all_goals (refine Eq.trans (ex_blkT 0 [(72, .i2l, 1), (73, .lmul, 1), (74, .ladd, 1), (75, .lstore 6, 2)] rfl (by decide +kernel) rfl (by exact trivial)) ?_; rfl)
theorem b11_77 {sa sb : Nat} {iv : mIv} {Q : Option mV → mIv → mRv → Prop} {x1 x2 x3 x4 x5 x6 : Int} {b : Nat} (hb : b = 24 ∨ b = 45) : Ex 11 77 [some (.inr (.inr (some b))), some (.inl x1), some (.inl x2), some (.inl x3), some (.inl x4), some (.inl x5), some (.inr (.inl x6)), none] [] iv (RV sa sb) Q = (if x6 = 0 then Ex 11 97 [some (.inr (.inr (some b))), some (.inl x1), some (.inl x2), some (.inl x3), some (.inl x4), some (.inl x5), some (.inr (.inl x6)), none] [] iv (RV sa sb) Q else Ex 11 84 [some (.inr (.inr (some b))), some (.inl x1), some (.inl x2), some (.inl x3), some (.inl x4), some (.inl x5), some (.inr (.inl x6)), none] [] iv (RV sa sb) Q) := by
  rcases hb with rfl | rfl
  all_goals (refine Eq.trans (ex_blkT 0 [(77, .lload 6, 2), (79, .lconst 0, 1), (80, .lcmp, 1)] rfl (by decide +kernel) rfl (by exact trivial)) ?_; exact (ex_brI (M := 11) (pc := 81) (i := .ifCond .eq 16) (n := 3) _ (by decide +kernel) (fun _ => rfl) rfl (lc_eq _ _)))
theorem b11_84 {sa sb : Nat} {iv : mIv} {Q : Option mV → mIv → mRv → Prop} {x1 x2 x3 x4 x5 x6 : Int} {b : Nat} (hb : b = 24 ∨ b = 45) : Ex 11 84 [some (.inr (.inr (some b))), some (.inl x1), some (.inl x2), some (.inl x3), some (.inl x4), some (.inl x5), some (.inr (.inl x6)), none] [] iv (RV sa sb) Q = (if x6 < 0 then Ex 11 91 [some (.inr (.inr (some b))), some (.inl x1), some (.inl x2), some (.inl x3), some (.inl x4), some (.inl x5), some (.inr (.inl x6)), none] [] iv (RV sa sb) Q else Ex 11 95 [some (.inr (.inr (some b))), some (.inl x1), some (.inl x2), some (.inl x3), some (.inl x4), some (.inl x5), some (.inr (.inl x6)), none] [] iv (RV sa sb) Q) := by
  rcases hb with rfl | rfl
  all_goals (refine Eq.trans (ex_blkT 0 [(84, .lload 6, 2), (86, .lconst 0, 1), (87, .lcmp, 1)] rfl (by decide +kernel) rfl (by exact trivial)) ?_; exact (ex_brN (M := 11) (pc := 88) (i := .ifCond .ge 7) (n := 3) _ (by decide +kernel) (fun _ => rfl) rfl ((lc_ge _ _).trans Int.not_lt.symm)))
theorem b11_91 {sa sb : Nat} {iv : mIv} {Q : Option mV → mIv → mRv → Prop} {x1 x2 x3 x4 x5 x6 : Int} {b : Nat} (hb : b = 24 ∨ b = 45) : Ex 11 91 [some (.inr (.inr (some b))), some (.inl x1), some (.inl x2), some (.inl x3), some (.inl x4), some (.inl x5), some (.inr (.inl x6)), none] [] iv (RV sa sb) Q = Ex 11 96 [some (.inr (.inr (some b))), some (.inl x1), some (.inl x2), some (.inl x3), some (.inl x4), some (.inl x5), some (.inr (.inl x6)), none] [.inl 1] iv (RV sa sb) Q := by
  rcases hb with rfl | rfl
  all_goals (refine Eq.trans (ex_blkT 0 [(91, .iconst 1, 1), (92, .goto 4, 3)] rfl (by decide +kernel) rfl (by exact trivial)) ?_; rfl)
theorem b11_95 {sa sb : Nat} {iv : mIv} {Q : Option mV → mIv → mRv → Prop} {x1 x2 x3 x4 x5 x6 : Int} {b : Nat} (hb : b = 24 ∨ b = 45) : Ex 11 95 [some (.inr (.inr (some b))), some (.inl x1), some (.inl x2), some (.inl x3), some (.inl x4), some (.inl x5), some (.inr (.inl x6)), none] [] iv (RV sa sb) Q = Ex 11 96 [some (.inr (.inr (some b))), some (.inl x1), some (.inl x2), some (.inl x3), some (.inl x4), some (.inl x5), some (.inr (.inl x6)), none] [.inl 0] iv (RV sa sb) Q := by
  rcases hb with rfl | rfl
  all_goals (refine Eq.trans (ex_blkT 0 [(95, .iconst 0, 1)] rfl (by decide +kernel) rfl (by exact trivial)) ?_; rfl)
theorem b11_96 {sa sb : Nat} {iv : mIv} {Q : Option mV → mIv → mRv → Prop} {x1 x2 x3 x4 x5 x6 xs0 : Int} {b : Nat} (hb : b = 24 ∨ b = 45) (hz : xs0 = 0 ∨ xs0 = 1) : Ex 11 96 [some (.inr (.inr (some b))), some (.inl x1), some (.inl x2), some (.inl x3), some (.inl x4), some (.inl x5), some (.inr (.inl x6)), none] [.inl xs0] iv (RV sa sb) Q = Q (some (.inl xs0)) iv (RV sa sb) := by
  rcases hb with rfl | rfl
  all_goals exact (ex_retT (M := 11) (pc := 96) (i := .ireturn) (n := 1) (rt := some .boolean) (by decide +kernel) (fun _ => rfl) rfl (fun _ _ _ => rfl) rfl rfl (by exact (And.intro hz trivial)))
theorem b11_97 {sa sb : Nat} {iv : mIv} {Q : Option mV → mIv → mRv → Prop} {x1 x2 x3 x4 x5 x6 : Int} {b : Nat} (hb : b = 24 ∨ b = 45) : Ex 11 97 [some (.inr (.inr (some b))), some (.inl x1), some (.inl x2), some (.inl x3), some (.inl x4), some (.inl x5), some (.inr (.inl x6)), none] [] iv (RV sa sb) Q = Ex 11 11 [some (.inr (.inr (some b))), some (.inl x1), some (.inl x2), some (.inl x3), some (.inl x4), some (.inl (w32 (x5 + 1))), some (.inr (.inl x6)), none] [] iv (RV sa sb) Q := by
  rcases hb with rfl | rfl
  all_goals (refine Eq.trans (ex_blkT 0 [(97, .iinc 5 1, 3), (100, .goto (-89), 3)] rfl (by decide +kernel) rfl (by exact trivial)) ?_; rfl)
theorem b11_103 {sa sb : Nat} {iv : mIv} {Q : Option mV → mIv → mRv → Prop} {x1 x2 x3 x4 x5 : Int} {b : Nat} {u6 : Option mV} (hb : b = 24 ∨ b = 45) : Ex 11 103 [some (.inr (.inr (some b))), some (.inl x1), some (.inl x2), some (.inl x3), some (.inl x4), some (.inl x5), u6, none] [] iv (RV sa sb) Q = Q (some (.inl 0)) iv (RV sa sb) := by
  rcases hb with rfl | rfl
  all_goals (refine Eq.trans (ex_blkT 0 [(103, .iconst 0, 1)] rfl (by decide +kernel) rfl (by exact trivial)) ?_; exact (ex_retT (M := 11) (pc := 104) (i := .ireturn) (n := 1) (rt := some .boolean) (by decide +kernel) (fun _ => rfl) rfl (fun _ _ _ => rfl) rfl rfl (by exact (And.intro (Or.inl rfl) trivial))))
theorem b12_0 {sa sb : Nat} {iv : mIv} {Q : Option mV → mIv → mRv → Prop} {x1 : Int} {b : Nat} (hb : b = 24 ∨ b = 45) : Ex 12 0 [some (.inr (.inr (some b))), some (.inl x1), none, none, none] [] iv (RV sa sb) Q = Ex 13 0 [some (.inr (.inr (some b))), none, none, none, none, none, none, none, none, none, none, none, none] [] iv (RV sa sb) (fun v iv2 rv2 => Ex 12 4 [some (.inr (.inr (some b))), some (.inl x1), none, none, none] (mpush v []) iv2 rv2 Q) := by
  rcases hb with rfl | rfl
  all_goals (refine Eq.trans (ex_blkT 0 [(0, .aload_n 0, 1)] rfl (by decide +kernel) rfl (by exact trivial)) ?_; exact (Eq.trans (ex_calT (M := 12) (pc := 1) (i := .invokevirtual 142) (n := 3) (F := 2) (Lc := 45) (o := 0) (nl := 13) (by decide +kernel) rfl rfl rfl rfl rfl rfl rfl (by exact (And.intro rfl trivial))) rfl))
theorem b12_4 {sa sb : Nat} {iv : mIv} {Q : Option mV → mIv → mRv → Prop} {x1 xs0 : Int} {b : Nat} (hb : b = 24 ∨ b = 45) : Ex 12 4 [some (.inr (.inr (some b))), some (.inl x1), none, none, none] [.inl xs0] iv (RV sa sb) Q = (if xs0 = (-1) then Ex 12 21 [some (.inr (.inr (some b))), some (.inl x1), some (.inl xs0), none, none] [] iv (RV sa sb) Q else Ex 12 10 [some (.inr (.inr (some b))), some (.inl x1), some (.inl xs0), none, none] [] iv (RV sa sb) Q) := by
  rcases hb with rfl | rfl
  all_goals (refine Eq.trans (ex_blkT 0 [(4, .istore_n 2, 1), (5, .iload_n 2, 1), (6, .iconst (-1), 1)] rfl (by decide +kernel) rfl (by exact trivial)) ?_; exact (ex_brI (M := 12) (pc := 7) (i := .if_icmp .eq 14) (n := 3) _ (by decide +kernel) (fun _ => rfl) rfl Iff.rfl))
theorem b12_10 {sa sb : Nat} {iv : mIv} {Q : Option mV → mIv → mRv → Prop} {x1 x2 : Int} {b : Nat} (hb : b = 24 ∨ b = 45) (h0 : 0 ≤ x2) (h1 : x2 < 9) : Ex 12 10 [some (.inr (.inr (some b))), some (.inl x1), some (.inl x2), none, none] [] iv (RV sa sb) Q = (if iv (b + 5) x2.toNat = 0 then Ex 12 21 [some (.inr (.inr (some b))), some (.inl x1), some (.inl x2), none, none] [] iv (RV sa sb) Q else Ex 12 23 [some (.inr (.inr (some b))), some (.inl x1), some (.inl x2), none, none] [] iv (RV sa sb) Q) := by
  rcases hb with rfl | rfl
  all_goals (refine Eq.trans (ex_blkT 0 [(10, .aload_n 0, 1), (11, .getfield 29, 3), (14, .iload_n 2, 1), (15, .laload, 1), (16, .lconst 0, 1), (17, .lcmp, 1)] rfl (by decide +kernel) rfl (by exact (And.intro rfl (And.intro rfl (And.intro (And.intro rfl rfl) (And.intro h0 (And.intro h1 trivial))))))) ?_; exact (ex_brN (M := 12) (pc := 18) (i := .ifCond .ne 5) (n := 3) _ (by decide +kernel) (fun _ => rfl) rfl (not_congr (lc_eq _ _))))
theorem b12_21 {sa sb : Nat} {iv : mIv} {Q : Option mV → mIv → mRv → Prop} {x1 x2 : Int} {b : Nat} (hb : b = 24 ∨ b = 45) : Ex 12 21 [some (.inr (.inr (some b))), some (.inl x1), some (.inl x2), none, none] [] iv (RV sa sb) Q = Q (some (.inl x2)) iv (RV sa sb) := by
  rcases hb with rfl | rfl
  all_goals (refine Eq.trans (ex_blkT 0 [(21, .iload_n 2, 1)] rfl (by decide +kernel) rfl (by exact trivial)) ?_; exact (ex_retT (M := 12) (pc := 22) (i := .ireturn) (n := 1) (rt := some .int) (by decide +kernel) (fun _ => rfl) rfl (fun _ _ _ => rfl) rfl rfl (by exact trivial)))
theorem b12_23 {sa sb : Nat} {iv : mIv} {Q : Option mV → mIv → mRv → Prop} {x1 x2 : Int} {b : Nat} (hb : b = 24 ∨ b = 45) : Ex 12 23 [some (.inr (.inr (some b))), some (.inl x1), some (.inl x2), none, none] [] iv (RV sa sb) Q = Ex 12 25 [some (.inr (.inr (some b))), some (.inl x1), some (.inl x2), some (.inl 0), none] [] iv (RV sa sb) Q := by
  rcases hb with rfl | rfl
  all_goals (refine Eq.trans (ex_blkT 0 [(23, .iconst 0, 1), (24, .istore_n 3, 1)] rfl (by decide +kernel) rfl (by exact trivial)) ?_; rfl)
theorem b12_25 {sa sb : Nat} {iv : mIv} {Q : Option mV → mIv → mRv → Prop} {x1 x2 x3 : Int} {b : Nat} {u4 : Option mV} (hb : b = 24 ∨ b = 45) : Ex 12 25 [some (.inr (.inr (some b))), some (.inl x1), some (.inl x2), some (.inl x3), u4] [] iv (RV sa sb) Q = (if x3 < iv b 2 then Ex 12 33 [some (.inr (.inr (some b))), some (.inl x1), some (.inl x2), some (.inl x3), u4] [] iv (RV sa sb) Q else Ex 12 77 [some (.inr (.inr (some b))), some (.inl x1), some (.inl x2), some (.inl x3), u4] [] iv (RV sa sb) Q) := by
  rcases hb with rfl | rfl
  all_goals (refine Eq.trans (ex_blkT 0 [(25, .iload_n 3, 1), (26, .aload_n 0, 1), (27, .getfield 62, 3)] rfl (by decide +kernel) rfl (by exact (And.intro rfl trivial))) ?_; exact (ex_brN (M := 12) (pc := 30) (i := .if_icmp .ge 47) (n := 3) _ (by decide +kernel) (fun _ => rfl) rfl Int.not_lt.symm))
theorem b12_33 {sa sb : Nat} {iv : mIv} {Q : Option mV → mIv → mRv → Prop} {x1 x2 x3 : Int} {b : Nat} {u4 : Option mV} (hb : b = 24 ∨ b = 45) : Ex 12 33 [some (.inr (.inr (some b))), some (.inl x1), some (.inl x2), some (.inl x3), u4] [] iv (RV sa sb) Q = Ex 14 0 [some (.inr (.inr (some b))), some (.inl x2), none, none, none] [] iv (RV sa sb) (fun v iv2 rv2 => Ex 12 38 [some (.inr (.inr (some b))), some (.inl x1), some (.inl x2), some (.inl x3), u4] (mpush v []) iv2 rv2 Q) := by
  rcases hb with rfl | rfl
  all_goals (refine Eq.trans (ex_blkT 0 [(33, .aload_n 0, 1), (34, .iload_n 2, 1)] rfl (by decide +kernel) rfl (by exact trivial)) ?_; exact (Eq.trans (ex_calT (M := 12) (pc := 35) (i := .invokevirtual 145) (n := 3) (F := 2) (Lc := 45) (o := 0) (nl := 5) (by decide +kernel) rfl rfl rfl rfl rfl rfl rfl (by exact (And.intro rfl trivial))) rfl))
theorem b12_38 {sa sb : Nat} {iv : mIv} {Q : Option mV → mIv → mRv → Prop} {x1 x2 x3 : Int} {b : Nat} {u4 : Option mV} (hb : b = 24 ∨ b = 45) : Ex 12 38 [some (.inr (.inr (some b))), some (.inl x1), some (.inl x2), some (.inl x3), u4] [] iv (RV sa sb) Q = Ex 13 0 [some (.inr (.inr (some b))), none, none, none, none, none, none, none, none, none, none, none, none] [] iv (RV sa sb) (fun v iv2 rv2 => Ex 12 42 [some (.inr (.inr (some b))), some (.inl x1), some (.inl x2), some (.inl x3), u4] (mpush v []) iv2 rv2 Q) := by
  rcases hb with rfl | rfl
  all_goals (refine Eq.trans (ex_blkT 0 [(38, .aload_n 0, 1)] rfl (by decide +kernel) rfl (by exact trivial)) ?_; exact (Eq.trans (ex_calT (M := 12) (pc := 39) (i := .invokevirtual 142) (n := 3) (F := 2) (Lc := 45) (o := 0) (nl := 13) (by decide +kernel) rfl rfl rfl rfl rfl rfl rfl (by exact (And.intro rfl trivial))) rfl))
theorem b12_42 {sa sb : Nat} {iv : mIv} {Q : Option mV → mIv → mRv → Prop} {x1 x2 x3 xs0 : Int} {b : Nat} {u4 : Option mV} (hb : b = 24 ∨ b = 45) : Ex 12 42 [some (.inr (.inr (some b))), some (.inl x1), some (.inl x2), some (.inl x3), u4] [.inl xs0] iv (RV sa sb) Q = (if xs0 = (-1) then Ex 12 66 [some (.inr (.inr (some b))), some (.inl x1), some (.inl x2), some (.inl x3), some (.inl xs0)] [] iv (RV sa sb) Q else Ex 12 50 [some (.inr (.inr (some b))), some (.inl x1), some (.inl x2), some (.inl x3), some (.inl xs0)] [] iv (RV sa sb) Q) := by
  rcases hb with rfl | rfl
  all_goals (refine Eq.trans (ex_blkT 0 [(42, .istore 4, 2), (44, .iload 4, 2), (46, .iconst (-1), 1)] rfl (by decide +kernel) rfl (by exact trivial)) ?_; exact (ex_brI (M := 12) (pc := 47) (i := .if_icmp .eq 19) (n := 3) _ (by decide +kernel) (fun _ => rfl) rfl Iff.rfl))
theorem b12_50 {sa sb : Nat} {iv : mIv} {Q : Option mV → mIv → mRv → Prop} {x1 x2 x3 x4 : Int} {b : Nat} (hb : b = 24 ∨ b = 45) : Ex 12 50 [some (.inr (.inr (some b))), some (.inl x1), some (.inl x2), some (.inl x3), some (.inl x4)] [] iv (RV sa sb) Q = Ex 11 0 [some (.inr (.inr (some b))), some (.inl (iv b 14)), some (.inl (iv b 15)), some (.inl x1), none, none, none, none] [] iv (RV sa sb) (fun v iv2 rv2 => Ex 12 63 [some (.inr (.inr (some b))), some (.inl x1), some (.inl x2), some (.inl x3), some (.inl x4)] (mpush v []) iv2 rv2 Q) := by
  rcases hb with rfl | rfl
  all_goals (refine Eq.trans (ex_blkT 0 [(50, .aload_n 0, 1), (51, .aload_n 0, 1), (52, .getfield 130, 3), (55, .aload_n 0, 1), (56, .getfield 133, 3), (59, .iload_n 1, 1)] rfl (by decide +kernel) rfl (by exact (And.intro rfl (And.intro rfl trivial)))) ?_; exact (Eq.trans (ex_calT (M := 12) (pc := 60) (i := .invokevirtual 126) (n := 3) (F := 2) (Lc := 45) (o := 0) (nl := 8) (by decide +kernel) rfl rfl rfl rfl rfl rfl rfl (by exact (And.intro rfl trivial))) rfl))
theorem b12_63 {sa sb : Nat} {iv : mIv} {Q : Option mV → mIv → mRv → Prop} {x1 x2 x3 x4 xs0 : Int} {b : Nat} (hb : b = 24 ∨ b = 45) : Ex 12 63 [some (.inr (.inr (some b))), some (.inl x1), some (.inl x2), some (.inl x3), some (.inl x4)] [.inl xs0] iv (RV sa sb) Q = (if xs0 = 0 then Ex 12 66 [some (.inr (.inr (some b))), some (.inl x1), some (.inl x2), some (.inl x3), some (.inl x4)] [] iv (RV sa sb) Q else Ex 12 68 [some (.inr (.inr (some b))), some (.inl x1), some (.inl x2), some (.inl x3), some (.inl x4)] [] iv (RV sa sb) Q) := by
  rcases hb with rfl | rfl
  all_goals exact (ex_brN (M := 12) (pc := 63) (i := .ifCond .ne 5) (n := 3) _ (by decide +kernel) (fun _ => rfl) rfl Iff.rfl)
theorem b12_66 {sa sb : Nat} {iv : mIv} {Q : Option mV → mIv → mRv → Prop} {x1 x2 x3 x4 : Int} {b : Nat} (hb : b = 24 ∨ b = 45) : Ex 12 66 [some (.inr (.inr (some b))), some (.inl x1), some (.inl x2), some (.inl x3), some (.inl x4)] [] iv (RV sa sb) Q = Q (some (.inl x2)) iv (RV sa sb) := by
  rcases hb with rfl | rfl
  all_goals (refine Eq.trans (ex_blkT 0 [(66, .iload_n 2, 1)] rfl (by decide +kernel) rfl (by exact trivial)) ?_; exact (ex_retT (M := 12) (pc := 67) (i := .ireturn) (n := 1) (rt := some .int) (by decide +kernel) (fun _ => rfl) rfl (fun _ _ _ => rfl) rfl rfl (by exact trivial)))
theorem b12_68 {sa sb : Nat} {iv : mIv} {Q : Option mV → mIv → mRv → Prop} {x1 x2 x3 x4 : Int} {b : Nat} (hb : b = 24 ∨ b = 45) : Ex 12 68 [some (.inr (.inr (some b))), some (.inl x1), some (.inl x2), some (.inl x3), some (.inl x4)] [] iv (RV sa sb) Q = Ex 12 25 [some (.inr (.inr (some b))), some (.inl x1), some (.inl x4), some (.inl (w32 (x3 + 1))), some (.inl x4)] [] iv (RV sa sb) Q := by
  rcases hb with rfl | rfl
  all_goals (refine Eq.trans (ex_blkT 0 [(68, .iload 4, 2), (70, .istore_n 2, 1), (71, .iinc 3 1, 3), (74, .goto (-49), 3)] rfl (by decide +kernel) rfl (by exact trivial)) ?_; rfl)
theorem b12_77 {sa sb : Nat} {iv : mIv} {Q : Option mV → mIv → mRv → Prop} {x1 x2 x3 : Int} {b : Nat} {u4 : Option mV} (hb : b = 24 ∨ b = 45) : Ex 12 77 [some (.inr (.inr (some b))), some (.inl x1), some (.inl x2), some (.inl x3), u4] [] iv (RV sa sb) Q = Q (some (.inl x2)) iv (RV sa sb) := by
  rcases hb with rfl | rfl
  all_goals (refine Eq.trans (ex_blkT 0 [(77, .iload_n 2, 1)] rfl (by decide +kernel) rfl (by exact trivial)) ?_; exact (ex_retT (M := 12) (pc := 78) (i := .ireturn) (n := 1) (rt := some .int) (by decide +kernel) (fun _ => rfl) rfl (fun _ _ _ => rfl) rfl rfl (by exact trivial)))
theorem b13_0 {sa sb : Nat} {iv : mIv} {Q : Option mV → mIv → mRv → Prop} {b : Nat} (hb : b = 24 ∨ b = 45) : Ex 13 0 [some (.inr (.inr (some b))), none, none, none, none, none, none, none, none, none, none, none, none] [] iv (RV sa sb) Q = Ex 13 10 [some (.inr (.inr (some b))), some (.inl (-1)), some (.inr (.inl 0)), none, some (.inr (.inl 0)), none, some (.inl 0), none, none, none, none, none, none] [] iv (RV sa sb) Q := by
  rcases hb with rfl | rfl
  all_goals (refine Eq.trans (ex_blkT 0 [(0, .iconst (-1), 1), (1, .istore_n 1, 1), (2, .lconst 0, 1), (3, .lstore_n 2, 1), (4, .lconst 0, 1), (5, .lstore 4, 2), (7, .iconst 0, 1), (8, .istore 6, 2)] rfl (by decide +kernel) rfl (by exact trivial)) ?_; rfl)
theorem b13_10 {sa sb : Nat} {iv : mIv} {Q : Option mV → mIv → mRv → Prop} {x1 x2 x4 x6 : Int} {b : Nat} {u7 u9 u11 : Option mV} (hb : b = 24 ∨ b = 45) : Ex 13 10 [some (.inr (.inr (some b))), some (.inl x1), some (.inr (.inl x2)), none, some (.inr (.inl x4)), none, some (.inl x6), u7, none, u9, none, u11, none] [] iv (RV sa sb) Q = (if x6 < iv b 2 then Ex 13 19 [some (.inr (.inr (some b))), some (.inl x1), some (.inr (.inl x2)), none, some (.inr (.inl x4)), none, some (.inl x6), u7, none, u9, none, u11, none] [] iv (RV sa sb) Q else Ex 13 142 [some (.inr (.inr (some b))), some (.inl x1), some (.inr (.inl x2)), none, some (.inr (.inl x4)), none, some (.inl x6), u7, none, u9, none, u11, none] [] iv (RV sa sb) Q) := by
  rcases hb with rfl | rfl
  all_goals (refine Eq.trans (ex_blkT 0 [(10, .iload 6, 2), (12, .aload_n 0, 1), (13, .getfield 62, 3)] rfl (by decide +kernel) rfl (by exact (And.intro rfl trivial))) ?_; exact (ex_brN (M := 13) (pc := 16) (i := .if_icmp .ge 126) (n := 3) _ (by decide +kernel) (fun _ => rfl) rfl Int.not_lt.symm))
set_option maxHeartbeats 8000000 in
theorem b13_19 {sa sb : Nat} {iv : mIv} {Q : Option mV → mIv → mRv → Prop} {x1 x2 x4 x6 : Int} {b : Nat} {u7 u9 u11 : Option mV} (hb : b = 24 ∨ b = 45) (h0 : 0 ≤ x6) (h1 : x6 < 9) (h2 : 0 ≤ iv b 14) (h3 : iv b 14 < 5) : Ex 13 19 [some (.inr (.inr (some b))), some (.inl x1), some (.inr (.inl x2)), none, some (.inr (.inl x4)), none, some (.inl x6), u7, none, u9, none, u11, none] [] iv (RV sa sb) Q = (if 0 < w64 ((w32 ((w32 (-(iv (b + 3) x6.toNat))) * (iv b 15))) * (iv (b + 7 + x6.toNat) (iv b 14).toNat)) then Ex 13 73 [some (.inr (.inr (some b))), some (.inl x1), some (.inr (.inl x2)), none, some (.inr (.inl x4)), none, some (.inl x6), some (.inr (.inl (w64 ((iv (b + 3) x6.toNat) * (iv (b + 5) x6.toNat))))), none, some (.inr (.inl (w64 ((w32 ((w32 (-(iv (b + 3) x6.toNat))) * (iv b 15))) * (iv (b + 7 + x6.toNat) (iv b 14).toNat))))), none, u11, none] [] iv (RV sa sb) Q else Ex 13 136 [some (.inr (.inr (some b))), some (.inl x1), some (.inr (.inl x2)), none, some (.inr (.inl x4)), none, some (.inl x6), some (.inr (.inl (w64 ((iv (b + 3) x6.toNat) * (iv (b + 5) x6.toNat))))), none, some (.inr (.inl (w64 ((w32 ((w32 (-(iv (b + 3) x6.toNat))) * (iv b 15))) * (iv (b + 7 + x6.toNat) (iv b 14).toNat))))), none, u11, none] [] iv (RV sa sb) Q) := by
  rcases hb with rfl | rfl
  all_goals (refine Eq.trans (ex_blkT 0 [(19, .aload_n 0, 1), (20, .getfield 23, 3), (23, .iload 6, 2), (25, .iaload, 1), (26, .i2l, 1), (27, .aload_n 0, 1), (28, .getfield 29, 3), (31, .iload 6, 2), (33, .laload, 1), (34, .lmul, 1), (35, .lstore 7, 2), (37, .aload_n 0, 1), (38, .getfield 23, 3), (41, .iload 6, 2), (43, .iaload, 1), (44, .ineg, 1), (45, .aload_n 0, 1), (46, .getfield 133, 3), (49, .imul, 1), (50, .i2l, 1), (51, .aload_n 0, 1), (52, .getfield 34, 3), (55, .iload 6, 2), (57, .aaload, 1), (58, .aload_n 0, 1), (59, .getfield 130, 3), (62, .laload, 1), (63, .lmul, 1), (64, .lstore 9, 2), (66, .lload 9, 2), (68, .lconst 0, 1), (69, .lcmp, 1)] rfl (by decide +kernel) rfl (by exact (And.intro rfl (And.intro rfl (And.intro (And.intro rfl rfl) (And.intro h0 (And.intro h1 (And.intro rfl (And.intro rfl (And.intro (And.intro rfl rfl) (And.intro h0 (And.intro h1 (And.intro rfl (And.intro rfl (And.intro (And.intro rfl rfl) (And.intro h0 (And.intro h1 (And.intro rfl (And.intro rfl (And.intro rfl (And.intro rfl (And.intro h0 (And.intro h1 (And.intro rfl (And.intro rfl (And.intro (by first | exact isA_r24 (by omega) | exact isA_r45 (by omega)) (And.intro h2 (And.intro (by first | exact lt_r24 (by omega) h3 | exact lt_r45 (by omega) h3) trivial)))))))))))))))))))))))))))) ?_; exact (ex_brN (M := 13) (pc := 70) (i := .ifCond .le 66) (n := 3) _ (by decide +kernel) (fun _ => rfl) rfl ((lc_le _ _).trans Int.not_lt.symm)))
theorem b13_73 {sa sb : Nat} {iv : mIv} {Q : Option mV → mIv → mRv → Prop} {x1 x2 x4 x6 x7 x9 : Int} {b : Nat} {u11 : Option mV} (hb : b = 24 ∨ b = 45) : Ex 13 73 [some (.inr (.inr (some b))), some (.inl x1), some (.inr (.inl x2)), none, some (.inr (.inl x4)), none, some (.inl x6), some (.inr (.inl x7)), none, some (.inr (.inl x9)), none, u11, none] [] iv (RV sa sb) Q = (if x1 = (-1) then Ex 13 78 [some (.inr (.inr (some b))), some (.inl x1), some (.inr (.inl x2)), none, some (.inr (.inl x4)), none, some (.inl x6), some (.inr (.inl x7)), none, some (.inr (.inl x9)), none, u11, none] [] iv (RV sa sb) Q else Ex 13 84 [some (.inr (.inr (some b))), some (.inl x1), some (.inr (.inl x2)), none, some (.inr (.inl x4)), none, some (.inl x6), some (.inr (.inl x7)), none, some (.inr (.inl x9)), none, u11, none] [] iv (RV sa sb) Q) := by
  rcases hb with rfl | rfl
  all_goals (refine Eq.trans (ex_blkT 0 [(73, .iload_n 1, 1), (74, .iconst (-1), 1)] rfl (by decide +kernel) rfl (by exact trivial)) ?_; exact (ex_brN (M := 13) (pc := 75) (i := .if_icmp .ne 9) (n := 3) _ (by decide +kernel) (fun _ => rfl) rfl Iff.rfl))
theorem b13_78 {sa sb : Nat} {iv : mIv} {Q : Option mV → mIv → mRv → Prop} {x1 x2 x4 x6 x7 x9 : Int} {b : Nat} {u11 : Option mV} (hb : b = 24 ∨ b = 45) : Ex 13 78 [some (.inr (.inr (some b))), some (.inl x1), some (.inr (.inl x2)), none, some (.inr (.inl x4)), none, some (.inl x6), some (.inr (.inl x7)), none, some (.inr (.inl x9)), none, u11, none] [] iv (RV sa sb) Q = Ex 13 94 [some (.inr (.inr (some b))), some (.inl x1), some (.inr (.inl x2)), none, some (.inr (.inl x4)), none, some (.inl x6), some (.inr (.inl x7)), none, some (.inr (.inl x9)), none, u11, none] [.inr (.inl (-1))] iv (RV sa sb) Q := by
  rcases hb with rfl | rfl
  all_goals (refine Eq.trans (ex_blkT 0 [(78, .ldc2_w 148, 3), (81, .goto 13, 3)] rfl (by decide +kernel) rfl (by exact trivial)) ?_; rfl)
theorem b13_84 {sa sb : Nat} {iv : mIv} {Q : Option mV → mIv → mRv → Prop} {x1 x2 x4 x6 x7 x9 : Int} {b : Nat} {u11 : Option mV} (hb : b = 24 ∨ b = 45) : Ex 13 84 [some (.inr (.inr (some b))), some (.inl x1), some (.inr (.inl x2)), none, some (.inr (.inl x4)), none, some (.inl x6), some (.inr (.inl x7)), none, some (.inr (.inl x9)), none, u11, none] [] iv (RV sa sb) Q = Ex 13 94 [some (.inr (.inr (some b))), some (.inl x1), some (.inr (.inl x2)), none, some (.inr (.inl x4)), none, some (.inl x6), some (.inr (.inl x7)), none, some (.inr (.inl x9)), none, u11, none] [.inr (.inl (w64 ((w64 (x7 * x4)) - (w64 (x2 * x9)))))] iv (RV sa sb) Q := by
  rcases hb with rfl | rfl
  all_goals (refine Eq.trans (ex_blkT 0 [(84, .lload 7, 2), (86, .lload 4, 2), (88, .lmul, 1), (89, .lload_n 2, 1), (90, .lload 9, 2), (92, .lmul, 1), (93, .lsub, 1)] rfl (by decide +kernel) rfl (by exact trivial)) ?_; rfl)
theorem b13_94 {sa sb : Nat} {iv : mIv} {Q : Option mV → mIv → mRv → Prop} {x1 x2 x4 x6 x7 x9 xs0 : Int} {b : Nat} {u11 : Option mV} (hb : b = 24 ∨ b = 45) : Ex 13 94 [some (.inr (.inr (some b))), some (.inl x1), some (.inr (.inl x2)), none, some (.inr (.inl x4)), none, some (.inl x6), some (.inr (.inl x7)), none, some (.inr (.inl x9)), none, u11, none] [.inr (.inl xs0)] iv (RV sa sb) Q = (if xs0 < 0 then Ex 13 126 [some (.inr (.inr (some b))), some (.inl x1), some (.inr (.inl x2)), none, some (.inr (.inl x4)), none, some (.inl x6), some (.inr (.inl x7)), none, some (.inr (.inl x9)), none, some (.inr (.inl xs0)), none] [] iv (RV sa sb) Q else Ex 13 103 [some (.inr (.inr (some b))), some (.inl x1), some (.inr (.inl x2)), none, some (.inr (.inl x4)), none, some (.inl x6), some (.inr (.inl x7)), none, some (.inr (.inl x9)), none, some (.inr (.inl xs0)), none] [] iv (RV sa sb) Q) := by
  rcases hb with rfl | rfl
  all_goals (refine Eq.trans (ex_blkT 0 [(94, .lstore 11, 2), (96, .lload 11, 2), (98, .lconst 0, 1), (99, .lcmp, 1)] rfl (by decide +kernel) rfl (by exact trivial)) ?_; exact (ex_brI (M := 13) (pc := 100) (i := .ifCond .lt 26) (n := 3) _ (by decide +kernel) (fun _ => rfl) rfl (lc_lt _ _)))
theorem b13_103 {sa sb : Nat} {iv : mIv} {Q : Option mV → mIv → mRv → Prop} {x1 x2 x4 x6 x7 x9 x11 : Int} {b : Nat} (hb : b = 24 ∨ b = 45) : Ex 13 103 [some (.inr (.inr (some b))), some (.inl x1), some (.inr (.inl x2)), none, some (.inr (.inl x4)), none, some (.inl x6), some (.inr (.inl x7)), none, some (.inr (.inl x9)), none, some (.inr (.inl x11)), none] [] iv (RV sa sb) Q = (if x11 = 0 then Ex 13 110 [some (.inr (.inr (some b))), some (.inl x1), some (.inr (.inl x2)), none, some (.inr (.inl x4)), none, some (.inl x6), some (.inr (.inl x7)), none, some (.inr (.inl x9)), none, some (.inr (.inl x11)), none] [] iv (RV sa sb) Q else Ex 13 136 [some (.inr (.inr (some b))), some (.inl x1), some (.inr (.inl x2)), none, some (.inr (.inl x4)), none, some (.inl x6), some (.inr (.inl x7)), none, some (.inr (.inl x9)), none, some (.inr (.inl x11)), none] [] iv (RV sa sb) Q) := by
  rcases hb with rfl | rfl
  all_goals (refine Eq.trans (ex_blkT 0 [(103, .lload 11, 2), (105, .lconst 0, 1), (106, .lcmp, 1)] rfl (by decide +kernel) rfl (by exact trivial)) ?_; exact (ex_brN (M := 13) (pc := 107) (i := .ifCond .ne 29) (n := 3) _ (by decide +kernel) (fun _ => rfl) rfl (not_congr (lc_eq _ _))))
set_option maxHeartbeats 8000000 in
theorem b13_110 {sa sb : Nat} {iv : mIv} {Q : Option mV → mIv → mRv → Prop} {x1 x2 x4 x6 x7 x9 x11 : Int} {b : Nat} (hb : b = 24 ∨ b = 45) (h0 : 0 ≤ x6) (h1 : x6 < 9) (h2 : 0 ≤ x1) (h3 : x1 < 9) : Ex 13 110 [some (.inr (.inr (some b))), some (.inl x1), some (.inr (.inl x2)), none, some (.inr (.inl x4)), none, some (.inl x6), some (.inr (.inl x7)), none, some (.inr (.inl x9)), none, some (.inr (.inl x11)), none] [] iv (RV sa sb) Q = (if iv (b + 2) x6.toNat < iv (b + 2) x1.toNat then Ex 13 126 [some (.inr (.inr (some b))), some (.inl x1), some (.inr (.inl x2)), none, some (.inr (.inl x4)), none, some (.inl x6), some (.inr (.inl x7)), none, some (.inr (.inl x9)), none, some (.inr (.inl x11)), none] [] iv (RV sa sb) Q else Ex 13 136 [some (.inr (.inr (some b))), some (.inl x1), some (.inr (.inl x2)), none, some (.inr (.inl x4)), none, some (.inl x6), some (.inr (.inl x7)), none, some (.inr (.inl x9)), none, some (.inr (.inl x11)), none] [] iv (RV sa sb) Q) := by
  rcases hb with rfl | rfl
  all_goals (refine Eq.trans (ex_blkT 0 [(110, .aload_n 0, 1), (111, .getfield 19, 3), (114, .iload 6, 2), (116, .iaload, 1), (117, .aload_n 0, 1), (118, .getfield 19, 3), (121, .iload_n 1, 1), (122, .iaload, 1)] rfl (by decide +kernel) rfl (by exact (And.intro rfl (And.intro rfl (And.intro (And.intro rfl rfl) (And.intro h0 (And.intro h1 (And.intro rfl (And.intro rfl (And.intro (And.intro rfl rfl) (And.intro h2 (And.intro h3 trivial)))))))))))) ?_; exact (ex_brN (M := 13) (pc := 123) (i := .if_icmp .ge 13) (n := 3) _ (by decide +kernel) (fun _ => rfl) rfl Int.not_lt.symm))
theorem b13_126 {sa sb : Nat} {iv : mIv} {Q : Option mV → mIv → mRv → Prop} {x1 x2 x4 x6 x7 x9 x11 : Int} {b : Nat} (hb : b = 24 ∨ b = 45) : Ex 13 126 [some (.inr (.inr (some b))), some (.inl x1), some (.inr (.inl x2)), none, some (.inr (.inl x4)), none, some (.inl x6), some (.inr (.inl x7)), none, some (.inr (.inl x9)), none, some (.inr (.inl x11)), none] [] iv (RV sa sb) Q = Ex 13 136 [some (.inr (.inr (some b))), some (.inl x6), some (.inr (.inl x7)), none, some (.inr (.inl x9)), none, some (.inl x6), some (.inr (.inl x7)), none, some (.inr (.inl x9)), none, some (.inr (.inl x11)), none] [] iv (RV sa sb) Q := by
  rcases hb with rfl | rfl
  all_goals (refine Eq.trans (ex_blkT 0 [(126, .iload 6, 2), (128, .istore_n 1, 1), (129, .lload 7, 2), (131, .lstore_n 2, 1), (132, .lload 9, 2), (134, .lstore 4, 2)] rfl (by decide +kernel) rfl (by exact trivial)) ?_; rfl)
theorem b13_136 {sa sb : Nat} {iv : mIv} {Q : Option mV → mIv → mRv → Prop} {x1 x2 x4 x6 x7 x9 : Int} {b : Nat} {u11 : Option mV} (hb : b = 24 ∨ b = 45) : Ex 13 136 [some (.inr (.inr (some b))), some (.inl x1), some (.inr (.inl x2)), none, some (.inr (.inl x4)), none, some (.inl x6), some (.inr (.inl x7)), none, some (.inr (.inl x9)), none, u11, none] [] iv (RV sa sb) Q = Ex 13 10 [some (.inr (.inr (some b))), some (.inl x1), some (.inr (.inl x2)), none, some (.inr (.inl x4)), none, some (.inl (w32 (x6 + 1))), some (.inr (.inl x7)), none, some (.inr (.inl x9)), none, u11, none] [] iv (RV sa sb) Q := by
  rcases hb with rfl | rfl
  all_goals (refine Eq.trans (ex_blkT 0 [(136, .iinc 6 1, 3), (139, .goto (-129), 3)] rfl (by decide +kernel) rfl (by exact trivial)) ?_; rfl)
theorem b13_142 {sa sb : Nat} {iv : mIv} {Q : Option mV → mIv → mRv → Prop} {x1 x2 x4 x6 : Int} {b : Nat} {u7 u9 u11 : Option mV} (hb : b = 24 ∨ b = 45) : Ex 13 142 [some (.inr (.inr (some b))), some (.inl x1), some (.inr (.inl x2)), none, some (.inr (.inl x4)), none, some (.inl x6), u7, none, u9, none, u11, none] [] iv (RV sa sb) Q = Q (some (.inl x1)) iv (RV sa sb) := by
  rcases hb with rfl | rfl
  all_goals (refine Eq.trans (ex_blkT 0 [(142, .iload_n 1, 1)] rfl (by decide +kernel) rfl (by exact trivial)) ?_; exact (ex_retT (M := 13) (pc := 143) (i := .ireturn) (n := 1) (rt := some .int) (by decide +kernel) (fun _ => rfl) rfl (fun _ _ _ => rfl) rfl rfl (by exact trivial)))
set_option maxHeartbeats 8000000 in
theorem b14_0 {sa sb : Nat} {iv : mIv} {Q : Option mV → mIv → mRv → Prop} {x1 : Int} {b : Nat} (hb : b = 24 ∨ b = 45) (h0 : 0 ≤ x1) (h1 : x1 < 9) (h2 : 0 ≤ iv (b + 2) x1.toNat) (h3 : iv (b + 2) x1.toNat < 14) (h4 : 0 ≤ iv b 14) (h5 : iv b 14 < 5) : Ex 14 0 [some (.inr (.inr (some b))), some (.inl x1), none, none, none] [] iv (RV sa sb) Q = Ex 99 0 [some (.inr (.inl (iv (b + 7 + x1.toNat) (iv b 14).toNat))), none] [] iv (RV sa sb) (fun v iv2 rv2 => Ex 14 35 [some (.inr (.inr (some b))), some (.inl x1), some (.inl (iv (b + 2) x1.toNat)), none, none] (mpush v [.inr (.inl (w32 ((iv (b + 18) (iv (b + 2) x1.toNat).toNat) + (iv (b + 19) (iv (b + 2) x1.toNat).toNat))))]) iv2 rv2 Q) := by
  rcases hb with rfl | rfl
  all_goals (refine Eq.trans (ex_blkT 0 [(0, .aload_n 0, 1), (1, .getfield 19, 3), (4, .iload_n 1, 1), (5, .iaload, 1), (6, .istore_n 2, 1), (7, .aload_n 0, 1), (8, .getfield 43, 3), (11, .iload_n 2, 1), (12, .iaload, 1), (13, .aload_n 0, 1), (14, .getfield 46, 3), (17, .iload_n 2, 1), (18, .iaload, 1), (19, .iadd, 1), (20, .i2l, 1), (21, .aload_n 0, 1), (22, .getfield 34, 3), (25, .iload_n 1, 1), (26, .aaload, 1), (27, .aload_n 0, 1), (28, .getfield 130, 3), (31, .laload, 1)] rfl (by decide +kernel) rfl (by exact (And.intro rfl (And.intro rfl (And.intro (And.intro rfl rfl) (And.intro h0 (And.intro h1 (And.intro rfl (And.intro rfl (And.intro (And.intro rfl rfl) (And.intro h2 (And.intro h3 (And.intro rfl (And.intro rfl (And.intro (And.intro rfl rfl) (And.intro h2 (And.intro h3 (And.intro rfl (And.intro rfl (And.intro rfl (And.intro h0 (And.intro h1 (And.intro rfl (And.intro rfl (And.intro (by first | exact isA_r24 (by omega) | exact isA_r45 (by omega)) (And.intro h4 (And.intro (by first | exact lt_r24 (by omega) h5 | exact lt_r45 (by omega) h5) trivial))))))))))))))))))))))))))) ?_; exact (Eq.trans (ex_calT (M := 14) (pc := 32) (i := .invokestatic 107) (n := 3) (F := 1) (Lc := 21) (o := 0) (nl := 2) (by decide +kernel) rfl rfl rfl rfl rfl rfl rfl (by exact trivial)) rfl))
set_option maxHeartbeats 8000000 in
theorem b14_35 {sa sb : Nat} {iv : mIv} {Q : Option mV → mIv → mRv → Prop} {x1 x2 xs0 xs1 : Int} {b : Nat} (hb : b = 24 ∨ b = 45) (h0 : 0 ≤ x2) (h1 : x2 < 14) (h2 : 0 ≤ w32 ((w32 ((iv (b + 17) x2.toNat) * 5)) + (iv b 14))) (h3 : w32 ((w32 ((iv (b + 17) x2.toNat) * 5)) + (iv b 14)) < 45) (h4 : 0 ≤ x1) (h5 : x1 < 9) : Ex 14 35 [some (.inr (.inr (some b))), some (.inl x1), some (.inl x2), none, none] [.inr (.inl xs0), .inr (.inl xs1)] iv (RV sa sb) Q = Q none (st2 (st2 iv (b + 20) (w32 ((w32 ((iv (b + 17) x2.toNat) * 5)) + (iv b 14))).toNat (w64 ((iv (b + 20) (w32 ((w32 ((iv (b + 17) x2.toNat) * 5)) + (iv b 14))).toNat) + (w64 ((iv b 15) * (w64 (xs1 * xs0))))))) (b + 3) x1.toNat (w32 (-((st2 iv (b + 20) (w32 ((w32 ((iv (b + 17) x2.toNat) * 5)) + (iv b 14))).toNat (w64 ((iv (b + 20) (w32 ((w32 ((iv (b + 17) x2.toNat) * 5)) + (iv b 14))).toNat) + (w64 ((iv b 15) * (w64 (xs1 * xs0))))))) (b + 3) x1.toNat)))) (RV sa sb) := by
  rcases hb with rfl | rfl
  all_goals (refine Eq.trans (ex_blkT 0 [(35, .lmul, 1), (36, .lstore_n 3, 1), (37, .aload_n 0, 1), (38, .getfield 49, 3), (41, .aload_n 0, 1), (42, .getfield 40, 3), (45, .iload_n 2, 1), (46, .iaload, 1), (47, .iconst 5, 1), (48, .imul, 1), (49, .aload_n 0, 1), (50, .getfield 130, 3), (53, .iadd, 1), (54, .dup2, 1), (55, .laload, 1), (56, .aload_n 0, 1), (57, .getfield 133, 3), (60, .i2l, 1), (61, .lload_n 3, 1), (62, .lmul, 1), (63, .ladd, 1), (64, .lastore, 1), (65, .aload_n 0, 1), (66, .getfield 23, 3), (69, .iload_n 1, 1), (70, .aload_n 0, 1), (71, .getfield 23, 3), (74, .iload_n 1, 1), (75, .iaload, 1), (76, .ineg, 1), (77, .iastore, 1)] rfl (by decide +kernel) rfl (by exact (And.intro rfl (And.intro rfl (And.intro rfl (And.intro rfl (And.intro (And.intro rfl rfl) (And.intro h0 (And.intro h1 (And.intro rfl (And.intro (And.intro rfl rfl) (And.intro h2 (And.intro h3 (And.intro rfl (And.intro (And.intro rfl rfl) (And.intro h2 (And.intro h3 (And.intro rfl (And.intro rfl (And.intro rfl (And.intro rfl (And.intro (And.intro rfl rfl) (And.intro h4 (And.intro h5 (And.intro (And.intro rfl rfl) (And.intro h4 (And.intro h5 trivial))))))))))))))))))))))))))) ?_; exact (ex_retT (M := 14) (pc := 78) (i := .return_) (n := 1) (rt := none) (by decide +kernel) (fun _ => rfl) rfl (fun _ _ _ => rfl) rfl rfl (by exact trivial)))
set_option maxHeartbeats 8000000 in
theorem b15_0 {sa sb : Nat} {iv : mIv} {Q : Option mV → mIv → mRv → Prop} {x1 : Int} {b : Nat} (hb : b = 24 ∨ b = 45) (h0 : 0 ≤ x1) (h1 : x1 < 9) (h2 : 0 ≤ iv b 14) (h3 : iv b 14 < 5) : Ex 15 0 [some (.inr (.inr (some b))), some (.inl x1), none, none, none, none, none, none] [] iv (RV sa sb) Q = (if iv (b + 7 + x1.toNat) (iv b 14).toNat < 0 then Ex 15 18 [some (.inr (.inr (some b))), some (.inl x1), some (.inl (iv b 14)), none, none, none, none, none] [] iv (RV sa sb) Q else Ex 15 24 [some (.inr (.inr (some b))), some (.inl x1), some (.inl (iv b 14)), none, none, none, none, none] [] iv (RV sa sb) Q) := by
  rcases hb with rfl | rfl
  all_goals (refine Eq.trans (ex_blkT 0 [(0, .aload_n 0, 1), (1, .getfield 130, 3), (4, .istore_n 2, 1), (5, .aload_n 0, 1), (6, .getfield 34, 3), (9, .iload_n 1, 1), (10, .aaload, 1), (11, .iload_n 2, 1), (12, .laload, 1), (13, .lconst 0, 1), (14, .lcmp, 1)] rfl (by decide +kernel) rfl (by exact (And.intro rfl (And.intro rfl (And.intro rfl (And.intro rfl (And.intro h0 (And.intro h1 (And.intro rfl (And.intro (by first | exact isA_r24 (by omega) | exact isA_r45 (by omega)) (And.intro h2 (And.intro (by first | exact lt_r24 (by omega) h3 | exact lt_r45 (by omega) h3) trivial)))))))))))) ?_; exact (ex_brN (M := 15) (pc := 15) (i := .ifCond .ge 9) (n := 3) _ (by decide +kernel) (fun _ => rfl) rfl ((lc_ge _ _).trans Int.not_lt.symm)))
theorem b15_18 {sa sb : Nat} {iv : mIv} {Q : Option mV → mIv → mRv → Prop} {x1 x2 : Int} {b : Nat} (hb : b = 24 ∨ b = 45) : Ex 15 18 [some (.inr (.inr (some b))), some (.inl x1), some (.inl x2), none, none, none, none, none] [] iv (RV sa sb) Q = Ex 15 25 [some (.inr (.inr (some b))), some (.inl x1), some (.inl x2), none, none, none, none, none] [.inr (.inl (-1))] iv (RV sa sb) Q := by
  rcases hb with rfl | rfl
  all_goals (refine Eq.trans (ex_blkT 0 [(18, .ldc2_w 148, 3), (21, .goto 4, 3)] rfl (by decide +kernel) rfl (by exact trivial)) ?_; rfl)
theorem b15_24 {sa sb : Nat} {iv : mIv} {Q : Option mV → mIv → mRv → Prop} {x1 x2 : Int} {b : Nat} (hb : b = 24 ∨ b = 45) : Ex 15 24 [some (.inr (.inr (some b))), some (.inl x1), some (.inl x2), none, none, none, none, none] [] iv (RV sa sb) Q = Ex 15 25 [some (.inr (.inr (some b))), some (.inl x1), some (.inl x2), none, none, none, none, none] [.inr (.inl 1)] iv (RV sa sb) Q := by
  rcases hb with rfl | rfl
  all_goals (refine Eq.trans (ex_blkT 0 [(24, .lconst 1, 1)] rfl (by decide +kernel) rfl (by exact trivial)) ?_; rfl)
set_option maxHeartbeats 8000000 in
theorem b15_25 {sa sb : Nat} {iv : mIv} {Q : Option mV → mIv → mRv → Prop} {x1 x2 xs0 : Int} {b : Nat} (hb : b = 24 ∨ b = 45) (h0 : 0 ≤ x1) (h1 : x1 < 9) (h2 : 0 ≤ x2) (h3 : x2 < 5) : Ex 15 25 [some (.inr (.inr (some b))), some (.inl x1), some (.inl x2), none, none, none, none, none] [.inr (.inl xs0)] iv (RV sa sb) Q = (if w64 (xs0 * (iv (b + 7 + x1.toNat) x2.toNat)) = 0 then Ex 15 54 [some (.inr (.inr (some b))), some (.inl x1), some (.inl x2), some (.inr (.inl xs0)), none, some (.inr (.inl (w64 (xs0 * (iv (b + 7 + x1.toNat) x2.toNat))))), none, none] [] iv (RV sa sb) Q else Ex 15 45 [some (.inr (.inr (some b))), some (.inl x1), some (.inl x2), some (.inr (.inl xs0)), none, some (.inr (.inl (w64 (xs0 * (iv (b + 7 + x1.toNat) x2.toNat))))), none, none] [] iv (RV sa sb) Q) := by
  rcases hb with rfl | rfl
  all_goals (refine Eq.trans (ex_blkT 0 [(25, .lstore_n 3, 1), (26, .lload_n 3, 1), (27, .aload_n 0, 1), (28, .getfield 34, 3), (31, .iload_n 1, 1), (32, .aaload, 1), (33, .iload_n 2, 1), (34, .laload, 1), (35, .lmul, 1), (36, .lstore 5, 2), (38, .lload 5, 2), (40, .lconst 0, 1), (41, .lcmp, 1)] rfl (by decide +kernel) rfl (by exact (And.intro rfl (And.intro rfl (And.intro rfl (And.intro h0 (And.intro h1 (And.intro rfl (And.intro (by first | exact isA_r24 (by omega) | exact isA_r45 (by omega)) (And.intro h2 (And.intro (by first | exact lt_r24 (by omega) h3 | exact lt_r45 (by omega) h3) trivial))))))))))) ?_; exact (ex_brI (M := 15) (pc := 42) (i := .ifCond .eq 12) (n := 3) _ (by decide +kernel) (fun _ => rfl) rfl (lc_eq _ _)))
theorem b15_45 {sa sb : Nat} {iv : mIv} {Q : Option mV → mIv → mRv → Prop} {x1 x2 x3 x5 : Int} {b : Nat} (hb : b = 24 ∨ b = 45) : Ex 15 45 [some (.inr (.inr (some b))), some (.inl x1), some (.inl x2), some (.inr (.inl x3)), none, some (.inr (.inl x5)), none, none] [] iv (RV sa sb) Q = (if iv b 0 = 0 then Ex 15 54 [some (.inr (.inr (some b))), some (.inl x1), some (.inl x2), some (.inr (.inl x3)), none, some (.inr (.inl x5)), none, none] [] iv (RV sa sb) Q else Ex 15 55 [some (.inr (.inr (some b))), some (.inl x1), some (.inl x2), some (.inr (.inl x3)), none, some (.inr (.inl x5)), none, none] [] iv (RV sa sb) Q) := by
  rcases hb with rfl | rfl
  all_goals (refine Eq.trans (ex_blkT 0 [(45, .aload_n 0, 1), (46, .getfield 9, 3), (49, .lconst 0, 1), (50, .lcmp, 1)] rfl (by decide +kernel) rfl (by exact (And.intro rfl trivial))) ?_; exact (ex_brN (M := 15) (pc := 51) (i := .ifCond .ne 4) (n := 3) _ (by decide +kernel) (fun _ => rfl) rfl (not_congr (lc_eq _ _))))
theorem b15_54 {sa sb : Nat} {iv : mIv} {Q : Option mV → mIv → mRv → Prop} {x1 x2 x3 x5 : Int} {b : Nat} (hb : b = 24 ∨ b = 45) : Ex 15 54 [some (.inr (.inr (some b))), some (.inl x1), some (.inl x2), some (.inr (.inl x3)), none, some (.inr (.inl x5)), none, none] [] iv (RV sa sb) Q = Q none iv (RV sa sb) := by
  rcases hb with rfl | rfl
  all_goals exact (ex_retT (M := 15) (pc := 54) (i := .return_) (n := 1) (rt := none) (by decide +kernel) (fun _ => rfl) rfl (fun _ _ _ => rfl) rfl rfl (by exact trivial))
theorem b15_55 {sa sb : Nat} {iv : mIv} {Q : Option mV → mIv → mRv → Prop} {x1 x2 x3 x5 : Int} {b : Nat} (hb : b = 24 ∨ b = 45) : Ex 15 55 [some (.inr (.inr (some b))), some (.inl x1), some (.inl x2), some (.inr (.inl x3)), none, some (.inr (.inl x5)), none, none] [] iv (RV sa sb) Q = Ex 15 58 [some (.inr (.inr (some b))), some (.inl x1), some (.inl x2), some (.inr (.inl x3)), none, some (.inr (.inl x5)), none, some (.inl 0)] [] iv (RV sa sb) Q := by
  rcases hb with rfl | rfl
  all_goals (refine Eq.trans (ex_blkT 0 [(55, .iconst 0, 1), (56, .istore 7, 2)] rfl (by decide +kernel) rfl (by exact trivial)) ?_; rfl)
theorem b15_58 {sa sb : Nat} {iv : mIv} {Q : Option mV → mIv → mRv → Prop} {x1 x2 x3 x5 x7 : Int} {b : Nat} (hb : b = 24 ∨ b = 45) : Ex 15 58 [some (.inr (.inr (some b))), some (.inl x1), some (.inl x2), some (.inr (.inl x3)), none, some (.inr (.inl x5)), none, some (.inl x7)] [] iv (RV sa sb) Q = (if x7 < iv b 2 then Ex 15 67 [some (.inr (.inr (some b))), some (.inl x1), some (.inl x2), some (.inr (.inl x3)), none, some (.inr (.inl x5)), none, some (.inl x7)] [] iv (RV sa sb) Q else Ex 15 89 [some (.inr (.inr (some b))), some (.inl x1), some (.inl x2), some (.inr (.inl x3)), none, some (.inr (.inl x5)), none, some (.inl x7)] [] iv (RV sa sb) Q) := by
  rcases hb with rfl | rfl
  all_goals (refine Eq.trans (ex_blkT 0 [(58, .iload 7, 2), (60, .aload_n 0, 1), (61, .getfield 62, 3)] rfl (by decide +kernel) rfl (by exact (And.intro rfl trivial))) ?_; exact (ex_brN (M := 15) (pc := 64) (i := .if_icmp .ge 25) (n := 3) _ (by decide +kernel) (fun _ => rfl) rfl Int.not_lt.symm))
theorem b15_67 {sa sb : Nat} {iv : mIv} {Q : Option mV → mIv → mRv → Prop} {x1 x2 x3 x5 x7 : Int} {b : Nat} (hb : b = 24 ∨ b = 45) : Ex 15 67 [some (.inr (.inr (some b))), some (.inl x1), some (.inl x2), some (.inr (.inl x3)), none, some (.inr (.inl x5)), none, some (.inl x7)] [] iv (RV sa sb) Q = (if x7 = x1 then Ex 15 83 [some (.inr (.inr (some b))), some (.inl x1), some (.inl x2), some (.inr (.inl x3)), none, some (.inr (.inl x5)), none, some (.inl x7)] [] iv (RV sa sb) Q else Ex 15 73 [some (.inr (.inr (some b))), some (.inl x1), some (.inl x2), some (.inr (.inl x3)), none, some (.inr (.inl x5)), none, some (.inl x7)] [] iv (RV sa sb) Q) := by
  rcases hb with rfl | rfl
  all_goals (refine Eq.trans (ex_blkT 0 [(67, .iload 7, 2), (69, .iload_n 1, 1)] rfl (by decide +kernel) rfl (by exact trivial)) ?_; exact (ex_brI (M := 15) (pc := 70) (i := .if_icmp .eq 13) (n := 3) _ (by decide +kernel) (fun _ => rfl) rfl Iff.rfl))
theorem b15_73 {sa sb : Nat} {iv : mIv} {Q : Option mV → mIv → mRv → Prop} {x1 x2 x3 x5 x7 : Int} {b : Nat} (hb : b = 24 ∨ b = 45) : Ex 15 73 [some (.inr (.inr (some b))), some (.inl x1), some (.inl x2), some (.inr (.inl x3)), none, some (.inr (.inl x5)), none, some (.inl x7)] [] iv (RV sa sb) Q = Ex 16 0 [some (.inr (.inr (some b))), some (.inl x1), some (.inl x7), some (.inr (.inl x3)), none, some (.inr (.inl x5)), none, none, none, none, none, none] [] iv (RV sa sb) (fun v iv2 rv2 => Ex 15 83 [some (.inr (.inr (some b))), some (.inl x1), some (.inl x2), some (.inr (.inl x3)), none, some (.inr (.inl x5)), none, some (.inl x7)] (mpush v []) iv2 rv2 Q) := by
  rcases hb with rfl | rfl
  all_goals (refine Eq.trans (ex_blkT 0 [(73, .aload_n 0, 1), (74, .iload_n 1, 1), (75, .iload 7, 2), (77, .lload_n 3, 1), (78, .lload 5, 2)] rfl (by decide +kernel) rfl (by exact trivial)) ?_; exact (Eq.trans (ex_calT (M := 15) (pc := 80) (i := .invokevirtual 150) (n := 3) (F := 1) (Lc := 31) (o := 0) (nl := 12) (by decide +kernel) rfl rfl rfl rfl rfl rfl rfl (by exact (And.intro rfl trivial))) rfl))
theorem b15_83 {sa sb : Nat} {iv : mIv} {Q : Option mV → mIv → mRv → Prop} {x1 x2 x3 x5 x7 : Int} {b : Nat} (hb : b = 24 ∨ b = 45) : Ex 15 83 [some (.inr (.inr (some b))), some (.inl x1), some (.inl x2), some (.inr (.inl x3)), none, some (.inr (.inl x5)), none, some (.inl x7)] [] iv (RV sa sb) Q = Ex 15 58 [some (.inr (.inr (some b))), some (.inl x1), some (.inl x2), some (.inr (.inl x3)), none, some (.inr (.inl x5)), none, some (.inl (w32 (x7 + 1)))] [] iv (RV sa sb) Q := by
  rcases hb with rfl | rfl
  all_goals (refine Eq.trans (ex_blkT 0 [(83, .iinc 7 1, 3), (86, .goto (-28), 3)] rfl (by decide +kernel) rfl (by exact trivial)) ?_; rfl)
theorem b15_89 {sa sb : Nat} {iv : mIv} {Q : Option mV → mIv → mRv → Prop} {x1 x2 x3 x5 x7 : Int} {b : Nat} (hb : b = 24 ∨ b = 45) : Ex 15 89 [some (.inr (.inr (some b))), some (.inl x1), some (.inl x2), some (.inr (.inl x3)), none, some (.inr (.inl x5)), none, some (.inl x7)] [] iv (RV sa sb) Q = Ex 15 92 [some (.inr (.inr (some b))), some (.inl x1), some (.inl x2), some (.inr (.inl x3)), none, some (.inr (.inl x5)), none, some (.inl 0)] [] iv (RV sa sb) Q := by
  rcases hb with rfl | rfl
  all_goals (refine Eq.trans (ex_blkT 0 [(89, .iconst 0, 1), (90, .istore 7, 2)] rfl (by decide +kernel) rfl (by exact trivial)) ?_; rfl)
theorem b15_92 {sa sb : Nat} {iv : mIv} {Q : Option mV → mIv → mRv → Prop} {x1 x2 x3 x5 x7 : Int} {b : Nat} (hb : b = 24 ∨ b = 45) : Ex 15 92 [some (.inr (.inr (some b))), some (.inl x1), some (.inl x2), some (.inr (.inl x3)), none, some (.inr (.inl x5)), none, some (.inl x7)] [] iv (RV sa sb) Q = (if x7 < iv b 3 then Ex 15 101 [some (.inr (.inr (some b))), some (.inl x1), some (.inl x2), some (.inr (.inl x3)), none, some (.inr (.inl x5)), none, some (.inl x7)] [] iv (RV sa sb) Q else Ex 15 121 [some (.inr (.inr (some b))), some (.inl x1), some (.inl x2), some (.inr (.inl x3)), none, some (.inr (.inl x5)), none, some (.inl x7)] [] iv (RV sa sb) Q) := by
  rcases hb with rfl | rfl
  all_goals (refine Eq.trans (ex_blkT 0 [(92, .iload 7, 2), (94, .aload_n 0, 1), (95, .getfield 58, 3)] rfl (by decide +kernel) rfl (by exact (And.intro rfl trivial))) ?_; exact (ex_brN (M := 15) (pc := 98) (i := .if_icmp .ge 23) (n := 3) _ (by decide +kernel) (fun _ => rfl) rfl Int.not_lt.symm))
set_option maxHeartbeats 8000000 in
theorem b15_101 {sa sb : Nat} {iv : mIv} {Q : Option mV → mIv → mRv → Prop} {x1 x2 x3 x5 x7 : Int} {b : Nat} (hb : b = 24 ∨ b = 45) (h0 : 0 ≤ x1) (h1 : x1 < 9) (h2 : 0 ≤ x7) (h3 : x7 < 5) : Ex 15 101 [some (.inr (.inr (some b))), some (.inl x1), some (.inl x2), some (.inr (.inl x3)), none, some (.inr (.inl x5)), none, some (.inl x7)] [] iv (RV sa sb) Q = Ex 15 92 [some (.inr (.inr (some b))), some (.inl x1), some (.inl x2), some (.inr (.inl x3)), none, some (.inr (.inl x5)), none, some (.inl (w32 (x7 + 1)))] [] (st2 iv (b + 7 + x1.toNat) x7.toNat (w64 ((iv (b + 7 + x1.toNat) x7.toNat) * (w64 (-x3))))) (RV sa sb) Q := by
  rcases hb with rfl | rfl
  all_goals (refine Eq.trans (ex_blkT 0 [(101, .aload_n 0, 1), (102, .getfield 34, 3), (105, .iload_n 1, 1), (106, .aaload, 1), (107, .iload 7, 2), (109, .dup2, 1), (110, .laload, 1), (111, .lload_n 3, 1), (112, .lneg, 1), (113, .lmul, 1), (114, .lastore, 1), (115, .iinc 7 1, 3), (118, .goto (-26), 3)] rfl (by decide +kernel) rfl (by exact (And.intro rfl (And.intro rfl (And.intro rfl (And.intro h0 (And.intro h1 (And.intro rfl (And.intro (by first | exact isA_r24 (by omega) | exact isA_r45 (by omega)) (And.intro h2 (And.intro (by first | exact lt_r24 (by omega) h3 | exact lt_r45 (by omega) h3) (And.intro (by first | exact isA_r24 (by omega) | exact isA_r45 (by omega)) (And.intro h2 (And.intro (by first | exact lt_r24 (by omega) h3 | exact lt_r45 (by omega) h3) trivial)))))))))))))) ?_; rfl)
set_option maxHeartbeats 8000000 in
theorem b15_121 {sa sb : Nat} {iv : mIv} {Q : Option mV → mIv → mRv → Prop} {x1 x2 x3 x5 x7 : Int} {b : Nat} (hb : b = 24 ∨ b = 45) (h0 : 0 ≤ x1) (h1 : x1 < 9) (h2 : 0 ≤ x2) (h3 : x2 < 5) : Ex 15 121 [some (.inr (.inr (some b))), some (.inl x1), some (.inl x2), some (.inr (.inl x3)), none, some (.inr (.inl x5)), none, some (.inl x7)] [] iv (RV sa sb) Q = Q none (st2 (st2 (st2 (st2 (st2 (st2 iv (b + 5) x1.toNat (w64 ((iv (b + 5) x1.toNat) * (w64 (-x3))))) (b + 7 + x1.toNat) x2.toNat (w64 (x3 * ((st2 iv (b + 5) x1.toNat (w64 ((iv (b + 5) x1.toNat) * (w64 (-x3))))) b 0)))) b 0 x5) (b + 2) x1.toNat ((st2 (st2 (st2 iv (b + 5) x1.toNat (w64 ((iv (b + 5) x1.toNat) * (w64 (-x3))))) (b + 7 + x1.toNat) x2.toNat (w64 (x3 * ((st2 iv (b + 5) x1.toNat (w64 ((iv (b + 5) x1.toNat) * (w64 (-x3))))) b 0)))) b 0 x5) (b + 4) x2.toNat)) (b + 3) x1.toNat ((st2 (st2 (st2 (st2 iv (b + 5) x1.toNat (w64 ((iv (b + 5) x1.toNat) * (w64 (-x3))))) (b + 7 + x1.toNat) x2.toNat (w64 (x3 * ((st2 iv (b + 5) x1.toNat (w64 ((iv (b + 5) x1.toNat) * (w64 (-x3))))) b 0)))) b 0 x5) (b + 2) x1.toNat ((st2 (st2 (st2 iv (b + 5) x1.toNat (w64 ((iv (b + 5) x1.toNat) * (w64 (-x3))))) (b + 7 + x1.toNat) x2.toNat (w64 (x3 * ((st2 iv (b + 5) x1.toNat (w64 ((iv (b + 5) x1.toNat) * (w64 (-x3))))) b 0)))) b 0 x5) (b + 4) x2.toNat)) b 15)) (b + 4) x2.toNat ((st2 (st2 (st2 iv (b + 5) x1.toNat (w64 ((iv (b + 5) x1.toNat) * (w64 (-x3))))) (b + 7 + x1.toNat) x2.toNat (w64 (x3 * ((st2 iv (b + 5) x1.toNat (w64 ((iv (b + 5) x1.toNat) * (w64 (-x3))))) b 0)))) b 0 x5) (b + 2) x1.toNat)) (RV sa sb) := by
  rcases hb with rfl | rfl
  all_goals (refine Eq.trans (ex_blkT 0 [(121, .aload_n 0, 1), (122, .getfield 29, 3), (125, .iload_n 1, 1), (126, .dup2, 1), (127, .laload, 1), (128, .lload_n 3, 1), (129, .lneg, 1), (130, .lmul, 1), (131, .lastore, 1), (132, .aload_n 0, 1), (133, .getfield 34, 3), (136, .iload_n 1, 1), (137, .aaload, 1), (138, .iload_n 2, 1), (139, .lload_n 3, 1), (140, .aload_n 0, 1), (141, .getfield 9, 3), (144, .lmul, 1), (145, .lastore, 1), (146, .aload_n 0, 1), (147, .lload 5, 2), (149, .putfield 9, 3), (152, .aload_n 0, 1), (153, .getfield 19, 3), (156, .iload_n 1, 1), (157, .iaload, 1), (158, .istore 7, 2), (160, .aload_n 0, 1), (161, .getfield 19, 3), (164, .iload_n 1, 1), (165, .aload_n 0, 1), (166, .getfield 26, 3), (169, .iload_n 2, 1), (170, .iaload, 1), (171, .iastore, 1), (172, .aload_n 0, 1), (173, .getfield 23, 3), (176, .iload_n 1, 1), (177, .aload_n 0, 1), (178, .getfield 133, 3), (181, .iastore, 1), (182, .aload_n 0, 1), (183, .getfield 26, 3), (186, .iload_n 2, 1), (187, .iload 7, 2), (189, .iastore, 1)] rfl (by decide +kernel) rfl (by exact (And.intro rfl (And.intro rfl (And.intro (And.intro rfl rfl) (And.intro h0 (And.intro h1 (And.intro (And.intro rfl rfl) (And.intro h0 (And.intro h1 (And.intro rfl (And.intro rfl (And.intro rfl (And.intro h0 (And.intro h1 (And.intro rfl (And.intro rfl (And.intro (by first | exact isA_r24 (by omega) | exact isA_r45 (by omega)) (And.intro h2 (And.intro (by first | exact lt_r24 (by omega) h3 | exact lt_r45 (by omega) h3) (And.intro rfl (And.intro rfl (And.intro rfl (And.intro (And.intro rfl rfl) (And.intro h0 (And.intro h1 (And.intro rfl (And.intro rfl (And.intro rfl (And.intro rfl (And.intro (And.intro rfl rfl) (And.intro h2 (And.intro h3 (And.intro (And.intro rfl rfl) (And.intro h0 (And.intro h1 (And.intro rfl (And.intro rfl (And.intro rfl (And.intro (And.intro rfl rfl) (And.intro h0 (And.intro h1 (And.intro rfl (And.intro rfl (And.intro (And.intro rfl rfl) (And.intro h2 (And.intro h3 trivial))))))))))))))))))))))))))))))))))))))))))))))) ?_; exact (ex_retT (M := 15) (pc := 190) (i := .return_) (n := 1) (rt := none) (by decide +kernel) (fun _ => rfl) rfl (fun _ _ _ => rfl) rfl rfl (by exact trivial)))
set_option maxHeartbeats 8000000 in
theorem b16_0 {sa sb : Nat} {iv : mIv} {Q : Option mV → mIv → mRv → Prop} {x1 x2 x3 x5 : Int} {b : Nat} (hb : b = 24 ∨ b = 45) (h0 : 0 ≤ x1) (h1 : x1 < 9) (h2 : 0 ≤ x2) (h3 : x2 < 9) (h4 : 0 ≤ iv b 14) (h5 : iv b 14 < 5) : Ex 16 0 [some (.inr (.inr (some b))), some (.inl x1), some (.inl x2), some (.inr (.inl x3)), none, some (.inr (.inl x5)), none, none, none, none, none, none] [] iv (RV sa sb) Q = (if iv b 0 = 0 then Ex 16 53 [some (.inr (.inr (some b))), some (.inl x1), some (.inl x2), some (.inr (.inl x3)), none, some (.inr (.inl x5)), none, some (.inr (.inr (some (b + 7 + x1.toNat)))), some (.inr (.inr (some (b + 7 + x2.toNat)))), some (.inr (.inl (w64 (x3 * (iv (b + 7 + x2.toNat) (iv b 14).toNat))))), none, none] [] iv (RV sa sb) Q else Ex 16 36 [some (.inr (.inr (some b))), some (.inl x1), some (.inl x2), some (.inr (.inl x3)), none, some (.inr (.inl x5)), none, some (.inr (.inr (some (b + 7 + x1.toNat)))), some (.inr (.inr (some (b + 7 + x2.toNat)))), some (.inr (.inl (w64 (x3 * (iv (b + 7 + x2.toNat) (iv b 14).toNat))))), none, none] [] iv (RV sa sb) Q) := by
  rcases hb with rfl | rfl
  all_goals (refine Eq.trans (ex_blkT 0 [(0, .aload_n 0, 1), (1, .getfield 34, 3), (4, .iload_n 1, 1), (5, .aaload, 1), (6, .astore 7, 2), (8, .aload_n 0, 1), (9, .getfield 34, 3), (12, .iload_n 2, 1), (13, .aaload, 1), (14, .astore 8, 2), (16, .lload_n 3, 1), (17, .aload 8, 2), (19, .aload_n 0, 1), (20, .getfield 130, 3), (23, .laload, 1), (24, .lmul, 1), (25, .lstore 9, 2), (27, .aload_n 0, 1), (28, .getfield 9, 3), (31, .lconst 0, 1), (32, .lcmp, 1)] rfl (by decide +kernel) rfl (by exact (And.intro rfl (And.intro rfl (And.intro rfl (And.intro h0 (And.intro h1 (And.intro rfl (And.intro rfl (And.intro rfl (And.intro rfl (And.intro h2 (And.intro h3 (And.intro rfl (And.intro rfl (And.intro (by first | exact isA_r24 (by omega) | exact isA_r45 (by omega)) (And.intro h4 (And.intro (by first | exact lt_r24 (by omega) h5 | exact lt_r45 (by omega) h5) (And.intro rfl trivial))))))))))))))))))) ?_; exact (ex_brI (M := 16) (pc := 33) (i := .ifCond .eq 20) (n := 3) _ (by decide +kernel) (fun _ => rfl) rfl (lc_eq _ _)))
theorem b16_36 {sa sb : Nat} {iv : mIv} {Q : Option mV → mIv → mRv → Prop} {x1 x2 x3 x5 x9 : Int} {b k7 k8 : Nat} (hb : b = 24 ∨ b = 45) (hk7 : k7 < 9) (hk8 : k8 < 9) : Ex 16 36 [some (.inr (.inr (some b))), some (.inl x1), some (.inl x2), some (.inr (.inl x3)), none, some (.inr (.inl x5)), none, some (.inr (.inr (some (b + 7 + k7)))), some (.inr (.inr (some (b + 7 + k8)))), some (.inr (.inl x9)), none, none] [] iv (RV sa sb) Q = (if x9 = 0 then Ex 16 43 [some (.inr (.inr (some b))), some (.inl x1), some (.inl x2), some (.inr (.inl x3)), none, some (.inr (.inl x5)), none, some (.inr (.inr (some (b + 7 + k7)))), some (.inr (.inr (some (b + 7 + k8)))), some (.inr (.inl x9)), none, none] [] iv (RV sa sb) Q else Ex 16 54 [some (.inr (.inr (some b))), some (.inl x1), some (.inl x2), some (.inr (.inl x3)), none, some (.inr (.inl x5)), none, some (.inr (.inr (some (b + 7 + k7)))), some (.inr (.inr (some (b + 7 + k8)))), some (.inr (.inl x9)), none, none] [] iv (RV sa sb) Q) := by
  rcases hb with rfl | rfl
  all_goals (refine Eq.trans (ex_blkT 0 [(36, .lload 9, 2), (38, .lconst 0, 1), (39, .lcmp, 1)] rfl (by decide +kernel) rfl (by exact trivial)) ?_; exact (ex_brN (M := 16) (pc := 40) (i := .ifCond .ne 14) (n := 3) _ (by decide +kernel) (fun _ => rfl) rfl (not_congr (lc_eq _ _))))
theorem b16_43 {sa sb : Nat} {iv : mIv} {Q : Option mV → mIv → mRv → Prop} {x1 x2 x3 x5 x9 : Int} {b k7 k8 : Nat} (hb : b = 24 ∨ b = 45) (hk7 : k7 < 9) (hk8 : k8 < 9) : Ex 16 43 [some (.inr (.inr (some b))), some (.inl x1), some (.inl x2), some (.inr (.inl x3)), none, some (.inr (.inl x5)), none, some (.inr (.inr (some (b + 7 + k7)))), some (.inr (.inr (some (b + 7 + k8)))), some (.inr (.inl x9)), none, none] [] iv (RV sa sb) Q = (if x5 = iv b 0 then Ex 16 53 [some (.inr (.inr (some b))), some (.inl x1), some (.inl x2), some (.inr (.inl x3)), none, some (.inr (.inl x5)), none, some (.inr (.inr (some (b + 7 + k7)))), some (.inr (.inr (some (b + 7 + k8)))), some (.inr (.inl x9)), none, none] [] iv (RV sa sb) Q else Ex 16 54 [some (.inr (.inr (some b))), some (.inl x1), some (.inl x2), some (.inr (.inl x3)), none, some (.inr (.inl x5)), none, some (.inr (.inr (some (b + 7 + k7)))), some (.inr (.inr (some (b + 7 + k8)))), some (.inr (.inl x9)), none, none] [] iv (RV sa sb) Q) := by
  rcases hb with rfl | rfl
  all_goals (refine Eq.trans (ex_blkT 0 [(43, .lload 5, 2), (45, .aload_n 0, 1), (46, .getfield 9, 3), (49, .lcmp, 1)] rfl (by decide +kernel) rfl (by exact (And.intro rfl trivial))) ?_; exact (ex_brN (M := 16) (pc := 50) (i := .ifCond .ne 4) (n := 3) _ (by decide +kernel) (fun _ => rfl) rfl (not_congr (lc_eq _ _))))
theorem b16_53 {sa sb : Nat} {iv : mIv} {Q : Option mV → mIv → mRv → Prop} {x1 x2 x3 x5 x9 : Int} {b k7 k8 : Nat} (hb : b = 24 ∨ b = 45) (hk7 : k7 < 9) (hk8 : k8 < 9) : Ex 16 53 [some (.inr (.inr (some b))), some (.inl x1), some (.inl x2), some (.inr (.inl x3)), none, some (.inr (.inl x5)), none, some (.inr (.inr (some (b + 7 + k7)))), some (.inr (.inr (some (b + 7 + k8)))), some (.inr (.inl x9)), none, none] [] iv (RV sa sb) Q = Q none iv (RV sa sb) := by
  rcases hb with rfl | rfl
  all_goals exact (ex_retT (M := 16) (pc := 53) (i := .return_) (n := 1) (rt := none) (by decide +kernel) (fun _ => rfl) rfl (fun _ _ _ => rfl) rfl rfl (by exact trivial))
theorem b16_54 {sa sb : Nat} {iv : mIv} {Q : Option mV → mIv → mRv → Prop} {x1 x2 x3 x5 x9 : Int} {b k7 k8 : Nat} (hb : b = 24 ∨ b = 45) (hk7 : k7 < 9) (hk8 : k8 < 9) : Ex 16 54 [some (.inr (.inr (some b))), some (.inl x1), some (.inl x2), some (.inr (.inl x3)), none, some (.inr (.inl x5)), none, some (.inr (.inr (some (b + 7 + k7)))), some (.inr (.inr (some (b + 7 + k8)))), some (.inr (.inl x9)), none, none] [] iv (RV sa sb) Q = Ex 16 57 [some (.inr (.inr (some b))), some (.inl x1), some (.inl x2), some (.inr (.inl x3)), none, some (.inr (.inl x5)), none, some (.inr (.inr (some (b + 7 + k7)))), some (.inr (.inr (some (b + 7 + k8)))), some (.inr (.inl x9)), none, some (.inl 0)] [] iv (RV sa sb) Q := by
  rcases hb with rfl | rfl
  all_goals (refine Eq.trans (ex_blkT 0 [(54, .iconst 0, 1), (55, .istore 11, 2)] rfl (by decide +kernel) rfl (by exact trivial)) ?_; rfl)
theorem b16_57 {sa sb : Nat} {iv : mIv} {Q : Option mV → mIv → mRv → Prop} {x1 x2 x3 x5 x9 x11 : Int} {b k7 k8 : Nat} (hb : b = 24 ∨ b = 45) (hk7 : k7 < 9) (hk8 : k8 < 9) : Ex 16 57 [some (.inr (.inr (some b))), some (.inl x1), some (.inl x2), some (.inr (.inl x3)), none, some (.inr (.inl x5)), none, some (.inr (.inr (some (b + 7 + k7)))), some (.inr (.inr (some (b + 7 + k8)))), some (.inr (.inl x9)), none, some (.inl x11)] [] iv (RV sa sb) Q = (if x11 < iv b 3 then Ex 16 66 [some (.inr (.inr (some b))), some (.inl x1), some (.inl x2), some (.inr (.inl x3)), none, some (.inr (.inl x5)), none, some (.inr (.inr (some (b + 7 + k7)))), some (.inr (.inr (some (b + 7 + k8)))), some (.inr (.inl x9)), none, some (.inl x11)] [] iv (RV sa sb) Q else Ex 16 99 [some (.inr (.inr (some b))), some (.inl x1), some (.inl x2), some (.inr (.inl x3)), none, some (.inr (.inl x5)), none, some (.inr (.inr (some (b + 7 + k7)))), some (.inr (.inr (some (b + 7 + k8)))), some (.inr (.inl x9)), none, some (.inl x11)] [] iv (RV sa sb) Q) := by
  rcases hb with rfl | rfl
  all_goals (refine Eq.trans (ex_blkT 0 [(57, .iload 11, 2), (59, .aload_n 0, 1), (60, .getfield 58, 3)] rfl (by decide +kernel) rfl (by exact (And.intro rfl trivial))) ?_; exact (ex_brN (M := 16) (pc := 63) (i := .if_icmp .ge 36) (n := 3) _ (by decide +kernel) (fun _ => rfl) rfl Int.not_lt.symm))
set_option maxHeartbeats 8000000 in
theorem b16_66 {sa sb : Nat} {iv : mIv} {Q : Option mV → mIv → mRv → Prop} {x1 x2 x3 x5 x9 x11 : Int} {b k7 k8 : Nat} (hb : b = 24 ∨ b = 45) (hk7 : k7 < 9) (hk8 : k8 < 9) (h0 : 0 ≤ x11) (h1 : x11 < 5) (h2 : iv b 0 ≠ 0) : Ex 16 66 [some (.inr (.inr (some b))), some (.inl x1), some (.inl x2), some (.inr (.inl x3)), none, some (.inr (.inl x5)), none, some (.inr (.inr (some (b + 7 + k7)))), some (.inr (.inr (some (b + 7 + k8)))), some (.inr (.inl x9)), none, some (.inl x11)] [] iv (RV sa sb) Q = Ex 16 57 [some (.inr (.inr (some b))), some (.inl x1), some (.inl x2), some (.inr (.inl x3)), none, some (.inr (.inl x5)), none, some (.inr (.inr (some (b + 7 + k7)))), some (.inr (.inr (some (b + 7 + k8)))), some (.inr (.inl x9)), none, some (.inl (w32 (x11 + 1)))] [] (st2 iv (b + 7 + k8) x11.toNat (w64 ((w64 ((w64 ((iv (b + 7 + k8) x11.toNat) * x5)) - (w64 (x9 * (iv (b + 7 + k7) x11.toNat))))).tdiv (iv b 0)))) (RV sa sb) Q := by
  rcases hb with rfl | rfl
  all_goals (refine Eq.trans (ex_blkT 0 [(66, .aload 8, 2), (68, .iload 11, 2), (70, .aload 8, 2), (72, .iload 11, 2), (74, .laload, 1), (75, .lload 5, 2), (77, .lmul, 1), (78, .lload 9, 2), (80, .aload 7, 2), (82, .iload 11, 2), (84, .laload, 1), (85, .lmul, 1), (86, .lsub, 1), (87, .aload_n 0, 1), (88, .getfield 9, 3), (91, .ldiv, 1), (92, .lastore, 1), (93, .iinc 11 1, 3), (96, .goto (-39), 3)] rfl (by decide +kernel) rfl (by exact (And.intro (by first | exact isA_r24 (by omega) | exact isA_r45 (by omega)) (And.intro h0 (And.intro (by first | exact lt_r24 (by omega) h1 | exact lt_r45 (by omega) h1) (And.intro (by first | exact isA_r24 (by omega) | exact isA_r45 (by omega)) (And.intro h0 (And.intro (by first | exact lt_r24 (by omega) h1 | exact lt_r45 (by omega) h1) (And.intro rfl (And.intro h2 (And.intro (by first | exact isA_r24 (by omega) | exact isA_r45 (by omega)) (And.intro h0 (And.intro (by first | exact lt_r24 (by omega) h1 | exact lt_r45 (by omega) h1) trivial))))))))))))) ?_; rfl)
set_option maxHeartbeats 8000000 in
theorem b16_99 {sa sb : Nat} {iv : mIv} {Q : Option mV → mIv → mRv → Prop} {x1 x2 x3 x5 x9 x11 : Int} {b k7 k8 : Nat} (hb : b = 24 ∨ b = 45) (hk7 : k7 < 9) (hk8 : k8 < 9) (h0 : 0 ≤ x2) (h1 : x2 < 9) (h2 : 0 ≤ x1) (h3 : x1 < 9) (h4 : iv b 0 ≠ 0) (h5 : 0 ≤ (st2 iv (b + 5) x2.toNat (w64 ((w64 ((w64 ((iv (b + 5) x2.toNat) * x5)) - (w64 (x9 * (iv (b + 5) x1.toNat))))).tdiv (iv b 0)))) b 14) (h6 : (st2 iv (b + 5) x2.toNat (w64 ((w64 ((w64 ((iv (b + 5) x2.toNat) * x5)) - (w64 (x9 * (iv (b + 5) x1.toNat))))).tdiv (iv b 0)))) b 14 < 5) : Ex 16 99 [some (.inr (.inr (some b))), some (.inl x1), some (.inl x2), some (.inr (.inl x3)), none, some (.inr (.inl x5)), none, some (.inr (.inr (some (b + 7 + k7)))), some (.inr (.inr (some (b + 7 + k8)))), some (.inr (.inl x9)), none, some (.inl x11)] [] iv (RV sa sb) Q = Q none (st2 (st2 iv (b + 5) x2.toNat (w64 ((w64 ((w64 ((iv (b + 5) x2.toNat) * x5)) - (w64 (x9 * (iv (b + 5) x1.toNat))))).tdiv (iv b 0)))) (b + 7 + k8) ((st2 iv (b + 5) x2.toNat (w64 ((w64 ((w64 ((iv (b + 5) x2.toNat) * x5)) - (w64 (x9 * (iv (b + 5) x1.toNat))))).tdiv (iv b 0)))) b 14).toNat x9) (RV sa sb) := by
  rcases hb with rfl | rfl
  all_goals (refine Eq.trans (ex_blkT 0 [(99, .aload_n 0, 1), (100, .getfield 29, 3), (103, .iload_n 2, 1), (104, .aload_n 0, 1), (105, .getfield 29, 3), (108, .iload_n 2, 1), (109, .laload, 1), (110, .lload 5, 2), (112, .lmul, 1), (113, .lload 9, 2), (115, .aload_n 0, 1), (116, .getfield 29, 3), (119, .iload_n 1, 1), (120, .laload, 1), (121, .lmul, 1), (122, .lsub, 1), (123, .aload_n 0, 1), (124, .getfield 9, 3), (127, .ldiv, 1), (128, .lastore, 1), (129, .aload 8, 2), (131, .aload_n 0, 1), (132, .getfield 130, 3), (135, .lload 9, 2), (137, .lastore, 1)] rfl (by decide +kernel) rfl (by exact (And.intro rfl (And.intro rfl (And.intro rfl (And.intro rfl (And.intro (And.intro rfl rfl) (And.intro h0 (And.intro h1 (And.intro rfl (And.intro rfl (And.intro (And.intro rfl rfl) (And.intro h2 (And.intro h3 (And.intro rfl (And.intro h4 (And.intro (And.intro rfl rfl) (And.intro h0 (And.intro h1 (And.intro rfl (And.intro (by first | exact isA_r24 (by omega) | exact isA_r45 (by omega)) (And.intro h5 (And.intro (by first | exact lt_r24 (by omega) h6 | exact lt_r45 (by omega) h6) trivial))))))))))))))))))))))) ?_; exact (ex_retT (M := 16) (pc := 138) (i := .return_) (n := 1) (rt := none) (by decide +kernel) (fun _ => rfl) rfl (fun _ _ _ => rfl) rfl rfl (by exact trivial)))
theorem b17_0 {sa sb : Nat} {iv : mIv} {Q : Option mV → mIv → mRv → Prop} {x2 x3 x4 x5 : Int} {k f : Nat} (hk : k < 9) (hf : f = 2 ∨ f = 3) : Ex 17 0 [some (.inr (.inr (some (6 + 2 * k)))), some (.inr (.inr (some f))), some (.inl x2), some (.inl x3), some (.inl x4), some (.inl x5), none] [] iv (RV sa sb) Q = Ex 17 3 [some (.inr (.inr (some (6 + 2 * k)))), some (.inr (.inr (some f))), some (.inl x2), some (.inl x3), some (.inl x4), some (.inl x5), some (.inl 0)] [] iv (RV sa sb) Q := by
  rcases hf with rfl | rfl
  all_goals (refine Eq.trans (ex_blkT 1 [(0, .iconst 0, 1), (1, .istore 6, 2)] rfl (by decide +kernel) rfl (by exact trivial)) ?_; rfl)
theorem b17_3 {sa sb : Nat} {iv : mIv} {Q : Option mV → mIv → mRv → Prop} {x2 x3 x4 x5 x6 : Int} {k f : Nat} (hk : k < 9) (hf : f = 2 ∨ f = 3) : Ex 17 3 [some (.inr (.inr (some (6 + 2 * k)))), some (.inr (.inr (some f))), some (.inl x2), some (.inl x3), some (.inl x4), some (.inl x5), some (.inl x6)] [] iv (RV sa sb) Q = (if x6 < 5 then Ex 17 9 [some (.inr (.inr (some (6 + 2 * k)))), some (.inr (.inr (some f))), some (.inl x2), some (.inl x3), some (.inl x4), some (.inl x5), some (.inl x6)] [] iv (RV sa sb) Q else Ex 17 33 [some (.inr (.inr (some (6 + 2 * k)))), some (.inr (.inr (some f))), some (.inl x2), some (.inl x3), some (.inl x4), some (.inl x5), some (.inl x6)] [] iv (RV sa sb) Q) := by
  rcases hf with rfl | rfl
  all_goals (refine Eq.trans (ex_blkT 1 [(3, .iload 6, 2), (5, .iconst 5, 1)] rfl (by decide +kernel) rfl (by exact trivial)) ?_; exact (ex_brN (M := 17) (pc := 6) (i := .if_icmp .ge 27) (n := 3) _ (by decide +kernel) (fun _ => rfl) rfl Int.not_lt.symm))
theorem b17_9 {sa sb : Nat} {iv : mIv} {Q : Option mV → mIv → mRv → Prop} {x2 x3 x4 x5 x6 : Int} {k f : Nat} (hk : k < 9) (hf : f = 2 ∨ f = 3) : Ex 17 9 [some (.inr (.inr (some (6 + 2 * k)))), some (.inr (.inr (some f))), some (.inl x2), some (.inl x3), some (.inl x4), some (.inl x5), some (.inl x6)] [] iv (RV sa sb) Q = (if x6 < 5 then Ex 17 16 [some (.inr (.inr (some (6 + 2 * k)))), some (.inr (.inr (some f))), some (.inl x2), some (.inl x3), some (.inl x4), some (.inl x5), some (.inl x6)] [] iv (RV sa sb) Q else Ex 17 33 [some (.inr (.inr (some (6 + 2 * k)))), some (.inr (.inr (some f))), some (.inl x2), some (.inl x3), some (.inl x4), some (.inl x5), some (.inl x6)] [] iv (RV sa sb) Q) := by
  rcases hf with rfl | rfl
  all_goals (refine Eq.trans (ex_blkT 1 [(9, .iload 6, 2), (11, .aload_n 1, 1), (12, .arraylength, 1)] rfl (by decide +kernel) rfl (by exact (And.intro (And.intro (by decide) (by decide)) trivial))) ?_; exact (ex_brN (M := 17) (pc := 13) (i := .if_icmp .ge 20) (n := 3) _ (by decide +kernel) (fun _ => rfl) rfl Int.not_lt.symm))
set_option maxHeartbeats 8000000 in
theorem b17_16 {sa sb : Nat} {iv : mIv} {Q : Option mV → mIv → mRv → Prop} {x2 x3 x4 x5 x6 : Int} {k f : Nat} (hk : k < 9) (hf : f = 2 ∨ f = 3) (h0 : 0 ≤ x6) (h1 : x6 < 5) : Ex 17 16 [some (.inr (.inr (some (6 + 2 * k)))), some (.inr (.inr (some f))), some (.inl x2), some (.inl x3), some (.inl x4), some (.inl x5), some (.inl x6)] [] iv (RV sa sb) Q = Ex 17 3 [some (.inr (.inr (some (6 + 2 * k)))), some (.inr (.inr (some f))), some (.inl x2), some (.inl x3), some (.inl x4), some (.inl x5), some (.inl (w32 (x6 + 1)))] [] (st2 iv (7 + 2 * k) x6.toNat (iv f x6.toNat)) (RV sa sb) Q := by
  rcases hf with rfl | rfl
  all_goals (rcases (show k = 0 ∨ k = 1 ∨ k = 2 ∨ k = 3 ∨ k = 4 ∨ k = 5 ∨ k = 6 ∨ k = 7 ∨ k = 8 by omega) with rfl | rfl | rfl | rfl | rfl | rfl | rfl | rfl | rfl)
  all_goals (refine Eq.trans (ex_blkT 1 [(16, .aload_n 0, 1), (17, .getfield 9, 3), (20, .iload 6, 2), (22, .aload_n 1, 1), (23, .iload 6, 2), (25, .iaload, 1), (26, .iastore, 1), (27, .iinc 6 1, 3), (30, .goto (-27), 3)] rfl (by decide +kernel) rfl (by exact (And.intro (by first | exact isO_w (by omega) | exact rfl) (And.intro rfl (And.intro (And.intro rfl rfl) (And.intro h0 (And.intro h1 (And.intro (And.intro rfl rfl) (And.intro h0 (And.intro h1 trivial)))))))))) ?_; rfl)
set_option maxHeartbeats 8000000 in
theorem b17_33 {sa sb : Nat} {iv : mIv} {Q : Option mV → mIv → mRv → Prop} {x2 x3 x4 x5 x6 : Int} {k f : Nat} (hk : k < 9) (hf : f = 2 ∨ f = 3) : Ex 17 33 [some (.inr (.inr (some (6 + 2 * k)))), some (.inr (.inr (some f))), some (.inl x2), some (.inl x3), some (.inl x4), some (.inl x5), some (.inl x6)] [] iv (RV sa sb) Q = Q none (st2 (st2 (st2 (st2 (st2 (st2 iv (6 + 2 * k) 2 x2) (6 + 2 * k) 3 x3) (6 + 2 * k) 4 x4) (6 + 2 * k) 5 x5) (6 + 2 * k) 1 0) (6 + 2 * k) 0 1) (RV sa sb) := by
  rcases hf with rfl | rfl
  all_goals (refine Eq.trans (ex_blkT 1 [(33, .aload_n 0, 1), (34, .iload_n 2, 1), (35, .putfield 15, 3), (38, .aload_n 0, 1), (39, .iload_n 3, 1), (40, .putfield 19, 3), (43, .aload_n 0, 1), (44, .iload 4, 2), (46, .putfield 22, 3), (49, .aload_n 0, 1), (50, .iload 5, 2), (52, .putfield 25, 3), (55, .aload_n 0, 1), (56, .iconst 0, 1), (57, .putfield 28, 3), (60, .aload_n 0, 1), (61, .iconst 1, 1), (62, .putfield 32, 3)] rfl (by decide +kernel) rfl (by exact (And.intro (by first | exact isO_w (by omega) | exact rfl) (And.intro (by first | exact isO_w (by omega) | exact rfl) (And.intro (by first | exact isO_w (by omega) | exact rfl) (And.intro (by first | exact isO_w (by omega) | exact rfl) (And.intro (by first | exact isO_w (by omega) | exact rfl) (And.intro (Or.inl rfl) (And.intro (by first | exact isO_w (by omega) | exact rfl) (And.intro (Or.inr rfl) trivial)))))))))) ?_; exact (ex_retT (M := 17) (pc := 65) (i := .return_) (n := 1) (rt := none) (by decide +kernel) (fun _ => rfl) rfl (fun _ _ _ => rfl) rfl rfl (by exact trivial)))
theorem b18_0 {sa sb : Nat} {iv : mIv} {Q : Option mV → mIv → mRv → Prop} {k : Nat} (hk : k < 9) : Ex 18 0 [some (.inr (.inr (some (6 + 2 * k))))] [] iv (RV sa sb) Q = (if iv (6 + 2 * k) 0 = 0 then Ex 18 18 [some (.inr (.inr (some (6 + 2 * k))))] [] iv (RV sa sb) Q else Ex 18 7 [some (.inr (.inr (some (6 + 2 * k))))] [] iv (RV sa sb) Q) := by
  (refine Eq.trans (ex_blkT 1 [(0, .aload_n 0, 1), (1, .getfield 32, 3)] rfl (by decide +kernel) rfl (by exact (And.intro (by first | exact isO_w (by omega) | exact rfl) trivial))) ?_; exact (ex_brI (M := 18) (pc := 4) (i := .ifCond .eq 14) (n := 3) _ (by decide +kernel) (fun _ => rfl) rfl Iff.rfl))
theorem b18_7 {sa sb : Nat} {iv : mIv} {Q : Option mV → mIv → mRv → Prop} {k : Nat} (hk : k < 9) : Ex 18 7 [some (.inr (.inr (some (6 + 2 * k))))] [] iv (RV sa sb) Q = (if iv (6 + 2 * k) 1 = 0 then Ex 18 14 [some (.inr (.inr (some (6 + 2 * k))))] [] iv (RV sa sb) Q else Ex 18 18 [some (.inr (.inr (some (6 + 2 * k))))] [] iv (RV sa sb) Q) := by
  (refine Eq.trans (ex_blkT 1 [(7, .aload_n 0, 1), (8, .getfield 28, 3)] rfl (by decide +kernel) rfl (by exact (And.intro (by first | exact isO_w (by omega) | exact rfl) trivial))) ?_; exact (ex_brN (M := 18) (pc := 11) (i := .ifCond .ne 7) (n := 3) _ (by decide +kernel) (fun _ => rfl) rfl Iff.rfl))
theorem b18_14 {sa sb : Nat} {iv : mIv} {Q : Option mV → mIv → mRv → Prop} {k : Nat} (hk : k < 9) : Ex 18 14 [some (.inr (.inr (some (6 + 2 * k))))] [] iv (RV sa sb) Q = Ex 18 19 [some (.inr (.inr (some (6 + 2 * k))))] [.inl 1] iv (RV sa sb) Q := by
  (refine Eq.trans (ex_blkT 1 [(14, .iconst 1, 1), (15, .goto 4, 3)] rfl (by decide +kernel) rfl (by exact trivial)) ?_; rfl)
theorem b18_18 {sa sb : Nat} {iv : mIv} {Q : Option mV → mIv → mRv → Prop} {k : Nat} (hk : k < 9) : Ex 18 18 [some (.inr (.inr (some (6 + 2 * k))))] [] iv (RV sa sb) Q = Ex 18 19 [some (.inr (.inr (some (6 + 2 * k))))] [.inl 0] iv (RV sa sb) Q := by
  (refine Eq.trans (ex_blkT 1 [(18, .iconst 0, 1)] rfl (by decide +kernel) rfl (by exact trivial)) ?_; rfl)
theorem b18_19 {sa sb : Nat} {iv : mIv} {Q : Option mV → mIv → mRv → Prop} {xs0 : Int} {k : Nat} (hk : k < 9) (hz : xs0 = 0 ∨ xs0 = 1) : Ex 18 19 [some (.inr (.inr (some (6 + 2 * k))))] [.inl xs0] iv (RV sa sb) Q = Q (some (.inl xs0)) iv (RV sa sb) := by
  exact (ex_retT (M := 18) (pc := 19) (i := .ireturn) (n := 1) (rt := some .boolean) (by decide +kernel) (fun _ => rfl) rfl (fun _ _ _ => rfl) rfl rfl (by exact (And.intro hz trivial)))
theorem b19_0 {sa sb : Nat} {iv : mIv} {Q : Option mV → mIv → mRv → Prop} {k : Nat} (hk : k < 9) : Ex 19 0 [some (.inr (.inr (some (6 + 2 * k))))] [] iv (RV sa sb) Q = (if iv (6 + 2 * k) 2 = 2 then Ex 19 8 [some (.inr (.inr (some (6 + 2 * k))))] [] iv (RV sa sb) Q else Ex 19 12 [some (.inr (.inr (some (6 + 2 * k))))] [] iv (RV sa sb) Q) := by
  (refine Eq.trans (ex_blkT 1 [(0, .aload_n 0, 1), (1, .getfield 15, 3), (4, .iconst 2, 1)] rfl (by decide +kernel) rfl (by exact (And.intro (by first | exact isO_w (by omega) | exact rfl) trivial))) ?_; exact (ex_brN (M := 19) (pc := 5) (i := .if_icmp .ne 7) (n := 3) _ (by decide +kernel) (fun _ => rfl) rfl Iff.rfl))
theorem b19_8 {sa sb : Nat} {iv : mIv} {Q : Option mV → mIv → mRv → Prop} {k : Nat} (hk : k < 9) : Ex 19 8 [some (.inr (.inr (some (6 + 2 * k))))] [] iv (RV sa sb) Q = Ex 19 16 [some (.inr (.inr (some (6 + 2 * k))))] [.inl 0] iv (RV sa sb) Q := by
  (refine Eq.trans (ex_blkT 1 [(8, .iconst 0, 1), (9, .goto 7, 3)] rfl (by decide +kernel) rfl (by exact trivial)) ?_; rfl)
theorem b19_12 {sa sb : Nat} {iv : mIv} {Q : Option mV → mIv → mRv → Prop} {k : Nat} (hk : k < 9) : Ex 19 12 [some (.inr (.inr (some (6 + 2 * k))))] [] iv (RV sa sb) Q = Ex 19 16 [some (.inr (.inr (some (6 + 2 * k))))] [.inl (iv (6 + 2 * k) 4)] iv (RV sa sb) Q := by
  (refine Eq.trans (ex_blkT 1 [(12, .aload_n 0, 1), (13, .getfield 22, 3)] rfl (by decide +kernel) rfl (by exact (And.intro (by first | exact isO_w (by omega) | exact rfl) trivial))) ?_; rfl)
theorem b19_16 {sa sb : Nat} {iv : mIv} {Q : Option mV → mIv → mRv → Prop} {xs0 : Int} {k : Nat} (hk : k < 9) : Ex 19 16 [some (.inr (.inr (some (6 + 2 * k))))] [.inl xs0] iv (RV sa sb) Q = Q (some (.inl xs0)) iv (RV sa sb) := by
  exact (ex_retT (M := 19) (pc := 16) (i := .ireturn) (n := 1) (rt := some .int) (by decide +kernel) (fun _ => rfl) rfl (fun _ _ _ => rfl) rfl rfl (by exact trivial))
theorem b20_0 {sa sb : Nat} {iv : mIv} {Q : Option mV → mIv → mRv → Prop} {k : Nat} (hk : k < 9) : Ex 20 0 [some (.inr (.inr (some (6 + 2 * k))))] [] iv (RV sa sb) Q = (if iv (6 + 2 * k) 2 = 1 then Ex 20 8 [some (.inr (.inr (some (6 + 2 * k))))] [] iv (RV sa sb) Q else Ex 20 12 [some (.inr (.inr (some (6 + 2 * k))))] [] iv (RV sa sb) Q) := by
  (refine Eq.trans (ex_blkT 1 [(0, .aload_n 0, 1), (1, .getfield 15, 3), (4, .iconst 1, 1)] rfl (by decide +kernel) rfl (by exact (And.intro (by first | exact isO_w (by omega) | exact rfl) trivial))) ?_; exact (ex_brN (M := 20) (pc := 5) (i := .if_icmp .ne 7) (n := 3) _ (by decide +kernel) (fun _ => rfl) rfl Iff.rfl))
theorem b20_8 {sa sb : Nat} {iv : mIv} {Q : Option mV → mIv → mRv → Prop} {k : Nat} (hk : k < 9) : Ex 20 8 [some (.inr (.inr (some (6 + 2 * k))))] [] iv (RV sa sb) Q = Ex 20 16 [some (.inr (.inr (some (6 + 2 * k))))] [.inl 0] iv (RV sa sb) Q := by
  (refine Eq.trans (ex_blkT 1 [(8, .iconst 0, 1), (9, .goto 7, 3)] rfl (by decide +kernel) rfl (by exact trivial)) ?_; rfl)
theorem b20_12 {sa sb : Nat} {iv : mIv} {Q : Option mV → mIv → mRv → Prop} {k : Nat} (hk : k < 9) : Ex 20 12 [some (.inr (.inr (some (6 + 2 * k))))] [] iv (RV sa sb) Q = Ex 20 16 [some (.inr (.inr (some (6 + 2 * k))))] [.inl (iv (6 + 2 * k) 4)] iv (RV sa sb) Q := by
  (refine Eq.trans (ex_blkT 1 [(12, .aload_n 0, 1), (13, .getfield 22, 3)] rfl (by decide +kernel) rfl (by exact (And.intro (by first | exact isO_w (by omega) | exact rfl) trivial))) ?_; rfl)
theorem b20_16 {sa sb : Nat} {iv : mIv} {Q : Option mV → mIv → mRv → Prop} {xs0 : Int} {k : Nat} (hk : k < 9) : Ex 20 16 [some (.inr (.inr (some (6 + 2 * k))))] [.inl xs0] iv (RV sa sb) Q = Q (some (.inl xs0)) iv (RV sa sb) := by
  exact (ex_retT (M := 20) (pc := 16) (i := .ireturn) (n := 1) (rt := some .int) (by decide +kernel) (fun _ => rfl) rfl (fun _ _ _ => rfl) rfl rfl (by exact trivial))
end
