-- ===== PART A: goes FIRST, ahead of the names: the tables' words, and 'selects' of the private methods out of them =====
/-- a private method of a class that the tables say can be made, by its rows of tables_1 -/
def lw_okq (q : MethodName × Nat) : Prop := (q.1.cls ≠ "java/lang/invoke/MethodHandle" ∧ q.1.cls ≠ "java/lang/invoke/VarHandle") ∧ Cond.instantiable q.1.cls q.2 ∈ tables_1 ∧ Cond.privateMethod q.1 ∈ tables_1 ∧ Cond.instanceMethod q.1 ∈ tables_1
theorem lw_p0 : lw_okq (⟨"QuadWorlds", "refused", "(I)I"⟩, 13) := ⟨⟨by decide +kernel, by decide +kernel⟩, List.mem_of_getElem? (i := 13) (by decide +kernel), List.mem_of_getElem? (i := 210) (by decide +kernel), List.mem_of_getElem? (i := 211) (by decide +kernel)⟩
theorem lw_p1 : lw_okq (⟨"QuadWorlds", "rowHasPointsOf", "(ILQuadWorlds$World;)Z"⟩, 13) := ⟨⟨by decide +kernel, by decide +kernel⟩, List.mem_of_getElem? (i := 13) (by decide +kernel), List.mem_of_getElem? (i := 214) (by decide +kernel), List.mem_of_getElem? (i := 215) (by decide +kernel)⟩
theorem lw_p2 : lw_okq (⟨"QuadWorlds", "setOfRow", "(I)J"⟩, 13) := ⟨⟨by decide +kernel, by decide +kernel⟩, List.mem_of_getElem? (i := 13) (by decide +kernel), List.mem_of_getElem? (i := 222) (by decide +kernel), List.mem_of_getElem? (i := 223) (by decide +kernel)⟩
theorem lw_p3 : lw_okq (⟨"QuadWorlds", "putSpare", "(I)I"⟩, 13) := ⟨⟨by decide +kernel, by decide +kernel⟩, List.mem_of_getElem? (i := 13) (by decide +kernel), List.mem_of_getElem? (i := 286) (by decide +kernel), List.mem_of_getElem? (i := 287) (by decide +kernel)⟩
theorem lw_p4 : lw_okq (⟨"QuadWorlds", "askedSet", "(J)I"⟩, 13) := ⟨⟨by decide +kernel, by decide +kernel⟩, List.mem_of_getElem? (i := 13) (by decide +kernel), List.mem_of_getElem? (i := 377) (by decide +kernel), List.mem_of_getElem? (i := 378) (by decide +kernel)⟩
theorem lw_p5 : lw_okq (⟨"QuadWorlds$Seeker", "open", "([J[J)V"⟩, 9) := ⟨⟨by decide +kernel, by decide +kernel⟩, List.mem_of_getElem? (i := 25) (by decide +kernel), List.mem_of_getElem? (i := 431) (by decide +kernel), List.mem_of_getElem? (i := 432) (by decide +kernel)⟩
theorem lw_p6 : lw_okq (⟨"QuadWorlds$Seeker", "take", "([J[J)V"⟩, 9) := ⟨⟨by decide +kernel, by decide +kernel⟩, List.mem_of_getElem? (i := 25) (by decide +kernel), List.mem_of_getElem? (i := 441) (by decide +kernel), List.mem_of_getElem? (i := 442) (by decide +kernel)⟩
theorem lw_p7 : lw_okq (⟨"QuadWorlds", "firstFound", "()I"⟩, 13) := ⟨⟨by decide +kernel, by decide +kernel⟩, List.mem_of_getElem? (i := 13) (by decide +kernel), List.mem_of_getElem? (i := 445) (by decide +kernel), List.mem_of_getElem? (i := 446) (by decide +kernel)⟩
theorem lw_p8 : lw_okq (⟨"QuadWorlds$Matcher", "open", "(LQuadWorlds$World;LQuadWorlds$World;)V"⟩, 7) := ⟨⟨by decide +kernel, by decide +kernel⟩, List.mem_of_getElem? (i := 65) (by decide +kernel), List.mem_of_getElem? (i := 500) (by decide +kernel), List.mem_of_getElem? (i := 501) (by decide +kernel)⟩
theorem lw_p9 : lw_okq (⟨"QuadWorlds$Matcher", "linesFit", "(LQuadWorlds$World;LQuadWorlds$World;)Z"⟩, 7) := ⟨⟨by decide +kernel, by decide +kernel⟩, List.mem_of_getElem? (i := 65) (by decide +kernel), List.mem_of_getElem? (i := 504) (by decide +kernel), List.mem_of_getElem? (i := 505) (by decide +kernel)⟩
theorem lw_p10 : lw_okq (⟨"QuadWorlds$Matcher", "imageOf", "(JI)J"⟩, 7) := ⟨⟨by decide +kernel, by decide +kernel⟩, List.mem_of_getElem? (i := 65) (by decide +kernel), List.mem_of_getElem? (i := 509) (by decide +kernel), List.mem_of_getElem? (i := 510) (by decide +kernel)⟩
theorem lw_p11 : lw_okq (⟨"QuadWorlds$Matcher", "take", "(LQuadWorlds$World;LQuadWorlds$World;)V"⟩, 7) := ⟨⟨by decide +kernel, by decide +kernel⟩, List.mem_of_getElem? (i := 65) (by decide +kernel), List.mem_of_getElem? (i := 520) (by decide +kernel), List.mem_of_getElem? (i := 521) (by decide +kernel)⟩
theorem lw_p12 : lw_okq (⟨"QuadWorlds", "rowHasPlaces", "(III)Z"⟩, 13) := ⟨⟨by decide +kernel, by decide +kernel⟩, List.mem_of_getElem? (i := 13) (by decide +kernel), List.mem_of_getElem? (i := 556) (by decide +kernel), List.mem_of_getElem? (i := 557) (by decide +kernel)⟩
theorem lw_p13 : lw_okq (⟨"QuadWorldsModel", "keep", "(III)I"⟩, 33) := ⟨⟨by decide +kernel, by decide +kernel⟩, List.mem_of_getElem? (i := 587) (by decide +kernel), List.mem_of_getElem? (i := 703) (by decide +kernel), List.mem_of_getElem? (i := 704) (by decide +kernel)⟩
theorem lw_p14 : lw_okq (⟨"QuadWorldsModel", "meets", "(I)I"⟩, 33) := ⟨⟨by decide +kernel, by decide +kernel⟩, List.mem_of_getElem? (i := 587) (by decide +kernel), List.mem_of_getElem? (i := 714) (by decide +kernel), List.mem_of_getElem? (i := 715) (by decide +kernel)⟩
theorem lw_p15 : lw_okq (⟨"QuadWorldsModel", "add", "(J)V"⟩, 33) := ⟨⟨by decide +kernel, by decide +kernel⟩, List.mem_of_getElem? (i := 587) (by decide +kernel), List.mem_of_getElem? (i := 725) (by decide +kernel), List.mem_of_getElem? (i := 726) (by decide +kernel)⟩
def lw_privs_1 : List (MethodName × Nat) := [(⟨"QuadWorlds", "refused", "(I)I"⟩, 13), (⟨"QuadWorlds", "rowHasPointsOf", "(ILQuadWorlds$World;)Z"⟩, 13), (⟨"QuadWorlds", "setOfRow", "(I)J"⟩, 13), (⟨"QuadWorlds", "putSpare", "(I)I"⟩, 13), (⟨"QuadWorlds", "askedSet", "(J)I"⟩, 13), (⟨"QuadWorlds$Seeker", "open", "([J[J)V"⟩, 9), (⟨"QuadWorlds$Seeker", "take", "([J[J)V"⟩, 9), (⟨"QuadWorlds", "firstFound", "()I"⟩, 13), (⟨"QuadWorlds$Matcher", "open", "(LQuadWorlds$World;LQuadWorlds$World;)V"⟩, 7), (⟨"QuadWorlds$Matcher", "linesFit", "(LQuadWorlds$World;LQuadWorlds$World;)Z"⟩, 7), (⟨"QuadWorlds$Matcher", "imageOf", "(JI)J"⟩, 7), (⟨"QuadWorlds$Matcher", "take", "(LQuadWorlds$World;LQuadWorlds$World;)V"⟩, 7), (⟨"QuadWorlds", "rowHasPlaces", "(III)Z"⟩, 13), (⟨"QuadWorldsModel", "keep", "(III)I"⟩, 33), (⟨"QuadWorldsModel", "meets", "(I)I"⟩, 33), (⟨"QuadWorldsModel", "add", "(J)V"⟩, 33)]
theorem lw_r1 : ∀ q ∈ lw_privs_1, lw_okq q := List.forall_mem_cons.mpr ⟨lw_p0, List.forall_mem_cons.mpr ⟨lw_p1, List.forall_mem_cons.mpr ⟨lw_p2, List.forall_mem_cons.mpr ⟨lw_p3, List.forall_mem_cons.mpr ⟨lw_p4, List.forall_mem_cons.mpr ⟨lw_p5, List.forall_mem_cons.mpr ⟨lw_p6, List.forall_mem_cons.mpr ⟨lw_p7, List.forall_mem_cons.mpr ⟨lw_p8, List.forall_mem_cons.mpr ⟨lw_p9, List.forall_mem_cons.mpr ⟨lw_p10, List.forall_mem_cons.mpr ⟨lw_p11, List.forall_mem_cons.mpr ⟨lw_p12, List.forall_mem_cons.mpr ⟨lw_p13, List.forall_mem_cons.mpr ⟨lw_p14, List.forall_mem_cons.mpr ⟨lw_p15, fun _ h => absurd h List.not_mem_nil⟩⟩⟩⟩⟩⟩⟩⟩⟩⟩⟩⟩⟩⟩⟩⟩
theorem lw_p16 : lw_okq (⟨"QuadWorldsModel", "isPerp", "(III)Z"⟩, 33) := ⟨⟨by decide +kernel, by decide +kernel⟩, List.mem_of_getElem? (i := 587) (by decide +kernel), List.mem_of_getElem? (i := 733) (by decide +kernel), List.mem_of_getElem? (i := 734) (by decide +kernel)⟩
theorem lw_p17 : lw_okq (⟨"QuadWorldsModel", "lineOf", "(III)J"⟩, 33) := ⟨⟨by decide +kernel, by decide +kernel⟩, List.mem_of_getElem? (i := 587) (by decide +kernel), List.mem_of_getElem? (i := 737) (by decide +kernel), List.mem_of_getElem? (i := 738) (by decide +kernel)⟩
theorem lw_p18 : lw_okq (⟨"QuadWorldsModel", "looked", "(I)I"⟩, 33) := ⟨⟨by decide +kernel, by decide +kernel⟩, List.mem_of_getElem? (i := 587) (by decide +kernel), List.mem_of_getElem? (i := 746) (by decide +kernel), List.mem_of_getElem? (i := 747) (by decide +kernel)⟩
theorem lw_p19 : lw_okq (⟨"QuadWorldsModel", "through", "(II)J"⟩, 33) := ⟨⟨by decide +kernel, by decide +kernel⟩, List.mem_of_getElem? (i := 587) (by decide +kernel), List.mem_of_getElem? (i := 750) (by decide +kernel), List.mem_of_getElem? (i := 751) (by decide +kernel)⟩
theorem lw_p20 : lw_okq (⟨"QuadWorldsModel", "isPoint", "(II)Z"⟩, 33) := ⟨⟨by decide +kernel, by decide +kernel⟩, List.mem_of_getElem? (i := 587) (by decide +kernel), List.mem_of_getElem? (i := 761) (by decide +kernel), List.mem_of_getElem? (i := 762) (by decide +kernel)⟩
theorem lw_p21 : lw_okq (⟨"QuadWorldsModel", "orderOf", "(IZ)I"⟩, 33) := ⟨⟨by decide +kernel, by decide +kernel⟩, List.mem_of_getElem? (i := 587) (by decide +kernel), List.mem_of_getElem? (i := 765) (by decide +kernel), List.mem_of_getElem? (i := 766) (by decide +kernel)⟩
theorem lw_p22 : lw_okq (⟨"QuadWorldsModel", "faultOf", "(I)I"⟩, 33) := ⟨⟨by decide +kernel, by decide +kernel⟩, List.mem_of_getElem? (i := 587) (by decide +kernel), List.mem_of_getElem? (i := 769) (by decide +kernel), List.mem_of_getElem? (i := 770) (by decide +kernel)⟩
theorem lw_p23 : lw_okq (⟨"QuadWorldsModel", "isRegular", "(III)Z"⟩, 33) := ⟨⟨by decide +kernel, by decide +kernel⟩, List.mem_of_getElem? (i := 587) (by decide +kernel), List.mem_of_getElem? (i := 774) (by decide +kernel), List.mem_of_getElem? (i := 775) (by decide +kernel)⟩
theorem lw_p24 : lw_okq (⟨"QuadWorldsModel", "nearTo", "(II)J"⟩, 33) := ⟨⟨by decide +kernel, by decide +kernel⟩, List.mem_of_getElem? (i := 587) (by decide +kernel), List.mem_of_getElem? (i := 778) (by decide +kernel), List.mem_of_getElem? (i := 779) (by decide +kernel)⟩
theorem lw_p25 : lw_okq (⟨"QuadWorldsModel", "spanOf", "(III)J"⟩, 33) := ⟨⟨by decide +kernel, by decide +kernel⟩, List.mem_of_getElem? (i := 587) (by decide +kernel), List.mem_of_getElem? (i := 782) (by decide +kernel), List.mem_of_getElem? (i := 783) (by decide +kernel)⟩
theorem lw_p26 : lw_okq (⟨"QuadWorldsModel", "perpOf", "(IJ)J"⟩, 33) := ⟨⟨by decide +kernel, by decide +kernel⟩, List.mem_of_getElem? (i := 587) (by decide +kernel), List.mem_of_getElem? (i := 786) (by decide +kernel), List.mem_of_getElem? (i := 787) (by decide +kernel)⟩
theorem lw_p27 : lw_okq (⟨"QuadWorldsModel", "allOf", "(I)J"⟩, 33) := ⟨⟨by decide +kernel, by decide +kernel⟩, List.mem_of_getElem? (i := 587) (by decide +kernel), List.mem_of_getElem? (i := 790) (by decide +kernel), List.mem_of_getElem? (i := 791) (by decide +kernel)⟩
theorem lw_p28 : lw_okq (⟨"QuadWorldsModel", "ask", "(JI)I"⟩, 33) := ⟨⟨by decide +kernel, by decide +kernel⟩, List.mem_of_getElem? (i := 587) (by decide +kernel), List.mem_of_getElem? (i := 817) (by decide +kernel), List.mem_of_getElem? (i := 818) (by decide +kernel)⟩
theorem lw_p29 : lw_okq (⟨"QuadWorldsModel", "seek", "(IIZ)I"⟩, 33) := ⟨⟨by decide +kernel, by decide +kernel⟩, List.mem_of_getElem? (i := 587) (by decide +kernel), List.mem_of_getElem? (i := 857) (by decide +kernel), List.mem_of_getElem? (i := 858) (by decide +kernel)⟩
theorem lw_p30 : lw_okq (⟨"QuadWorldsModel", "setSeeking", "(IZ)V"⟩, 33) := ⟨⟨by decide +kernel, by decide +kernel⟩, List.mem_of_getElem? (i := 587) (by decide +kernel), List.mem_of_getElem? (i := 862) (by decide +kernel), List.mem_of_getElem? (i := 863) (by decide +kernel)⟩
theorem lw_p31 : lw_okq (⟨"QuadWorldsModel", "next", "(ZI)I"⟩, 33) := ⟨⟨by decide +kernel, by decide +kernel⟩, List.mem_of_getElem? (i := 587) (by decide +kernel), List.mem_of_getElem? (i := 866) (by decide +kernel), List.mem_of_getElem? (i := 867) (by decide +kernel)⟩
def lw_privs_2 : List (MethodName × Nat) := [(⟨"QuadWorldsModel", "isPerp", "(III)Z"⟩, 33), (⟨"QuadWorldsModel", "lineOf", "(III)J"⟩, 33), (⟨"QuadWorldsModel", "looked", "(I)I"⟩, 33), (⟨"QuadWorldsModel", "through", "(II)J"⟩, 33), (⟨"QuadWorldsModel", "isPoint", "(II)Z"⟩, 33), (⟨"QuadWorldsModel", "orderOf", "(IZ)I"⟩, 33), (⟨"QuadWorldsModel", "faultOf", "(I)I"⟩, 33), (⟨"QuadWorldsModel", "isRegular", "(III)Z"⟩, 33), (⟨"QuadWorldsModel", "nearTo", "(II)J"⟩, 33), (⟨"QuadWorldsModel", "spanOf", "(III)J"⟩, 33), (⟨"QuadWorldsModel", "perpOf", "(IJ)J"⟩, 33), (⟨"QuadWorldsModel", "allOf", "(I)J"⟩, 33), (⟨"QuadWorldsModel", "ask", "(JI)I"⟩, 33), (⟨"QuadWorldsModel", "seek", "(IIZ)I"⟩, 33), (⟨"QuadWorldsModel", "setSeeking", "(IZ)V"⟩, 33), (⟨"QuadWorldsModel", "next", "(ZI)I"⟩, 33)]
theorem lw_r2 : ∀ q ∈ lw_privs_2, lw_okq q := List.forall_mem_cons.mpr ⟨lw_p16, List.forall_mem_cons.mpr ⟨lw_p17, List.forall_mem_cons.mpr ⟨lw_p18, List.forall_mem_cons.mpr ⟨lw_p19, List.forall_mem_cons.mpr ⟨lw_p20, List.forall_mem_cons.mpr ⟨lw_p21, List.forall_mem_cons.mpr ⟨lw_p22, List.forall_mem_cons.mpr ⟨lw_p23, List.forall_mem_cons.mpr ⟨lw_p24, List.forall_mem_cons.mpr ⟨lw_p25, List.forall_mem_cons.mpr ⟨lw_p26, List.forall_mem_cons.mpr ⟨lw_p27, List.forall_mem_cons.mpr ⟨lw_p28, List.forall_mem_cons.mpr ⟨lw_p29, List.forall_mem_cons.mpr ⟨lw_p30, List.forall_mem_cons.mpr ⟨lw_p31, fun _ h => absurd h List.not_mem_nil⟩⟩⟩⟩⟩⟩⟩⟩⟩⟩⟩⟩⟩⟩⟩⟩
theorem lw_p32 : lw_okq (⟨"QuadWorldsModel", "goalAt", "()I"⟩, 33) := ⟨⟨by decide +kernel, by decide +kernel⟩, List.mem_of_getElem? (i := 587) (by decide +kernel), List.mem_of_getElem? (i := 870) (by decide +kernel), List.mem_of_getElem? (i := 871) (by decide +kernel)⟩
theorem lw_p33 : lw_okq (⟨"QuadWorldsModel", "swap", "(II)V"⟩, 33) := ⟨⟨by decide +kernel, by decide +kernel⟩, List.mem_of_getElem? (i := 587) (by decide +kernel), List.mem_of_getElem? (i := 890) (by decide +kernel), List.mem_of_getElem? (i := 891) (by decide +kernel)⟩
theorem lw_p34 : lw_okq (⟨"QuadWorldsModel", "clear", "(IIII)V"⟩, 33) := ⟨⟨by decide +kernel, by decide +kernel⟩, List.mem_of_getElem? (i := 587) (by decide +kernel), List.mem_of_getElem? (i := 894) (by decide +kernel), List.mem_of_getElem? (i := 895) (by decide +kernel)⟩
theorem lw_p35 : lw_okq (⟨"QuadWorldsModel", "isSent", "(II)Z"⟩, 33) := ⟨⟨by decide +kernel, by decide +kernel⟩, List.mem_of_getElem? (i := 587) (by decide +kernel), List.mem_of_getElem? (i := 902) (by decide +kernel), List.mem_of_getElem? (i := 903) (by decide +kernel)⟩
theorem lw_p36 : lw_okq (⟨"QuadWorldsModel", "maySend", "(II)Z"⟩, 33) := ⟨⟨by decide +kernel, by decide +kernel⟩, List.mem_of_getElem? (i := 587) (by decide +kernel), List.mem_of_getElem? (i := 906) (by decide +kernel), List.mem_of_getElem? (i := 907) (by decide +kernel)⟩
theorem lw_p37 : lw_okq (⟨"QuadWorldsModel", "askedRow", "(I)I"⟩, 33) := ⟨⟨by decide +kernel, by decide +kernel⟩, List.mem_of_getElem? (i := 587) (by decide +kernel), List.mem_of_getElem? (i := 926) (by decide +kernel), List.mem_of_getElem? (i := 927) (by decide +kernel)⟩
def lw_privs_3 : List (MethodName × Nat) := [(⟨"QuadWorldsModel", "goalAt", "()I"⟩, 33), (⟨"QuadWorldsModel", "swap", "(II)V"⟩, 33), (⟨"QuadWorldsModel", "clear", "(IIII)V"⟩, 33), (⟨"QuadWorldsModel", "isSent", "(II)Z"⟩, 33), (⟨"QuadWorldsModel", "maySend", "(II)Z"⟩, 33), (⟨"QuadWorldsModel", "askedRow", "(I)I"⟩, 33)]
theorem lw_r3 : ∀ q ∈ lw_privs_3, lw_okq q := List.forall_mem_cons.mpr ⟨lw_p32, List.forall_mem_cons.mpr ⟨lw_p33, List.forall_mem_cons.mpr ⟨lw_p34, List.forall_mem_cons.mpr ⟨lw_p35, List.forall_mem_cons.mpr ⟨lw_p36, List.forall_mem_cons.mpr ⟨lw_p37, fun _ h => absurd h List.not_mem_nil⟩⟩⟩⟩⟩⟩
def lw_privs : List (MethodName × Nat) := lw_privs_1 ++ (lw_privs_2 ++ (lw_privs_3))
def lw_tbl : List Cond := k2_sels lw_privs ++ tables_1
theorem lw_privs_ok : ∀ q ∈ lw_privs, lw_okq q := by
  show ∀ q ∈ lw_privs_1 ++ (lw_privs_2 ++ (lw_privs_3)), lw_okq q
  exact List.forall_mem_append.mpr ⟨lw_r1, List.forall_mem_append.mpr ⟨lw_r2, lw_r3⟩⟩
/-! ===== BEGIN words of one list among another's, by their places ===== -/
theorem goodIn_r {big : List Cond} (ws : List Cond) (ps : List Nat) (hp : ws = ps.filterMap (fun i => big[i]?)) (h : ws.all goodWord = true) : GoodIn big ws := by
  intro w hw
  have h1 := List.all_eq_true.mp h w hw
  rw [hp] at hw
  obtain ⟨i, -, hi⟩ := List.mem_filterMap.mp hw
  have hm : w ∈ big := by first | exact List.mem_of_getElem? hi | exact List.getElem?_mem hi
  exact ⟨hm, good_of_word h1⟩
theorem goodIn_app {big a b : List Cond} (ha : GoodIn big a) (hb : GoodIn big b) : GoodIn big (a ++ b) := fun w h => (List.mem_append.mp h).elim (ha w) (hb w)
theorem goodIn_ca {big a b : List Cond} {c : Cond} (ha : GoodIn big (c :: a)) (hb : GoodIn big b) : GoodIn big (c :: (a ++ b)) := fun w h => (List.mem_cons.mp h).elim (fun e => ha w (List.mem_cons.mpr (Or.inl e))) (fun h => (List.mem_append.mp h).elim (fun h => ha w (List.mem_cons.mpr (Or.inr h))) (hb w))
theorem goodIn_sub {big ws : List Cond} (hm : ∀ w ∈ ws, w ∈ big) (h : ws.all goodWord = true) : GoodIn big ws := fun w hw => ⟨hm w hw, good_of_word (List.all_eq_true.mp h w hw)⟩
/-! ===== END ===== -/


/-! ===== BEGIN printed: names, fields, word lists, decode rows ===== -/
def RX0 : String := "QuadWorlds$Faults"
def TX0 : u_T := fun k => match k with
  | _ => ("", "", "", false)
def tyX0 : Nat → FieldType := fun k => match k with
  | _ => .int
abbrev wsX00 : List Cond := u_ws RX0 TX0 0
theorem nmX0 : ∀ a, a < 0 → ∀ b, b < 0 → a ≠ b → (TX0 a).2.1 ≠ (TX0 b).2.1 := by decide +kernel
theorem tyX0_ok : ∀ k, k < 0 → parseFieldDescriptor (TX0 k).2.2.1 = some (tyX0 k) := by decide +kernel
abbrev cX0_firstOf : ByteArray := prog_2_method_2_code
def yX0_firstOf : MethodName := ⟨RX0, "firstOf", "(LQuadWorlds$World;)I"⟩
abbrev cX0_sortOf : ByteArray := prog_2_method_3_code
def yX0_sortOf : MethodName := ⟨RX0, "sortOf", "(I)I"⟩
abbrev cX0_placeIn : ByteArray := prog_2_method_4_code
def yX0_placeIn : MethodName := ⟨RX0, "placeIn", "(I)I"⟩
abbrev cX0_firstPair : ByteArray := prog_2_method_5_code
def yX0_firstPair : MethodName := ⟨RX0, "firstPair", "(LQuadWorlds$World;)I"⟩
abbrev cX0_firstMeeting : ByteArray := prog_2_method_6_code
def yX0_firstMeeting : MethodName := ⟨RX0, "firstMeeting", "(LQuadWorlds$World;)I"⟩
def RX1 : String := "QuadWorlds$Maker"
def TX1 : u_T := fun k => match k with
  | _ => ("", "", "", false)
def tyX1 : Nat → FieldType := fun k => match k with
  | _ => .int
abbrev wsX10 : List Cond := u_ws RX1 TX1 0
theorem nmX1 : ∀ a, a < 0 → ∀ b, b < 0 → a ≠ b → (TX1 a).2.1 ≠ (TX1 b).2.1 := by decide +kernel
theorem tyX1_ok : ∀ k, k < 0 → parseFieldDescriptor (TX1 k).2.2.1 = some (tyX1 k) := by decide +kernel
abbrev cX1_makeGrid : ByteArray := prog_3_method_2_code
def yX1_makeGrid : MethodName := ⟨RX1, "makeGrid", "(LQuadWorlds$World;II)V"⟩
abbrev cX1_makeForm : ByteArray := prog_3_method_3_code
def yX1_makeForm : MethodName := ⟨RX1, "makeForm", "(LQuadWorlds$World;I)V"⟩
abbrev cX1_nearByForm : ByteArray := prog_3_method_4_code
def yX1_nearByForm : MethodName := ⟨RX1, "nearByForm", "(II)J"⟩
abbrev cX1_isFormPoint : ByteArray := prog_3_method_5_code
def yX1_isFormPoint : MethodName := ⟨RX1, "isFormPoint", "(II)Z"⟩
abbrev cX1_isZeroForm : ByteArray := prog_3_method_6_code
def yX1_isZeroForm : MethodName := ⟨RX1, "isZeroForm", "(III)Z"⟩
abbrev cX1_makeTurned : ByteArray := prog_3_method_7_code
def yX1_makeTurned : MethodName := ⟨RX1, "makeTurned", "(LQuadWorlds$World;LQuadWorlds$World;)V"⟩
abbrev cX1_makeAbout : ByteArray := prog_3_method_8_code
def yX1_makeAbout : MethodName := ⟨RX1, "makeAbout", "(LQuadWorlds$World;ILQuadWorlds$World;)Z"⟩
abbrev cX1_makePart : ByteArray := prog_3_method_9_code
def yX1_makePart : MethodName := ⟨RX1, "makePart", "(LQuadWorlds$World;JLQuadWorlds$World;)V"⟩
abbrev cX1_renumbered : ByteArray := prog_3_method_10_code
def yX1_renumbered : MethodName := ⟨RX1, "renumbered", "(JJ)J"⟩
def RX2 : String := "QuadWorlds$Matcher"
def TX2 : u_T := fun k => match k with
  | 0 => ("QuadWorlds$Matcher", "images", "[I", true)
  | 1 => ("QuadWorlds$Matcher", "used", "[J", true)
  | 2 => ("QuadWorlds$Matcher", "left", "[J", true)
  | 3 => ("QuadWorlds$Matcher", "depth", "I", false)
  | 4 => ("QuadWorlds$Matcher", "tryCount", "I", false)
  | 5 => ("QuadWorlds$Matcher", "isSpent", "Z", false)
  | _ => ("QuadWorlds$Matcher", "isFound", "Z", false)
def tyX2 : Nat → FieldType := fun k => match k with
  | 0 => .array .int
  | 1 => .array .long
  | 2 => .array .long
  | 3 => .int
  | 4 => .int
  | 5 => .boolean
  | _ => .boolean
abbrev wsX20 : List Cond := u_ws RX2 TX2 7
theorem nmX2 : ∀ a, a < 7 → ∀ b, b < 7 → a ≠ b → (TX2 a).2.1 ≠ (TX2 b).2.1 := by decide +kernel
theorem tyX2_ok : ∀ k, k < 7 → parseFieldDescriptor (TX2 k).2.2.1 = some (tyX2 k) := by decide +kernel
abbrev cX2_init : ByteArray := prog_4_method_1_code
def yX2_init : MethodName := ⟨RX2, "<init>", "()V"⟩
abbrev cX2_match : ByteArray := prog_4_method_2_code
def yX2_match : MethodName := ⟨RX2, "match", "(LQuadWorlds$World;LQuadWorlds$World;I)V"⟩
abbrev cX2_take : ByteArray := prog_4_method_3_code
def yX2_take : MethodName := ⟨RX2, "take", "(LQuadWorlds$World;LQuadWorlds$World;)V"⟩
abbrev cX2_open : ByteArray := prog_4_method_4_code
def yX2_open : MethodName := ⟨RX2, "open", "(LQuadWorlds$World;LQuadWorlds$World;)V"⟩
abbrev cX2_imageOf : ByteArray := prog_4_method_5_code
def yX2_imageOf : MethodName := ⟨RX2, "imageOf", "(JI)J"⟩
abbrev cX2_linesFit : ByteArray := prog_4_method_6_code
def yX2_linesFit : MethodName := ⟨RX2, "linesFit", "(LQuadWorlds$World;LQuadWorlds$World;)Z"⟩
abbrev cX2_lineWith : ByteArray := prog_4_method_7_code
def yX2_lineWith : MethodName := ⟨RX2, "lineWith", "(LQuadWorlds$World;JJ)I"⟩
def RX3 : String := "QuadWorlds$Ranks"
def TX3 : u_T := fun k => match k with
  | _ => ("", "", "", false)
def tyX3 : Nat → FieldType := fun k => match k with
  | _ => .int
abbrev wsX30 : List Cond := u_ws RX3 TX3 0
theorem nmX3 : ∀ a, a < 0 → ∀ b, b < 0 → a ≠ b → (TX3 a).2.1 ≠ (TX3 b).2.1 := by decide +kernel
theorem tyX3_ok : ∀ k, k < 0 → parseFieldDescriptor (TX3 k).2.2.1 = some (tyX3 k) := by decide +kernel
abbrev cX3_rankOf : ByteArray := prog_5_method_2_code
def yX3_rankOf : MethodName := ⟨RX3, "rankOf", "(LQuadWorlds$World;I[I)I"⟩
abbrev cX3_firstWith : ByteArray := prog_5_method_3_code
def yX3_firstWith : MethodName := ⟨RX3, "firstWith", "([IIII)I"⟩
abbrev cX3_swapRows : ByteArray := prog_5_method_4_code
def yX3_swapRows : MethodName := ⟨RX3, "swapRows", "([IIII)V"⟩
abbrev cX3_clearBelow : ByteArray := prog_5_method_5_code
def yX3_clearBelow : MethodName := ⟨RX3, "clearBelow", "([IIILQuadWorlds$World;I)V"⟩
abbrev cX3_inverseOf : ByteArray := prog_5_method_6_code
def yX3_inverseOf : MethodName := ⟨RX3, "inverseOf", "(II)I"⟩
def RX4 : String := "QuadWorlds$Seeker"
def TX4 : u_T := fun k => match k with
  | 0 => ("QuadWorlds$Seeker", "met", "[J", true)
  | 1 => ("QuadWorlds$Seeker", "taken", "[J", true)
  | 2 => ("QuadWorlds$Seeker", "left", "[J", true)
  | 3 => ("QuadWorlds$Seeker", "allMet", "J", false)
  | 4 => ("QuadWorlds$Seeker", "depth", "I", false)
  | 5 => ("QuadWorlds$Seeker", "tryCount", "I", false)
  | 6 => ("QuadWorlds$Seeker", "isSpent", "Z", false)
  | 7 => ("QuadWorlds$Seeker", "foundCount", "I", false)
  | _ => ("QuadWorlds$Seeker", "foundSet", "J", false)
def tyX4 : Nat → FieldType := fun k => match k with
  | 0 => .array .long
  | 1 => .array .long
  | 2 => .array .long
  | 3 => .long
  | 4 => .int
  | 5 => .int
  | 6 => .boolean
  | 7 => .int
  | _ => .long
abbrev wsX40 : List Cond := u_ws RX4 TX4 9
theorem nmX4 : ∀ a, a < 9 → ∀ b, b < 9 → a ≠ b → (TX4 a).2.1 ≠ (TX4 b).2.1 := by decide +kernel
theorem tyX4_ok : ∀ k, k < 9 → parseFieldDescriptor (TX4 k).2.2.1 = some (tyX4 k) := by decide +kernel
abbrev cX4_init : ByteArray := prog_6_method_1_code
def yX4_init : MethodName := ⟨RX4, "<init>", "()V"⟩
abbrev cX4_seek : ByteArray := prog_6_method_2_code
def yX4_seek : MethodName := ⟨RX4, "seek", "(I[J[JIZ)V"⟩
abbrev cX4_take : ByteArray := prog_6_method_3_code
def yX4_take : MethodName := ⟨RX4, "take", "([J[J)V"⟩
abbrev cX4_open : ByteArray := prog_6_method_4_code
def yX4_open : MethodName := ⟨RX4, "open", "([J[J)V"⟩
def RX5 : String := "QuadWorlds$World"
def TX5 : u_T := fun k => match k with
  | 0 => ("QuadWorlds$World", "sets", "[J", true)
  | 1 => ("QuadWorlds$World", "through", "[J", true)
  | 2 => ("QuadWorlds$World", "near", "[J", true)
  | 3 => ("QuadWorlds$World", "there", "Z", false)
  | 4 => ("QuadWorlds$World", "kind", "I", false)
  | 5 => ("QuadWorlds$World", "tag", "I", false)
  | 6 => ("QuadWorlds$World", "size", "I", false)
  | _ => ("QuadWorlds$World", "lineCount", "I", false)
def tyX5 : Nat → FieldType := fun k => match k with
  | 0 => .array .long
  | 1 => .array .long
  | 2 => .array .long
  | 3 => .boolean
  | 4 => .int
  | 5 => .int
  | 6 => .int
  | _ => .int
abbrev wsX50 : List Cond := u_ws RX5 TX5 8
theorem nmX5 : ∀ a, a < 8 → ∀ b, b < 8 → a ≠ b → (TX5 a).2.1 ≠ (TX5 b).2.1 := by decide +kernel
theorem tyX5_ok : ∀ k, k < 8 → parseFieldDescriptor (TX5 k).2.2.1 = some (tyX5 k) := by decide +kernel
abbrev cX5_init : ByteArray := prog_7_method_1_code
def yX5_init : MethodName := ⟨RX5, "<init>", "()V"⟩
abbrev cX5_begin : ByteArray := prog_7_method_2_code
def yX5_begin : MethodName := ⟨RX5, "begin", "(III)V"⟩
abbrev cX5_add : ByteArray := prog_7_method_3_code
def yX5_add : MethodName := ⟨RX5, "add", "(J)Z"⟩
abbrev cX5_hasPoint : ByteArray := prog_7_method_4_code
def yX5_hasPoint : MethodName := ⟨RX5, "hasPoint", "(I)Z"⟩
abbrev cX5_hasAll : ByteArray := prog_7_method_5_code
def yX5_hasAll : MethodName := ⟨RX5, "hasAll", "(J)Z"⟩
abbrev cX5_areNear : ByteArray := prog_7_method_6_code
def yX5_areNear : MethodName := ⟨RX5, "areNear", "(II)Z"⟩
abbrev cX5_nearToAll : ByteArray := prog_7_method_7_code
def yX5_nearToAll : MethodName := ⟨RX5, "nearToAll", "(J)J"⟩
abbrev cX5_spanSet : ByteArray := prog_7_method_8_code
def yX5_spanSet : MethodName := ⟨RX5, "spanSet", "(II)J"⟩
abbrev cX5_isRegular : ByteArray := prog_7_method_9_code
def yX5_isRegular : MethodName := ⟨RX5, "isRegular", "(I)Z"⟩
abbrev cX5_orderOfLines : ByteArray := prog_7_method_10_code
def yX5_orderOfLines : MethodName := ⟨RX5, "orderOfLines", "()I"⟩
abbrev cX5_orderOfPoints : ByteArray := prog_7_method_11_code
def yX5_orderOfPoints : MethodName := ⟨RX5, "orderOfPoints", "()I"⟩
abbrev cX5_leastThrough : ByteArray := prog_7_method_12_code
def yX5_leastThrough : MethodName := ⟨RX5, "leastThrough", "()I"⟩
abbrev cX5_mostOnLine : ByteArray := prog_7_method_13_code
def yX5_mostOnLine : MethodName := ⟨RX5, "mostOnLine", "(J)I"⟩
abbrev cX5_leastOnLine : ByteArray := prog_7_method_14_code
def yX5_leastOnLine : MethodName := ⟨RX5, "leastOnLine", "(J)I"⟩
abbrev cX5_linesMeeting : ByteArray := prog_7_method_15_code
def yX5_linesMeeting : MethodName := ⟨RX5, "linesMeeting", "(J)J"⟩
abbrev cX5_stepsBetween : ByteArray := prog_7_method_16_code
def yX5_stepsBetween : MethodName := ⟨RX5, "stepsBetween", "(II)I"⟩
abbrev cX5_digestOn : ByteArray := prog_7_method_17_code
def yX5_digestOn : MethodName := ⟨RX5, "digestOn", "(J)J"⟩
def RX6 : String := "QuadWorlds"
def TX6 : u_T := fun k => match k with
  | 0 => ("QuadWorlds", "worlds", "[LQuadWorlds$World;", true)
  | 1 => ("QuadWorlds", "rowPlaces", "[[I", true)
  | 2 => ("QuadWorlds", "rowSizes", "[I", true)
  | 3 => ("QuadWorlds", "findingTimes", "[I", true)
  | 4 => ("QuadWorlds", "sentTo", "[I", true)
  | 5 => ("QuadWorlds", "rankCells", "[I", true)
  | 6 => ("QuadWorlds", "seeker", "LQuadWorlds$Seeker;", true)
  | 7 => ("QuadWorlds", "matcher", "LQuadWorlds$Matcher;", true)
  | 8 => ("QuadWorlds", "spare", "LQuadWorlds$World;", false)
  | 9 => ("QuadWorlds", "sentSize", "I", false)
  | 10 => ("QuadWorlds", "latestFinding", "I", false)
  | 11 => ("QuadWorlds", "latestTries", "I", false)
  | _ => ("QuadWorlds", "latestAsked", "J", false)
def tyX6 : Nat → FieldType := fun k => match k with
  | 0 => .array (.object "QuadWorlds$World")
  | 1 => .array (.array .int)
  | 2 => .array .int
  | 3 => .array .int
  | 4 => .array .int
  | 5 => .array .int
  | 6 => .object "QuadWorlds$Seeker"
  | 7 => .object "QuadWorlds$Matcher"
  | 8 => .object "QuadWorlds$World"
  | 9 => .int
  | 10 => .int
  | 11 => .int
  | _ => .long
abbrev wsX60 : List Cond := u_ws RX6 TX6 13
theorem nmX6 : ∀ a, a < 13 → ∀ b, b < 13 → a ≠ b → (TX6 a).2.1 ≠ (TX6 b).2.1 := by decide +kernel
theorem tyX6_ok : ∀ k, k < 13 → parseFieldDescriptor (TX6 k).2.2.1 = some (tyX6 k) := by decide +kernel
abbrev cX6_init : ByteArray := prog_1_method_1_code
def yX6_init : MethodName := ⟨RX6, "<init>", "()V"⟩
abbrev cX6_world : ByteArray := prog_1_method_2_code
def yX6_world : MethodName := ⟨RX6, "world", "(II)I"⟩
abbrev cX6_line : ByteArray := prog_1_method_3_code
def yX6_line : MethodName := ⟨RX6, "line", "(II)I"⟩
abbrev cX6_grid : ByteArray := prog_1_method_4_code
def yX6_grid : MethodName := ⟨RX6, "grid", "(III)I"⟩
abbrev cX6_form : ByteArray := prog_1_method_5_code
def yX6_form : MethodName := ⟨RX6, "form", "(II)I"⟩
abbrev cX6_dual : ByteArray := prog_1_method_6_code
def yX6_dual : MethodName := ⟨RX6, "dual", "(II)I"⟩
abbrev cX6_derive : ByteArray := prog_1_method_7_code
def yX6_derive : MethodName := ⟨RX6, "derive", "(III)I"⟩
abbrev cX6_part : ByteArray := prog_1_method_8_code
def yX6_part : MethodName := ⟨RX6, "part", "(IJI)I"⟩
abbrev cX6_drop : ByteArray := prog_1_method_9_code
def yX6_drop : MethodName := ⟨RX6, "drop", "(I)I"⟩
abbrev cX6_told : ByteArray := prog_1_method_10_code
def yX6_told : MethodName := ⟨RX6, "told", "(II)I"⟩
abbrev cX6_mark : ByteArray := prog_1_method_11_code
def yX6_mark : MethodName := ⟨RX6, "mark", "(II)I"⟩
abbrev cX6_points : ByteArray := prog_1_method_12_code
def yX6_points : MethodName := ⟨RX6, "points", "(II)I"⟩
abbrev cX6_lines : ByteArray := prog_1_method_13_code
def yX6_lines : MethodName := ⟨RX6, "lines", "(II)I"⟩
abbrev cX6_fault : ByteArray := prog_1_method_14_code
def yX6_fault : MethodName := ⟨RX6, "fault", "(I)I"⟩
abbrev cX6_mean : ByteArray := prog_1_method_15_code
def yX6_mean : MethodName := ⟨RX6, "mean", "(I)I"⟩
abbrev cX6_perp : ByteArray := prog_1_method_16_code
def yX6_perp : MethodName := ⟨RX6, "perp", "(IJ)I"⟩
abbrev cX6_span : ByteArray := prog_1_method_17_code
def yX6_span : MethodName := ⟨RX6, "span", "(III)I"⟩
abbrev cX6_regular : ByteArray := prog_1_method_18_code
def yX6_regular : MethodName := ⟨RX6, "regular", "(II)I"⟩
abbrev cX6_centres : ByteArray := prog_1_method_19_code
def yX6_centres : MethodName := ⟨RX6, "centres", "(IIII)I"⟩
abbrev cX6_ovoid : ByteArray := prog_1_method_20_code
def yX6_ovoid : MethodName := ⟨RX6, "ovoid", "(II)I"⟩
abbrev cX6_spread : ByteArray := prog_1_method_21_code
def yX6_spread : MethodName := ⟨RX6, "spread", "(II)I"⟩
abbrev cX6_ovoids : ByteArray := prog_1_method_22_code
def yX6_ovoids : MethodName := ⟨RX6, "ovoids", "(II)I"⟩
abbrev cX6_tries : ByteArray := prog_1_method_23_code
def yX6_tries : MethodName := ⟨RX6, "tries", "()I"⟩
abbrev cX6_meets : ByteArray := prog_1_method_24_code
def yX6_meets : MethodName := ⟨RX6, "meets", "(IJZ)I"⟩
abbrev cX6_rank : ByteArray := prog_1_method_25_code
def yX6_rank : MethodName := ⟨RX6, "rank", "(II)I"⟩
abbrev cX6_alike : ByteArray := prog_1_method_26_code
def yX6_alike : MethodName := ⟨RX6, "alike", "(III)I"⟩
abbrev cX6_sent : ByteArray := prog_1_method_27_code
def yX6_sent : MethodName := ⟨RX6, "sent", "(I)I"⟩
abbrev cX6_far : ByteArray := prog_1_method_28_code
def yX6_far : MethodName := ⟨RX6, "far", "(III)I"⟩
abbrev cX6_row : ByteArray := prog_1_method_29_code
def yX6_row : MethodName := ⟨RX6, "row", "(II)I"⟩
abbrev cX6_lay : ByteArray := prog_1_method_30_code
def yX6_lay : MethodName := ⟨RX6, "lay", "(III)I"⟩
abbrev cX6_tear : ByteArray := prog_1_method_31_code
def yX6_tear : MethodName := ⟨RX6, "tear", "(I)I"⟩
abbrev cX6_copy : ByteArray := prog_1_method_32_code
def yX6_copy : MethodName := ⟨RX6, "copy", "(IIIII)I"⟩
abbrev cX6_asked : ByteArray := prog_1_method_33_code
def yX6_asked : MethodName := ⟨RX6, "asked", "()J"⟩
abbrev cX6_count : ByteArray := prog_1_method_34_code
def yX6_count : MethodName := ⟨RX6, "count", "(I)I"⟩
abbrev cX6_finding : ByteArray := prog_1_method_35_code
def yX6_finding : MethodName := ⟨RX6, "finding", "()I"⟩
abbrev cX6_findings : ByteArray := prog_1_method_36_code
def yX6_findings : MethodName := ⟨RX6, "findings", "(I)I"⟩
abbrev cX6_digest : ByteArray := prog_1_method_37_code
def yX6_digest : MethodName := ⟨RX6, "digest", "()J"⟩
abbrev cX6_isWorldNumber : ByteArray := prog_1_method_38_code
def yX6_isWorldNumber : MethodName := ⟨RX6, "isWorldNumber", "(I)Z"⟩
abbrev cX6_isRowNumber : ByteArray := prog_1_method_39_code
def yX6_isRowNumber : MethodName := ⟨RX6, "isRowNumber", "(I)Z"⟩
abbrev cX6_isNumberOfTries : ByteArray := prog_1_method_40_code
def yX6_isNumberOfTries : MethodName := ⟨RX6, "isNumberOfTries", "(I)Z"⟩
abbrev cX6_refused : ByteArray := prog_1_method_41_code
def yX6_refused : MethodName := ⟨RX6, "refused", "(I)I"⟩
abbrev cX6_askedSet : ByteArray := prog_1_method_42_code
def yX6_askedSet : MethodName := ⟨RX6, "askedSet", "(J)I"⟩
abbrev cX6_firstFound : ByteArray := prog_1_method_43_code
def yX6_firstFound : MethodName := ⟨RX6, "firstFound", "()I"⟩
abbrev cX6_putSpare : ByteArray := prog_1_method_44_code
def yX6_putSpare : MethodName := ⟨RX6, "putSpare", "(I)I"⟩
abbrev cX6_rowHasPlaces : ByteArray := prog_1_method_45_code
def yX6_rowHasPlaces : MethodName := ⟨RX6, "rowHasPlaces", "(III)Z"⟩
abbrev cX6_rowHasPointsOf : ByteArray := prog_1_method_46_code
def yX6_rowHasPointsOf : MethodName := ⟨RX6, "rowHasPointsOf", "(ILQuadWorlds$World;)Z"⟩
abbrev cX6_setOfRow : ByteArray := prog_1_method_47_code
def yX6_setOfRow : MethodName := ⟨RX6, "setOfRow", "(I)J"⟩
abbrev cX6_has : ByteArray := prog_1_method_48_code
def yX6_has : MethodName := ⟨RX6, "has", "(JI)Z"⟩
abbrev cX6_leastOf : ByteArray := prog_1_method_49_code
def yX6_leastOf : MethodName := ⟨RX6, "leastOf", "(J)I"⟩
abbrev cX6_below : ByteArray := prog_1_method_50_code
def yX6_below : MethodName := ⟨RX6, "below", "(I)J"⟩
def RX7 : String := "QuadWorldsModel"
def TX7 : u_T := fun k => match k with
  | 0 => ("QuadWorldsModel", "finding", "I", false)
  | 1 => ("QuadWorldsModel", "findings", "[I", true)
  | 2 => ("QuadWorldsModel", "asked", "J", false)
  | 3 => ("QuadWorldsModel", "points", "[I", true)
  | 4 => ("QuadWorldsModel", "lineCount", "[I", true)
  | 5 => ("QuadWorldsModel", "kinds", "[I", true)
  | 6 => ("QuadWorldsModel", "marks", "[I", true)
  | 7 => ("QuadWorldsModel", "lines", "[J", true)
  | 8 => ("QuadWorldsModel", "newPoints", "I", false)
  | 9 => ("QuadWorldsModel", "newLines", "I", false)
  | 10 => ("QuadWorldsModel", "newRow", "[J", true)
  | 11 => ("QuadWorldsModel", "letters", "[I", true)
  | 12 => ("QuadWorldsModel", "faultAt", "J", false)
  | 13 => ("QuadWorldsModel", "tries", "I", false)
  | 14 => ("QuadWorldsModel", "things", "I", false)
  | 15 => ("QuadWorldsModel", "goals", "I", false)
  | 16 => ("QuadWorldsModel", "bars", "[J", true)
  | 17 => ("QuadWorldsModel", "hits", "[J", true)
  | 18 => ("QuadWorldsModel", "choices", "[J", true)
  | 19 => ("QuadWorldsModel", "taken", "[I", true)
  | 20 => ("QuadWorldsModel", "barred", "[J", true)
  | 21 => ("QuadWorldsModel", "met", "[J", true)
  | 22 => ("QuadWorldsModel", "level", "I", false)
  | 23 => ("QuadWorldsModel", "table", "[I", true)
  | 24 => ("QuadWorldsModel", "sent", "[I", true)
  | 25 => ("QuadWorldsModel", "goes", "[I", true)
  | 26 => ("QuadWorldsModel", "nears", "[J", true)
  | 27 => ("QuadWorldsModel", "otherNears", "[J", true)
  | 28 => ("QuadWorldsModel", "degrees", "[I", true)
  | 29 => ("QuadWorldsModel", "otherDegrees", "[I", true)
  | 30 => ("QuadWorldsModel", "sizes", "[I", true)
  | 31 => ("QuadWorldsModel", "rows", "[I", true)
  | _ => ("QuadWorldsModel", "moving", "[I", true)
def tyX7 : Nat → FieldType := fun k => match k with
  | 0 => .int
  | 1 => .array .int
  | 2 => .long
  | 3 => .array .int
  | 4 => .array .int
  | 5 => .array .int
  | 6 => .array .int
  | 7 => .array .long
  | 8 => .int
  | 9 => .int
  | 10 => .array .long
  | 11 => .array .int
  | 12 => .long
  | 13 => .int
  | 14 => .int
  | 15 => .int
  | 16 => .array .long
  | 17 => .array .long
  | 18 => .array .long
  | 19 => .array .int
  | 20 => .array .long
  | 21 => .array .long
  | 22 => .int
  | 23 => .array .int
  | 24 => .array .int
  | 25 => .array .int
  | 26 => .array .long
  | 27 => .array .long
  | 28 => .array .int
  | 29 => .array .int
  | 30 => .array .int
  | 31 => .array .int
  | _ => .array .int
abbrev wsX70 : List Cond := u_ws RX7 TX7 33
theorem nmX7 : ∀ a, a < 33 → ∀ b, b < 33 → a ≠ b → (TX7 a).2.1 ≠ (TX7 b).2.1 := by decide +kernel
theorem tyX7_ok : ∀ k, k < 33 → parseFieldDescriptor (TX7 k).2.2.1 = some (tyX7 k) := by decide +kernel
abbrev cX7_init : ByteArray := prog_9_method_1_code
def yX7_init : MethodName := ⟨RX7, "<init>", "()V"⟩
abbrev cX7_in : ByteArray := prog_9_method_3_code
def yX7_in : MethodName := ⟨RX7, "in", "(III)Z"⟩
abbrev cX7_meets : ByteArray := prog_9_method_4_code
def yX7_meets : MethodName := ⟨RX7, "meets", "(I)I"⟩
abbrev cX7_ask : ByteArray := prog_9_method_5_code
def yX7_ask : MethodName := ⟨RX7, "ask", "(JI)I"⟩
abbrev cX7_bits : ByteArray := prog_9_method_6_code
def yX7_bits : MethodName := ⟨RX7, "bits", "(J)I"⟩
abbrev cX7_has : ByteArray := prog_9_method_7_code
def yX7_has : MethodName := ⟨RX7, "has", "(JI)Z"⟩
abbrev cX7_isNumber : ByteArray := prog_9_method_8_code
def yX7_isNumber : MethodName := ⟨RX7, "isNumber", "(I)Z"⟩
abbrev cX7_looked : ByteArray := prog_9_method_9_code
def yX7_looked : MethodName := ⟨RX7, "looked", "(I)I"⟩
abbrev cX7_allOf : ByteArray := prog_9_method_10_code
def yX7_allOf : MethodName := ⟨RX7, "allOf", "(I)J"⟩
abbrev cX7_keep : ByteArray := prog_9_method_11_code
def yX7_keep : MethodName := ⟨RX7, "keep", "(III)I"⟩
abbrev cX7_add : ByteArray := prog_9_method_12_code
def yX7_add : MethodName := ⟨RX7, "add", "(J)V"⟩
abbrev cX7_world : ByteArray := prog_9_method_13_code
def yX7_world : MethodName := ⟨RX7, "world", "(II)I"⟩
abbrev cX7_line : ByteArray := prog_9_method_14_code
def yX7_line : MethodName := ⟨RX7, "line", "(II)I"⟩
abbrev cX7_grid : ByteArray := prog_9_method_15_code
def yX7_grid : MethodName := ⟨RX7, "grid", "(III)I"⟩
abbrev cX7_isPerp : ByteArray := prog_9_method_16_code
def yX7_isPerp : MethodName := ⟨RX7, "isPerp", "(III)Z"⟩
abbrev cX7_form : ByteArray := prog_9_method_17_code
def yX7_form : MethodName := ⟨RX7, "form", "(II)I"⟩
abbrev cX7_lineOf : ByteArray := prog_9_method_18_code
def yX7_lineOf : MethodName := ⟨RX7, "lineOf", "(III)J"⟩
abbrev cX7_through : ByteArray := prog_9_method_19_code
def yX7_through : MethodName := ⟨RX7, "through", "(II)J"⟩
abbrev cX7_dual : ByteArray := prog_9_method_20_code
def yX7_dual : MethodName := ⟨RX7, "dual", "(II)I"⟩
abbrev cX7_nearTo : ByteArray := prog_9_method_21_code
def yX7_nearTo : MethodName := ⟨RX7, "nearTo", "(II)J"⟩
abbrev cX7_perpOf : ByteArray := prog_9_method_22_code
def yX7_perpOf : MethodName := ⟨RX7, "perpOf", "(IJ)J"⟩
abbrev cX7_spanOf : ByteArray := prog_9_method_23_code
def yX7_spanOf : MethodName := ⟨RX7, "spanOf", "(III)J"⟩
abbrev cX7_orderOf : ByteArray := prog_9_method_24_code
def yX7_orderOf : MethodName := ⟨RX7, "orderOf", "(IZ)I"⟩
abbrev cX7_isPoint : ByteArray := prog_9_method_25_code
def yX7_isPoint : MethodName := ⟨RX7, "isPoint", "(II)Z"⟩
abbrev cX7_isRegular : ByteArray := prog_9_method_26_code
def yX7_isRegular : MethodName := ⟨RX7, "isRegular", "(III)Z"⟩
abbrev cX7_faultOf : ByteArray := prog_9_method_27_code
def yX7_faultOf : MethodName := ⟨RX7, "faultOf", "(I)I"⟩
abbrev cX7_closed : ByteArray := prog_9_method_28_code
def yX7_closed : MethodName := ⟨RX7, "closed", "(JJ)J"⟩
abbrev cX7_derive : ByteArray := prog_9_method_29_code
def yX7_derive : MethodName := ⟨RX7, "derive", "(III)I"⟩
abbrev cX7_part : ByteArray := prog_9_method_30_code
def yX7_part : MethodName := ⟨RX7, "part", "(IJI)I"⟩
abbrev cX7_drop : ByteArray := prog_9_method_31_code
def yX7_drop : MethodName := ⟨RX7, "drop", "(I)I"⟩
abbrev cX7_told : ByteArray := prog_9_method_32_code
def yX7_told : MethodName := ⟨RX7, "told", "(II)I"⟩
abbrev cX7_mark : ByteArray := prog_9_method_33_code
def yX7_mark : MethodName := ⟨RX7, "mark", "(II)I"⟩
abbrev cX7_points : ByteArray := prog_9_method_34_code
def yX7_points : MethodName := ⟨RX7, "points", "(II)I"⟩
abbrev cX7_lines : ByteArray := prog_9_method_35_code
def yX7_lines : MethodName := ⟨RX7, "lines", "(II)I"⟩
abbrev cX7_fault : ByteArray := prog_9_method_36_code
def yX7_fault : MethodName := ⟨RX7, "fault", "(I)I"⟩
abbrev cX7_mean : ByteArray := prog_9_method_37_code
def yX7_mean : MethodName := ⟨RX7, "mean", "(I)I"⟩
abbrev cX7_perp : ByteArray := prog_9_method_38_code
def yX7_perp : MethodName := ⟨RX7, "perp", "(IJ)I"⟩
abbrev cX7_span : ByteArray := prog_9_method_39_code
def yX7_span : MethodName := ⟨RX7, "span", "(III)I"⟩
abbrev cX7_regular : ByteArray := prog_9_method_40_code
def yX7_regular : MethodName := ⟨RX7, "regular", "(II)I"⟩
abbrev cX7_centres : ByteArray := prog_9_method_41_code
def yX7_centres : MethodName := ⟨RX7, "centres", "(IIII)I"⟩
abbrev cX7_meets_ : ByteArray := prog_9_method_42_code
def yX7_meets_ : MethodName := ⟨RX7, "meets", "(IJZ)I"⟩
abbrev cX7_setSeeking : ByteArray := prog_9_method_43_code
def yX7_setSeeking : MethodName := ⟨RX7, "setSeeking", "(IZ)V"⟩
abbrev cX7_goalAt : ByteArray := prog_9_method_44_code
def yX7_goalAt : MethodName := ⟨RX7, "goalAt", "()I"⟩
abbrev cX7_next : ByteArray := prog_9_method_45_code
def yX7_next : MethodName := ⟨RX7, "next", "(ZI)I"⟩
abbrev cX7_seek : ByteArray := prog_9_method_46_code
def yX7_seek : MethodName := ⟨RX7, "seek", "(IIZ)I"⟩
abbrev cX7_ovoid : ByteArray := prog_9_method_47_code
def yX7_ovoid : MethodName := ⟨RX7, "ovoid", "(II)I"⟩
abbrev cX7_spread : ByteArray := prog_9_method_48_code
def yX7_spread : MethodName := ⟨RX7, "spread", "(II)I"⟩
abbrev cX7_ovoids : ByteArray := prog_9_method_49_code
def yX7_ovoids : MethodName := ⟨RX7, "ovoids", "(II)I"⟩
abbrev cX7_tries : ByteArray := prog_9_method_50_code
def yX7_tries : MethodName := ⟨RX7, "tries", "()I"⟩
abbrev cX7_rank : ByteArray := prog_9_method_51_code
def yX7_rank : MethodName := ⟨RX7, "rank", "(II)I"⟩
abbrev cX7_swap : ByteArray := prog_9_method_52_code
def yX7_swap : MethodName := ⟨RX7, "swap", "(II)V"⟩
abbrev cX7_clear : ByteArray := prog_9_method_53_code
def yX7_clear : MethodName := ⟨RX7, "clear", "(IIII)V"⟩
abbrev cX7_maySend : ByteArray := prog_9_method_54_code
def yX7_maySend : MethodName := ⟨RX7, "maySend", "(II)Z"⟩
abbrev cX7_isSent : ByteArray := prog_9_method_55_code
def yX7_isSent : MethodName := ⟨RX7, "isSent", "(II)Z"⟩
abbrev cX7_alike : ByteArray := prog_9_method_56_code
def yX7_alike : MethodName := ⟨RX7, "alike", "(III)I"⟩
abbrev cX7_sent : ByteArray := prog_9_method_57_code
def yX7_sent : MethodName := ⟨RX7, "sent", "(I)I"⟩
abbrev cX7_far : ByteArray := prog_9_method_58_code
def yX7_far : MethodName := ⟨RX7, "far", "(III)I"⟩
abbrev cX7_isRow : ByteArray := prog_9_method_59_code
def yX7_isRow : MethodName := ⟨RX7, "isRow", "(I)Z"⟩
abbrev cX7_askedRow : ByteArray := prog_9_method_60_code
def yX7_askedRow : MethodName := ⟨RX7, "askedRow", "(I)I"⟩
abbrev cX7_row : ByteArray := prog_9_method_61_code
def yX7_row : MethodName := ⟨RX7, "row", "(II)I"⟩
abbrev cX7_lay : ByteArray := prog_9_method_62_code
def yX7_lay : MethodName := ⟨RX7, "lay", "(III)I"⟩
abbrev cX7_tear : ByteArray := prog_9_method_63_code
def yX7_tear : MethodName := ⟨RX7, "tear", "(I)I"⟩
abbrev cX7_copy : ByteArray := prog_9_method_64_code
def yX7_copy : MethodName := ⟨RX7, "copy", "(IIIII)I"⟩
abbrev cX7_asked : ByteArray := prog_9_method_65_code
def yX7_asked : MethodName := ⟨RX7, "asked", "()J"⟩
abbrev cX7_count : ByteArray := prog_9_method_66_code
def yX7_count : MethodName := ⟨RX7, "count", "(I)I"⟩
abbrev cX7_finding : ByteArray := prog_9_method_67_code
def yX7_finding : MethodName := ⟨RX7, "finding", "()I"⟩
abbrev cX7_findings : ByteArray := prog_9_method_68_code
def yX7_findings : MethodName := ⟨RX7, "findings", "(I)I"⟩
abbrev cX7_digest : ByteArray := prog_9_method_69_code
def yX7_digest : MethodName := ⟨RX7, "digest", "()J"⟩
def RJ13 : String := "java/lang/Long"
def TJ13 : u_T := fun k => match k with
  | _ => ("", "", "", false)
def tyJ13 : Nat → FieldType := fun k => match k with
  | _ => .int
abbrev wsJ130 : List Cond := u_ws RJ13 TJ13 0
theorem nmJ13 : ∀ a, a < 0 → ∀ b, b < 0 → a ≠ b → (TJ13 a).2.1 ≠ (TJ13 b).2.1 := by decide +kernel
theorem tyJ13_ok : ∀ k, k < 0 → parseFieldDescriptor (TJ13 k).2.2.1 = some (tyJ13 k) := by decide +kernel
abbrev cJ13_bitCount_95d88 : ByteArray := prog_10_method_50_code
def yJ13_bitCount_95d88 : MethodName := ⟨RJ13, "bitCount", "(J)I"⟩
def RJ9 : String := "java/lang/Math"
def TJ9 : u_T := fun k => match k with
  | _ => ("", "", "", false)
def tyJ9 : Nat → FieldType := fun k => match k with
  | _ => .int
abbrev wsJ90 : List Cond := u_ws RJ9 TJ9 0
theorem nmJ9 : ∀ a, a < 0 → ∀ b, b < 0 → a ≠ b → (TJ9 a).2.1 ≠ (TJ9 b).2.1 := by decide +kernel
theorem tyJ9_ok : ∀ k, k < 0 → parseFieldDescriptor (TJ9 k).2.2.1 = some (tyJ9 k) := by decide +kernel
abbrev cJ9_floorMod_7cf53 : ByteArray := prog_11_method_50_code
def yJ9_floorMod_7cf53 : MethodName := ⟨RJ9, "floorMod", "(II)I"⟩
abbrev cJ9_max_7cf53 : ByteArray := prog_11_method_65_code
def yJ9_max_7cf53 : MethodName := ⟨RJ9, "max", "(II)I"⟩
abbrev cJ9_min_7cf53 : ByteArray := prog_11_method_69_code
def yJ9_min_7cf53 : MethodName := ⟨RJ9, "min", "(II)I"⟩
def RJ10 : String := "java/lang/System"
def TJ10 : u_T := fun k => match k with
  | _ => ("", "", "", false)
def tyJ10 : Nat → FieldType := fun k => match k with
  | _ => .int
abbrev wsJ100 : List Cond := u_ws RJ10 TJ10 0
theorem nmJ10 : ∀ a, a < 0 → ∀ b, b < 0 → a ≠ b → (TJ10 a).2.1 ≠ (TJ10 b).2.1 := by decide +kernel
theorem tyJ10_ok : ∀ k, k < 0 → parseFieldDescriptor (TJ10 k).2.2.1 = some (tyJ10 k) := by decide +kernel
def RL : String := "QuadWorldsLaw"
abbrev cL_law : ByteArray := code
def yL_law : MethodName := ⟨RL, "law", "([I)Z"⟩
def wsJ13_bitCount_95d88 : List Cond := .code yJ13_bitCount_95d88 cJ13_bitCount_95d88 2 (some .int) :: ([.constantLong RJ13 314 (6148914691236517205), .constantLong RJ13 316 (3689348814741910323), .constantLong RJ13 318 (1085102592571150095)])
def wsX0_firstPair : List Cond := .code yX0_firstPair cX0_firstPair 3 (some .int) :: ([.methodLink RX0 26 yJ13_bitCount_95d88, .static yJ13_bitCount_95d88, .initialized RJ13, .code yJ13_bitCount_95d88 cJ13_bitCount_95d88 2 (some .int), .constantLong RJ13 314 (6148914691236517205), .constantLong RJ13 316 (3689348814741910323), .constantLong RJ13 318 (1085102592571150095)] ++ wsX50)
def wsX6_has : List Cond := .code yX6_has cX6_has 3 (some .boolean) :: ([])
def wsX5_linesMeeting : List Cond := .code yX5_linesMeeting cX5_linesMeeting 6 (some .long) :: ([.fieldLink RX5 29 "QuadWorlds$World" "size" "I", .fieldLink RX5 15 "QuadWorlds$World" "through" "[J", .static yX6_has, .initialized RX6, .code yX6_has cX6_has 3 (some .boolean)] ++ wsX50)
def wsX0_firstMeeting : List Cond := .code yX0_firstMeeting cX0_firstMeeting 6 (some .int) :: ([.methodLink RX0 32 yX5_linesMeeting, .instanceMethod yX5_linesMeeting, .selects RX5 yX5_linesMeeting yX5_linesMeeting, .initialized RX5, .code yX5_linesMeeting cX5_linesMeeting 6 (some .long), .fieldLink RX5 29 "QuadWorlds$World" "size" "I", .fieldLink RX5 15 "QuadWorlds$World" "through" "[J", .static yX6_has, .initialized RX6, .code yX6_has cX6_has 3 (some .boolean), .methodLink RX0 26 yJ13_bitCount_95d88, .static yJ13_bitCount_95d88, .initialized RJ13, .code yJ13_bitCount_95d88 cJ13_bitCount_95d88 2 (some .int), .constantLong RJ13 314 (6148914691236517205), .constantLong RJ13 316 (3689348814741910323), .constantLong RJ13 318 (1085102592571150095)] ++ wsX50)
def wsX0_firstOf : List Cond := .code yX0_firstOf cX0_firstOf 2 (some .int) :: ([.methodLink RX0 7 yX0_firstPair, .static yX0_firstPair, .initialized RX0, .code yX0_firstPair cX0_firstPair 3 (some .int), .methodLink RX0 26 yJ13_bitCount_95d88, .static yJ13_bitCount_95d88, .initialized RJ13, .code yJ13_bitCount_95d88 cJ13_bitCount_95d88 2 (some .int), .constantLong RJ13 314 (6148914691236517205), .constantLong RJ13 316 (3689348814741910323), .constantLong RJ13 318 (1085102592571150095), .methodLink RX0 13 yX0_firstMeeting, .static yX0_firstMeeting, .code yX0_firstMeeting cX0_firstMeeting 6 (some .int), .methodLink RX0 32 yX5_linesMeeting, .instanceMethod yX5_linesMeeting, .selects RX5 yX5_linesMeeting yX5_linesMeeting, .initialized RX5, .code yX5_linesMeeting cX5_linesMeeting 6 (some .long), .fieldLink RX5 29 "QuadWorlds$World" "size" "I", .fieldLink RX5 15 "QuadWorlds$World" "through" "[J", .static yX6_has, .initialized RX6, .code yX6_has cX6_has 3 (some .boolean)] ++ wsX50)
def wsX0_sortOf : List Cond := .code yX0_sortOf cX0_sortOf 1 (some .int) :: ([])
def wsX0_placeIn : List Cond := .code yX0_placeIn cX0_placeIn 1 (some .int) :: ([])
def wsX5_begin : List Cond := .code yX5_begin cX5_begin 5 none :: ([.fieldLink RX5 21 "QuadWorlds$World" "there" "Z", .fieldLink RX5 25 "QuadWorlds$World" "kind" "I", .fieldLink RX5 29 "QuadWorlds$World" "size" "I", .fieldLink RX5 32 "QuadWorlds$World" "tag" "I", .fieldLink RX5 35 "QuadWorlds$World" "lineCount" "I", .fieldLink RX5 15 "QuadWorlds$World" "through" "[J", .fieldLink RX5 18 "QuadWorlds$World" "near" "[J"] ++ wsX50)
def wsX6_below : List Cond := .code yX6_below cX6_below 1 (some .long) :: ([])
def wsX5_add : List Cond := .code yX5_add cX5_add 4 (some .boolean) :: ([.fieldLink RX5 35 "QuadWorlds$World" "lineCount" "I", .fieldLink RX5 9 "QuadWorlds$World" "sets" "[J", .fieldLink RX5 29 "QuadWorlds$World" "size" "I", .fieldLink RX5 15 "QuadWorlds$World" "through" "[J", .fieldLink RX5 18 "QuadWorlds$World" "near" "[J", .static yX6_has, .initialized RX6, .code yX6_has cX6_has 3 (some .boolean)] ++ wsX50)
def wsX1_makeGrid : List Cond := .code yX1_makeGrid cX1_makeGrid 7 none :: ([.methodLink RX1 9 yX5_begin, .instanceMethod yX5_begin, .selects RX5 yX5_begin yX5_begin, .initialized RX5, .code yX5_begin cX5_begin 5 none, .fieldLink RX5 21 "QuadWorlds$World" "there" "Z", .fieldLink RX5 25 "QuadWorlds$World" "kind" "I", .fieldLink RX5 29 "QuadWorlds$World" "size" "I", .fieldLink RX5 32 "QuadWorlds$World" "tag" "I", .fieldLink RX5 35 "QuadWorlds$World" "lineCount" "I", .fieldLink RX5 15 "QuadWorlds$World" "through" "[J", .fieldLink RX5 18 "QuadWorlds$World" "near" "[J", .static yX6_below, .initialized RX6, .code yX6_below cX6_below 1 (some .long), .methodLink RX1 19 yX5_add, .instanceMethod yX5_add, .selects RX5 yX5_add yX5_add, .code yX5_add cX5_add 4 (some .boolean), .fieldLink RX5 9 "QuadWorlds$World" "sets" "[J", .static yX6_has, .code yX6_has cX6_has 3 (some .boolean)] ++ wsX50)
def wsX1_isFormPoint : List Cond := .code yX1_isFormPoint cX1_isFormPoint 5 (some .boolean) :: ([])
def wsX1_isZeroForm : List Cond := .code yX1_isZeroForm cX1_isZeroForm 11 (some .boolean) :: ([])
def wsX1_nearByForm : List Cond := .code yX1_nearByForm cX1_nearByForm 7 (some .long) :: ([.methodLink RX1 27 yX1_isFormPoint, .static yX1_isFormPoint, .initialized RX1, .code yX1_isFormPoint cX1_isFormPoint 5 (some .boolean), .methodLink RX1 44 yX1_isZeroForm, .static yX1_isZeroForm, .code yX1_isZeroForm cX1_isZeroForm 11 (some .boolean)])
def wsX5_areNear : List Cond := .code yX5_areNear cX5_areNear 3 (some .boolean) :: ([.fieldLink RX5 18 "QuadWorlds$World" "near" "[J", .static yX6_has, .initialized RX6, .code yX6_has cX6_has 3 (some .boolean)] ++ wsX50)
def wsX1_makeForm_r1 : List Cond := [Cond.methodLink RX1 9 yX5_begin, Cond.instanceMethod yX5_begin, Cond.selects RX5 yX5_begin yX5_begin, Cond.initialized RX5, Cond.code yX5_begin cX5_begin 5 none, Cond.fieldLink RX5 21 "QuadWorlds$World" "there" "Z", Cond.fieldLink RX5 25 "QuadWorlds$World" "kind" "I", Cond.fieldLink RX5 29 "QuadWorlds$World" "size" "I", Cond.fieldLink RX5 32 "QuadWorlds$World" "tag" "I", Cond.fieldLink RX5 35 "QuadWorlds$World" "lineCount" "I", Cond.fieldLink RX5 15 "QuadWorlds$World" "through" "[J", Cond.fieldLink RX5 18 "QuadWorlds$World" "near" "[J", Cond.methodLink RX1 27 yX1_isFormPoint, Cond.static yX1_isFormPoint, Cond.initialized RX1, Cond.code yX1_isFormPoint cX1_isFormPoint 5 (some .boolean), Cond.methodLink RX1 37 yX1_nearByForm, Cond.static yX1_nearByForm, Cond.code yX1_nearByForm cX1_nearByForm 7 (some .long), Cond.methodLink RX1 44 yX1_isZeroForm, Cond.static yX1_isZeroForm, Cond.code yX1_isZeroForm cX1_isZeroForm 11 (some .boolean), Cond.methodLink RX1 41 yX5_areNear, Cond.instanceMethod yX5_areNear]
def wsX1_makeForm_r2 : List Cond := [Cond.selects RX5 yX5_areNear yX5_areNear, Cond.code yX5_areNear cX5_areNear 3 (some .boolean), Cond.static yX6_has, Cond.initialized RX6, Cond.code yX6_has cX6_has 3 (some .boolean), Cond.static yX6_below, Cond.code yX6_below cX6_below 1 (some .long), Cond.methodLink RX1 19 yX5_add, Cond.instanceMethod yX5_add, Cond.selects RX5 yX5_add yX5_add, Cond.code yX5_add cX5_add 4 (some .boolean), Cond.fieldLink RX5 9 "QuadWorlds$World" "sets" "[J"]
def wsX1_makeForm : List Cond := .code yX1_makeForm cX1_makeForm 8 none :: ((wsX1_makeForm_r1 ++ wsX1_makeForm_r2) ++ wsX50)
def wsX1_makeTurned : List Cond := .code yX1_makeTurned cX1_makeTurned 3 none :: ([.methodLink RX1 9 yX5_begin, .instanceMethod yX5_begin, .selects RX5 yX5_begin yX5_begin, .initialized RX5, .code yX5_begin cX5_begin 5 none, .fieldLink RX5 21 "QuadWorlds$World" "there" "Z", .fieldLink RX5 25 "QuadWorlds$World" "kind" "I", .fieldLink RX5 29 "QuadWorlds$World" "size" "I", .fieldLink RX5 32 "QuadWorlds$World" "tag" "I", .fieldLink RX5 35 "QuadWorlds$World" "lineCount" "I", .fieldLink RX5 15 "QuadWorlds$World" "through" "[J", .fieldLink RX5 18 "QuadWorlds$World" "near" "[J", .methodLink RX1 19 yX5_add, .instanceMethod yX5_add, .selects RX5 yX5_add yX5_add, .code yX5_add cX5_add 4 (some .boolean), .fieldLink RX5 9 "QuadWorlds$World" "sets" "[J", .static yX6_has, .initialized RX6, .code yX6_has cX6_has 3 (some .boolean)] ++ wsX50)
def wsX1_renumbered : List Cond := .code yX1_renumbered cX1_renumbered 8 (some .long) :: ([.static yX6_has, .initialized RX6, .code yX6_has cX6_has 3 (some .boolean)])
def wsX5_nearToAll : List Cond := .code yX5_nearToAll cX5_nearToAll 6 (some .long) :: ([.fieldLink RX5 29 "QuadWorlds$World" "size" "I", .fieldLink RX5 18 "QuadWorlds$World" "near" "[J", .static yX6_below, .initialized RX6, .code yX6_below cX6_below 1 (some .long), .static yX6_has, .code yX6_has cX6_has 3 (some .boolean)] ++ wsX50)
def wsX5_spanSet : List Cond := .code yX5_spanSet cX5_spanSet 3 (some .long) :: ([.fieldLink RX5 18 "QuadWorlds$World" "near" "[J", .methodLink RX5 48 yX5_nearToAll, .instanceMethod yX5_nearToAll, .selects RX5 yX5_nearToAll yX5_nearToAll, .initialized RX5, .code yX5_nearToAll cX5_nearToAll 6 (some .long), .fieldLink RX5 29 "QuadWorlds$World" "size" "I", .static yX6_below, .initialized RX6, .code yX6_below cX6_below 1 (some .long), .static yX6_has, .code yX6_has cX6_has 3 (some .boolean)] ++ wsX50)
def wsX1_makeAbout_r1 : List Cond := [Cond.constantLong RX1 54 (-1), Cond.static yX6_below, Cond.initialized RX6, Cond.code yX6_below cX6_below 1 (some .long), Cond.methodLink RX1 56 yJ13_bitCount_95d88, Cond.static yJ13_bitCount_95d88, Cond.initialized RJ13, Cond.code yJ13_bitCount_95d88 cJ13_bitCount_95d88 2 (some .int), Cond.constantLong RJ13 314 (6148914691236517205), Cond.constantLong RJ13 316 (3689348814741910323), Cond.constantLong RJ13 318 (1085102592571150095), Cond.methodLink RX1 9 yX5_begin, Cond.instanceMethod yX5_begin, Cond.selects RX5 yX5_begin yX5_begin, Cond.initialized RX5, Cond.code yX5_begin cX5_begin 5 none, Cond.fieldLink RX5 21 "QuadWorlds$World" "there" "Z", Cond.fieldLink RX5 25 "QuadWorlds$World" "kind" "I", Cond.fieldLink RX5 29 "QuadWorlds$World" "size" "I", Cond.fieldLink RX5 32 "QuadWorlds$World" "tag" "I", Cond.fieldLink RX5 35 "QuadWorlds$World" "lineCount" "I", Cond.fieldLink RX5 15 "QuadWorlds$World" "through" "[J", Cond.fieldLink RX5 18 "QuadWorlds$World" "near" "[J", Cond.static yX6_has]
def wsX1_makeAbout_r2 : List Cond := [Cond.code yX6_has cX6_has 3 (some .boolean), Cond.methodLink RX1 69 yX1_renumbered, Cond.static yX1_renumbered, Cond.initialized RX1, Cond.code yX1_renumbered cX1_renumbered 8 (some .long), Cond.methodLink RX1 19 yX5_add, Cond.instanceMethod yX5_add, Cond.selects RX5 yX5_add yX5_add, Cond.code yX5_add cX5_add 4 (some .boolean), Cond.fieldLink RX5 9 "QuadWorlds$World" "sets" "[J", Cond.methodLink RX1 73 yX5_spanSet, Cond.instanceMethod yX5_spanSet, Cond.selects RX5 yX5_spanSet yX5_spanSet, Cond.code yX5_spanSet cX5_spanSet 3 (some .long), Cond.methodLink RX5 48 yX5_nearToAll, Cond.instanceMethod yX5_nearToAll, Cond.selects RX5 yX5_nearToAll yX5_nearToAll, Cond.code yX5_nearToAll cX5_nearToAll 6 (some .long)]
def wsX1_makeAbout : List Cond := .code yX1_makeAbout cX1_makeAbout 8 (some .boolean) :: ((wsX1_makeAbout_r1 ++ wsX1_makeAbout_r2) ++ wsX50)
def wsX1_makePart_r1 : List Cond := [Cond.methodLink RX1 56 yJ13_bitCount_95d88, Cond.static yJ13_bitCount_95d88, Cond.initialized RJ13, Cond.code yJ13_bitCount_95d88 cJ13_bitCount_95d88 2 (some .int), Cond.constantLong RJ13 314 (6148914691236517205), Cond.constantLong RJ13 316 (3689348814741910323), Cond.constantLong RJ13 318 (1085102592571150095), Cond.methodLink RX1 9 yX5_begin, Cond.instanceMethod yX5_begin, Cond.selects RX5 yX5_begin yX5_begin, Cond.initialized RX5, Cond.code yX5_begin cX5_begin 5 none, Cond.fieldLink RX5 21 "QuadWorlds$World" "there" "Z", Cond.fieldLink RX5 25 "QuadWorlds$World" "kind" "I", Cond.fieldLink RX5 29 "QuadWorlds$World" "size" "I", Cond.fieldLink RX5 32 "QuadWorlds$World" "tag" "I", Cond.fieldLink RX5 35 "QuadWorlds$World" "lineCount" "I", Cond.fieldLink RX5 15 "QuadWorlds$World" "through" "[J", Cond.fieldLink RX5 18 "QuadWorlds$World" "near" "[J", Cond.methodLink RX1 69 yX1_renumbered, Cond.static yX1_renumbered, Cond.initialized RX1, Cond.code yX1_renumbered cX1_renumbered 8 (some .long), Cond.static yX6_has]
def wsX1_makePart_r2 : List Cond := [Cond.initialized RX6, Cond.code yX6_has cX6_has 3 (some .boolean), Cond.methodLink RX1 19 yX5_add, Cond.instanceMethod yX5_add, Cond.selects RX5 yX5_add yX5_add, Cond.code yX5_add cX5_add 4 (some .boolean), Cond.fieldLink RX5 9 "QuadWorlds$World" "sets" "[J"]
def wsX1_makePart : List Cond := .code yX1_makePart cX1_makePart 5 none :: ((wsX1_makePart_r1 ++ wsX1_makePart_r2) ++ wsX50)
def wsX2_init : List Cond := .code yX2_init cX2_init 1 none :: ([.methodLink RX2 3 objectInit, .instanceMethod objectInit, .code objectInit ⟨#[0xb1]⟩ 1 none, .arrayClass .int, .fieldLink RX2 9 "QuadWorlds$Matcher" "images" "[I", .arrayClass .long, .fieldLink RX2 15 "QuadWorlds$Matcher" "used" "[J", .fieldLink RX2 19 "QuadWorlds$Matcher" "left" "[J"] ++ wsX20)
def wsX2_imageOf : List Cond := .code yX2_imageOf cX2_imageOf 7 (some .long) :: ([.fieldLink RX2 9 "QuadWorlds$Matcher" "images" "[I", .static yX6_has, .initialized RX6, .code yX6_has cX6_has 3 (some .boolean)] ++ wsX20)
def wsX2_lineWith : List Cond := .code yX2_lineWith cX2_lineWith 6 (some .int) :: ([.static yX6_has, .initialized RX6, .code yX6_has cX6_has 3 (some .boolean)] ++ wsX50)
def wsX2_linesFit : List Cond := .code yX2_linesFit cX2_linesFit 7 (some .boolean) :: ([.constantLong RX2 56 (-1), .static yX6_below, .initialized RX6, .code yX6_below cX6_below 1 (some .long), .methodLink RX2 69 yX2_imageOf, .instanceMethod yX2_imageOf, .selects RX2 yX2_imageOf yX2_imageOf, .initialized RX2, .code yX2_imageOf cX2_imageOf 7 (some .long), .fieldLink RX2 9 "QuadWorlds$Matcher" "images" "[I", .static yX6_has, .code yX6_has cX6_has 3 (some .boolean), .methodLink RX2 88 yX2_lineWith, .static yX2_lineWith, .code yX2_lineWith cX2_lineWith 6 (some .int)] ++ wsX50 ++ wsX20)
def wsX2_open_r1 : List Cond := [Cond.fieldLink RX2 19 "QuadWorlds$Matcher" "left" "[J", Cond.fieldLink RX2 41 "QuadWorlds$Matcher" "depth" "I", Cond.fieldLink RX2 30 "QuadWorlds$Matcher" "isFound" "Z", Cond.fieldLink RX2 15 "QuadWorlds$Matcher" "used" "[J", Cond.methodLink RX2 58 yX2_linesFit, Cond.instanceMethod yX2_linesFit, Cond.selects RX2 yX2_linesFit yX2_linesFit, Cond.initialized RX2, Cond.code yX2_linesFit cX2_linesFit 7 (some .boolean), Cond.constantLong RX2 56 (-1), Cond.static yX6_below, Cond.initialized RX6, Cond.code yX6_below cX6_below 1 (some .long), Cond.methodLink RX2 69 yX2_imageOf, Cond.instanceMethod yX2_imageOf, Cond.selects RX2 yX2_imageOf yX2_imageOf, Cond.code yX2_imageOf cX2_imageOf 7 (some .long), Cond.fieldLink RX2 9 "QuadWorlds$Matcher" "images" "[I", Cond.static yX6_has, Cond.code yX6_has cX6_has 3 (some .boolean), Cond.methodLink RX2 88 yX2_lineWith, Cond.static yX2_lineWith, Cond.code yX2_lineWith cX2_lineWith 6 (some .int), Cond.methodLink RX2 76 yJ13_bitCount_95d88]
def wsX2_open_r2 : List Cond := [Cond.static yJ13_bitCount_95d88, Cond.initialized RJ13, Cond.code yJ13_bitCount_95d88 cJ13_bitCount_95d88 2 (some .int), Cond.constantLong RJ13 314 (6148914691236517205), Cond.constantLong RJ13 316 (3689348814741910323), Cond.constantLong RJ13 318 (1085102592571150095)]
def wsX2_open : List Cond := .code yX2_open cX2_open 7 none :: ((wsX2_open_r1 ++ wsX2_open_r2) ++ wsX20 ++ wsX50)
def wsX6_leastOf : List Cond := .code yX6_leastOf cX6_leastOf 2 (some .int) :: ([.methodLink RX6 86 yJ13_bitCount_95d88, .static yJ13_bitCount_95d88, .initialized RJ13, .code yJ13_bitCount_95d88 cJ13_bitCount_95d88 2 (some .int), .constantLong RJ13 314 (6148914691236517205), .constantLong RJ13 316 (3689348814741910323), .constantLong RJ13 318 (1085102592571150095)])
def wsX2_take_r1 : List Cond := [Cond.fieldLink RX2 19 "QuadWorlds$Matcher" "left" "[J", Cond.fieldLink RX2 41 "QuadWorlds$Matcher" "depth" "I", Cond.constantLong RX2 56 (-1), Cond.fieldLink RX2 22 "QuadWorlds$Matcher" "tryCount" "I", Cond.fieldLink RX2 9 "QuadWorlds$Matcher" "images" "[I", Cond.fieldLink RX2 15 "QuadWorlds$Matcher" "used" "[J", Cond.static yX6_leastOf, Cond.initialized RX6, Cond.code yX6_leastOf cX6_leastOf 2 (some .int), Cond.methodLink RX6 86 yJ13_bitCount_95d88, Cond.static yJ13_bitCount_95d88, Cond.initialized RJ13, Cond.code yJ13_bitCount_95d88 cJ13_bitCount_95d88 2 (some .int), Cond.constantLong RJ13 314 (6148914691236517205), Cond.constantLong RJ13 316 (3689348814741910323), Cond.constantLong RJ13 318 (1085102592571150095), Cond.methodLink RX2 44 yX2_open, Cond.instanceMethod yX2_open, Cond.selects RX2 yX2_open yX2_open, Cond.initialized RX2, Cond.code yX2_open cX2_open 7 none, Cond.fieldLink RX2 30 "QuadWorlds$Matcher" "isFound" "Z", Cond.methodLink RX2 58 yX2_linesFit, Cond.instanceMethod yX2_linesFit]
def wsX2_take_r2 : List Cond := [Cond.selects RX2 yX2_linesFit yX2_linesFit, Cond.code yX2_linesFit cX2_linesFit 7 (some .boolean), Cond.static yX6_below, Cond.code yX6_below cX6_below 1 (some .long), Cond.methodLink RX2 69 yX2_imageOf, Cond.instanceMethod yX2_imageOf, Cond.selects RX2 yX2_imageOf yX2_imageOf, Cond.code yX2_imageOf cX2_imageOf 7 (some .long), Cond.static yX6_has, Cond.code yX6_has cX6_has 3 (some .boolean), Cond.methodLink RX2 88 yX2_lineWith, Cond.static yX2_lineWith, Cond.code yX2_lineWith cX2_lineWith 6 (some .int), Cond.methodLink RX2 76 yJ13_bitCount_95d88]
def wsX2_take : List Cond := .code yX2_take cX2_take 4 none :: ((wsX2_take_r1 ++ wsX2_take_r2) ++ wsX20 ++ wsX50)
def wsX2_match_r1 : List Cond := [Cond.fieldLink RX2 22 "QuadWorlds$Matcher" "tryCount" "I", Cond.fieldLink RX2 26 "QuadWorlds$Matcher" "isSpent" "Z", Cond.fieldLink RX2 30 "QuadWorlds$Matcher" "isFound" "Z", Cond.fieldLink RX2 41 "QuadWorlds$Matcher" "depth" "I", Cond.fieldLink RX2 15 "QuadWorlds$Matcher" "used" "[J", Cond.constant RX2 48 (1000000), Cond.fieldLink RX2 19 "QuadWorlds$Matcher" "left" "[J", Cond.methodLink RX2 44 yX2_open, Cond.instanceMethod yX2_open, Cond.selects RX2 yX2_open yX2_open, Cond.initialized RX2, Cond.code yX2_open cX2_open 7 none, Cond.methodLink RX2 58 yX2_linesFit, Cond.instanceMethod yX2_linesFit, Cond.selects RX2 yX2_linesFit yX2_linesFit, Cond.code yX2_linesFit cX2_linesFit 7 (some .boolean), Cond.constantLong RX2 56 (-1), Cond.static yX6_below, Cond.initialized RX6, Cond.code yX6_below cX6_below 1 (some .long), Cond.methodLink RX2 69 yX2_imageOf, Cond.instanceMethod yX2_imageOf, Cond.selects RX2 yX2_imageOf yX2_imageOf, Cond.code yX2_imageOf cX2_imageOf 7 (some .long)]
def wsX2_match_r2 : List Cond := [Cond.fieldLink RX2 9 "QuadWorlds$Matcher" "images" "[I", Cond.static yX6_has, Cond.code yX6_has cX6_has 3 (some .boolean), Cond.methodLink RX2 88 yX2_lineWith, Cond.static yX2_lineWith, Cond.code yX2_lineWith cX2_lineWith 6 (some .int), Cond.methodLink RX2 76 yJ13_bitCount_95d88, Cond.static yJ13_bitCount_95d88, Cond.initialized RJ13, Cond.code yJ13_bitCount_95d88 cJ13_bitCount_95d88 2 (some .int), Cond.constantLong RJ13 314 (6148914691236517205), Cond.constantLong RJ13 316 (3689348814741910323), Cond.constantLong RJ13 318 (1085102592571150095), Cond.methodLink RX2 49 yX2_take, Cond.instanceMethod yX2_take, Cond.selects RX2 yX2_take yX2_take, Cond.code yX2_take cX2_take 4 none, Cond.static yX6_leastOf, Cond.code yX6_leastOf cX6_leastOf 2 (some .int), Cond.methodLink RX6 86 yJ13_bitCount_95d88]
def wsX2_match : List Cond := .code yX2_match cX2_match 5 none :: ((wsX2_match_r1 ++ wsX2_match_r2) ++ wsX20 ++ wsX50)
def wsX3_firstWith : List Cond := .code yX3_firstWith cX3_firstWith 5 (some .int) :: ([])
def wsX3_swapRows : List Cond := .code yX3_swapRows cX3_swapRows 6 none :: ([])
def wsX3_inverseOf : List Cond := .code yX3_inverseOf cX3_inverseOf 3 (some .int) :: ([])
def wsJ9_floorMod_7cf53 : List Cond := .code yJ9_floorMod_7cf53 cJ9_floorMod_7cf53 3 (some .int) :: ([])
def wsX3_clearBelow : List Cond := .code yX3_clearBelow cX3_clearBelow 10 none :: ([.methodLink RX3 40 yX3_inverseOf, .static yX3_inverseOf, .initialized RX3, .code yX3_inverseOf cX3_inverseOf 3 (some .int), .methodLink RX3 44 yJ9_floorMod_7cf53, .static yJ9_floorMod_7cf53, .initialized RJ9, .code yJ9_floorMod_7cf53 cJ9_floorMod_7cf53 3 (some .int)] ++ wsX50)
def wsX3_rankOf : List Cond := .code yX3_rankOf cX3_rankOf 6 (some .int) :: ([.static yX6_has, .initialized RX6, .code yX6_has cX6_has 3 (some .boolean), .methodLink RX3 26 yX3_firstWith, .static yX3_firstWith, .initialized RX3, .code yX3_firstWith cX3_firstWith 5 (some .int), .methodLink RX3 32 yX3_swapRows, .static yX3_swapRows, .code yX3_swapRows cX3_swapRows 6 none, .methodLink RX3 36 yX3_clearBelow, .static yX3_clearBelow, .code yX3_clearBelow cX3_clearBelow 10 none, .methodLink RX3 40 yX3_inverseOf, .static yX3_inverseOf, .code yX3_inverseOf cX3_inverseOf 3 (some .int), .methodLink RX3 44 yJ9_floorMod_7cf53, .static yJ9_floorMod_7cf53, .initialized RJ9, .code yJ9_floorMod_7cf53 cJ9_floorMod_7cf53 3 (some .int)] ++ wsX50)
def wsX4_init : List Cond := .code yX4_init cX4_init 1 none :: ([.methodLink RX4 3 objectInit, .instanceMethod objectInit, .code objectInit ⟨#[0xb1]⟩ 1 none, .arrayClass .long, .fieldLink RX4 9 "QuadWorlds$Seeker" "met" "[J", .fieldLink RX4 15 "QuadWorlds$Seeker" "taken" "[J", .fieldLink RX4 18 "QuadWorlds$Seeker" "left" "[J"] ++ wsX40)
def wsX4_open : List Cond := .code yX4_open cX4_open 5 none :: ([.fieldLink RX4 18 "QuadWorlds$Seeker" "left" "[J", .fieldLink RX4 40 "QuadWorlds$Seeker" "depth" "I", .fieldLink RX4 9 "QuadWorlds$Seeker" "met" "[J", .fieldLink RX4 25 "QuadWorlds$Seeker" "allMet" "J", .fieldLink RX4 37 "QuadWorlds$Seeker" "foundCount" "I", .fieldLink RX4 15 "QuadWorlds$Seeker" "taken" "[J", .fieldLink RX4 57 "QuadWorlds$Seeker" "foundSet" "J", .constantLong RX4 55 (-1), .static yX6_leastOf, .initialized RX6, .code yX6_leastOf cX6_leastOf 2 (some .int), .methodLink RX6 86 yJ13_bitCount_95d88, .static yJ13_bitCount_95d88, .initialized RJ13, .code yJ13_bitCount_95d88 cJ13_bitCount_95d88 2 (some .int), .constantLong RJ13 314 (6148914691236517205), .constantLong RJ13 316 (3689348814741910323), .constantLong RJ13 318 (1085102592571150095), .static yX6_has, .code yX6_has cX6_has 3 (some .boolean)] ++ wsX40)
def wsX4_take_r1 : List Cond := [Cond.fieldLink RX4 18 "QuadWorlds$Seeker" "left" "[J", Cond.fieldLink RX4 40 "QuadWorlds$Seeker" "depth" "I", Cond.constantLong RX4 55 (-1), Cond.fieldLink RX4 29 "QuadWorlds$Seeker" "tryCount" "I", Cond.fieldLink RX4 9 "QuadWorlds$Seeker" "met" "[J", Cond.fieldLink RX4 15 "QuadWorlds$Seeker" "taken" "[J", Cond.static yX6_leastOf, Cond.initialized RX6, Cond.code yX6_leastOf cX6_leastOf 2 (some .int), Cond.methodLink RX6 86 yJ13_bitCount_95d88, Cond.static yJ13_bitCount_95d88, Cond.initialized RJ13, Cond.code yJ13_bitCount_95d88 cJ13_bitCount_95d88 2 (some .int), Cond.constantLong RJ13 314 (6148914691236517205), Cond.constantLong RJ13 316 (3689348814741910323), Cond.constantLong RJ13 318 (1085102592571150095), Cond.methodLink RX4 43 yX4_open, Cond.instanceMethod yX4_open, Cond.selects RX4 yX4_open yX4_open, Cond.initialized RX4, Cond.code yX4_open cX4_open 5 none, Cond.fieldLink RX4 25 "QuadWorlds$Seeker" "allMet" "J", Cond.fieldLink RX4 37 "QuadWorlds$Seeker" "foundCount" "I", Cond.fieldLink RX4 57 "QuadWorlds$Seeker" "foundSet" "J"]
def wsX4_take_r2 : List Cond := [Cond.static yX6_has, Cond.code yX6_has cX6_has 3 (some .boolean)]
def wsX4_take : List Cond := .code yX4_take cX4_take 4 none :: ((wsX4_take_r1 ++ wsX4_take_r2) ++ wsX40)
def wsX4_seek_r1 : List Cond := [Cond.fieldLink RX4 25 "QuadWorlds$Seeker" "allMet" "J", Cond.fieldLink RX4 29 "QuadWorlds$Seeker" "tryCount" "I", Cond.fieldLink RX4 33 "QuadWorlds$Seeker" "isSpent" "Z", Cond.fieldLink RX4 37 "QuadWorlds$Seeker" "foundCount" "I", Cond.fieldLink RX4 40 "QuadWorlds$Seeker" "depth" "I", Cond.fieldLink RX4 9 "QuadWorlds$Seeker" "met" "[J", Cond.fieldLink RX4 15 "QuadWorlds$Seeker" "taken" "[J", Cond.constant RX4 47 (1000000), Cond.fieldLink RX4 18 "QuadWorlds$Seeker" "left" "[J", Cond.static yX6_below, Cond.initialized RX6, Cond.code yX6_below cX6_below 1 (some .long), Cond.methodLink RX4 43 yX4_open, Cond.instanceMethod yX4_open, Cond.selects RX4 yX4_open yX4_open, Cond.initialized RX4, Cond.code yX4_open cX4_open 5 none, Cond.fieldLink RX4 57 "QuadWorlds$Seeker" "foundSet" "J", Cond.constantLong RX4 55 (-1), Cond.static yX6_leastOf, Cond.code yX6_leastOf cX6_leastOf 2 (some .int), Cond.methodLink RX6 86 yJ13_bitCount_95d88, Cond.static yJ13_bitCount_95d88, Cond.initialized RJ13]
def wsX4_seek_r2 : List Cond := [Cond.code yJ13_bitCount_95d88 cJ13_bitCount_95d88 2 (some .int), Cond.constantLong RJ13 314 (6148914691236517205), Cond.constantLong RJ13 316 (3689348814741910323), Cond.constantLong RJ13 318 (1085102592571150095), Cond.static yX6_has, Cond.code yX6_has cX6_has 3 (some .boolean), Cond.methodLink RX4 48 yX4_take, Cond.instanceMethod yX4_take, Cond.selects RX4 yX4_take yX4_take, Cond.code yX4_take cX4_take 4 none]
def wsX4_seek : List Cond := .code yX4_seek cX4_seek 7 none :: ((wsX4_seek_r1 ++ wsX4_seek_r2) ++ wsX40)
def wsX5_init : List Cond := .code yX5_init cX5_init 1 none :: ([.methodLink RX5 3 objectInit, .instanceMethod objectInit, .code objectInit ⟨#[0xb1]⟩ 1 none, .arrayClass .long, .fieldLink RX5 9 "QuadWorlds$World" "sets" "[J", .fieldLink RX5 15 "QuadWorlds$World" "through" "[J", .fieldLink RX5 18 "QuadWorlds$World" "near" "[J"] ++ wsX50)
def wsX5_hasPoint : List Cond := .code yX5_hasPoint cX5_hasPoint 2 (some .boolean) :: ([.fieldLink RX5 29 "QuadWorlds$World" "size" "I"] ++ wsX50)
def wsX5_hasAll : List Cond := .code yX5_hasAll cX5_hasAll 3 (some .boolean) :: ([.fieldLink RX5 29 "QuadWorlds$World" "size" "I", .constantLong RX5 46 (-1), .static yX6_below, .initialized RX6, .code yX6_below cX6_below 1 (some .long)] ++ wsX50)
def wsX5_orderOfPoints : List Cond := .code yX5_orderOfPoints cX5_orderOfPoints 3 (some .int) :: ([.fieldLink RX5 35 "QuadWorlds$World" "lineCount" "I", .fieldLink RX5 15 "QuadWorlds$World" "through" "[J", .fieldLink RX5 29 "QuadWorlds$World" "size" "I", .methodLink RX5 64 yJ13_bitCount_95d88, .static yJ13_bitCount_95d88, .initialized RJ13, .code yJ13_bitCount_95d88 cJ13_bitCount_95d88 2 (some .int), .constantLong RJ13 314 (6148914691236517205), .constantLong RJ13 316 (3689348814741910323), .constantLong RJ13 318 (1085102592571150095)] ++ wsX50)
def wsX5_isRegular_r1 : List Cond := [Cond.fieldLink RX5 29 "QuadWorlds$World" "size" "I", Cond.methodLink RX5 52 yX5_orderOfPoints, Cond.instanceMethod yX5_orderOfPoints, Cond.selects RX5 yX5_orderOfPoints yX5_orderOfPoints, Cond.initialized RX5, Cond.code yX5_orderOfPoints cX5_orderOfPoints 3 (some .int), Cond.fieldLink RX5 35 "QuadWorlds$World" "lineCount" "I", Cond.fieldLink RX5 15 "QuadWorlds$World" "through" "[J", Cond.methodLink RX5 64 yJ13_bitCount_95d88, Cond.static yJ13_bitCount_95d88, Cond.initialized RJ13, Cond.code yJ13_bitCount_95d88 cJ13_bitCount_95d88 2 (some .int), Cond.constantLong RJ13 314 (6148914691236517205), Cond.constantLong RJ13 316 (3689348814741910323), Cond.constantLong RJ13 318 (1085102592571150095), Cond.methodLink RX5 56 yX5_areNear, Cond.instanceMethod yX5_areNear, Cond.selects RX5 yX5_areNear yX5_areNear, Cond.code yX5_areNear cX5_areNear 3 (some .boolean), Cond.fieldLink RX5 18 "QuadWorlds$World" "near" "[J", Cond.static yX6_has, Cond.initialized RX6, Cond.code yX6_has cX6_has 3 (some .boolean), Cond.methodLink RX5 60 yX5_spanSet]
def wsX5_isRegular_r2 : List Cond := [Cond.instanceMethod yX5_spanSet, Cond.selects RX5 yX5_spanSet yX5_spanSet, Cond.code yX5_spanSet cX5_spanSet 3 (some .long), Cond.methodLink RX5 48 yX5_nearToAll, Cond.instanceMethod yX5_nearToAll, Cond.selects RX5 yX5_nearToAll yX5_nearToAll, Cond.code yX5_nearToAll cX5_nearToAll 6 (some .long), Cond.static yX6_below, Cond.code yX6_below cX6_below 1 (some .long)]
def wsX5_isRegular : List Cond := .code yX5_isRegular cX5_isRegular 4 (some .boolean) :: ((wsX5_isRegular_r1 ++ wsX5_isRegular_r2) ++ wsX50)
def wsX5_orderOfLines : List Cond := .code yX5_orderOfLines cX5_orderOfLines 3 (some .int) :: ([.fieldLink RX5 35 "QuadWorlds$World" "lineCount" "I", .fieldLink RX5 9 "QuadWorlds$World" "sets" "[J", .methodLink RX5 64 yJ13_bitCount_95d88, .static yJ13_bitCount_95d88, .initialized RJ13, .code yJ13_bitCount_95d88 cJ13_bitCount_95d88 2 (some .int), .constantLong RJ13 314 (6148914691236517205), .constantLong RJ13 316 (3689348814741910323), .constantLong RJ13 318 (1085102592571150095)] ++ wsX50)
def wsX5_leastThrough : List Cond := .code yX5_leastThrough cX5_leastThrough 3 (some .int) :: ([.fieldLink RX5 29 "QuadWorlds$World" "size" "I", .fieldLink RX5 15 "QuadWorlds$World" "through" "[J", .methodLink RX5 70 Lib.Math.min.name, .static Lib.Math.min.name, .initialized "java/lang/Math", .code Lib.Math.min.name Lib.Math.min.code 2 (some .int), .methodLink RX5 64 yJ13_bitCount_95d88, .static yJ13_bitCount_95d88, .initialized RJ13, .code yJ13_bitCount_95d88 cJ13_bitCount_95d88 2 (some .int), .constantLong RJ13 314 (6148914691236517205), .constantLong RJ13 316 (3689348814741910323), .constantLong RJ13 318 (1085102592571150095)] ++ wsX50)
def wsX5_mostOnLine : List Cond := .code yX5_mostOnLine cX5_mostOnLine 5 (some .int) :: ([.fieldLink RX5 35 "QuadWorlds$World" "lineCount" "I", .fieldLink RX5 9 "QuadWorlds$World" "sets" "[J", .methodLink RX5 76 Lib.Math.max.name, .static Lib.Math.max.name, .initialized "java/lang/Math", .code Lib.Math.max.name Lib.Math.max.code 2 (some .int), .methodLink RX5 64 yJ13_bitCount_95d88, .static yJ13_bitCount_95d88, .initialized RJ13, .code yJ13_bitCount_95d88 cJ13_bitCount_95d88 2 (some .int), .constantLong RJ13 314 (6148914691236517205), .constantLong RJ13 316 (3689348814741910323), .constantLong RJ13 318 (1085102592571150095)] ++ wsX50)
def wsX5_leastOnLine : List Cond := .code yX5_leastOnLine cX5_leastOnLine 5 (some .int) :: ([.fieldLink RX5 35 "QuadWorlds$World" "lineCount" "I", .fieldLink RX5 9 "QuadWorlds$World" "sets" "[J", .methodLink RX5 70 Lib.Math.min.name, .static Lib.Math.min.name, .initialized "java/lang/Math", .code Lib.Math.min.name Lib.Math.min.code 2 (some .int), .methodLink RX5 64 yJ13_bitCount_95d88, .static yJ13_bitCount_95d88, .initialized RJ13, .code yJ13_bitCount_95d88 cJ13_bitCount_95d88 2 (some .int), .constantLong RJ13 314 (6148914691236517205), .constantLong RJ13 316 (3689348814741910323), .constantLong RJ13 318 (1085102592571150095)] ++ wsX50)
def wsX5_stepsBetween : List Cond := .code yX5_stepsBetween cX5_stepsBetween 9 (some .int) :: ([.fieldLink RX5 29 "QuadWorlds$World" "size" "I", .fieldLink RX5 18 "QuadWorlds$World" "near" "[J", .static yX6_has, .initialized RX6, .code yX6_has cX6_has 3 (some .boolean)] ++ wsX50)
def wsX5_digestOn : List Cond := .code yX5_digestOn cX5_digestOn 6 (some .long) :: ([.fieldLink RX5 21 "QuadWorlds$World" "there" "Z", .constantLong RX5 79 (31), .fieldLink RX5 29 "QuadWorlds$World" "size" "I", .fieldLink RX5 35 "QuadWorlds$World" "lineCount" "I", .fieldLink RX5 25 "QuadWorlds$World" "kind" "I", .fieldLink RX5 9 "QuadWorlds$World" "sets" "[J"] ++ wsX50)
def wsX6_init_r1 : List Cond := [Cond.methodLink RX6 1 objectInit, Cond.instanceMethod objectInit, Cond.code objectInit ⟨#[0xb1]⟩ 1 none, Cond.classLink RX6 9 RX5, Cond.fieldLink RX6 11 "QuadWorlds" "worlds" "[LQuadWorlds$World;", Cond.classLink RX6 15 "[[I", Cond.arrayClass .int, Cond.fieldLink RX6 17 "QuadWorlds" "rowPlaces" "[[I", Cond.fieldLink RX6 20 "QuadWorlds" "rowSizes" "[I", Cond.fieldLink RX6 24 "QuadWorlds" "findingTimes" "[I", Cond.fieldLink RX6 27 "QuadWorlds" "sentTo" "[I", Cond.fieldLink RX6 30 "QuadWorlds" "rankCells" "[I", Cond.classLink RX6 33 RX4, Cond.instantiable RX4 9, Cond.initialized RX4, Cond.fieldLink RX6 36 "QuadWorlds" "seeker" "LQuadWorlds$Seeker;", Cond.classLink RX6 40 RX2, Cond.instantiable RX2 7, Cond.initialized RX2, Cond.fieldLink RX6 43 "QuadWorlds" "matcher" "LQuadWorlds$Matcher;", Cond.instantiable RX5 8, Cond.initialized RX5, Cond.fieldLink RX6 48 "QuadWorlds" "spare" "LQuadWorlds$World;", Cond.instanceMethod yX4_init]
def wsX6_init_r2 : List Cond := [Cond.code yX4_init cX4_init 1 none, Cond.methodLink RX4 3 objectInit, Cond.arrayClass .long, Cond.fieldLink RX4 9 "QuadWorlds$Seeker" "met" "[J", Cond.fieldLink RX4 15 "QuadWorlds$Seeker" "taken" "[J", Cond.fieldLink RX4 18 "QuadWorlds$Seeker" "left" "[J", Cond.instanceMethod yX2_init, Cond.code yX2_init cX2_init 1 none, Cond.methodLink RX2 3 objectInit, Cond.fieldLink RX2 9 "QuadWorlds$Matcher" "images" "[I", Cond.fieldLink RX2 15 "QuadWorlds$Matcher" "used" "[J", Cond.fieldLink RX2 19 "QuadWorlds$Matcher" "left" "[J", Cond.instanceMethod yX5_init, Cond.code yX5_init cX5_init 1 none, Cond.methodLink RX5 3 objectInit, Cond.fieldLink RX5 9 "QuadWorlds$World" "sets" "[J", Cond.fieldLink RX5 15 "QuadWorlds$World" "through" "[J", Cond.fieldLink RX5 18 "QuadWorlds$World" "near" "[J"]
def wsX6_init : List Cond := .code yX6_init cX6_init 2 none :: ((wsX6_init_r1 ++ wsX6_init_r2) ++ wsX60 ++ wsX40 ++ wsX20 ++ wsX50)
def wsX6_isWorldNumber : List Cond := .code yX6_isWorldNumber cX6_isWorldNumber 1 (some .boolean) :: ([])
def wsX6_world : List Cond := .code yX6_world cX6_world 3 (some .int) :: ([.fieldLink RX6 11 "QuadWorlds" "worlds" "[LQuadWorlds$World;", .methodLink RX6 52 yX6_isWorldNumber, .static yX6_isWorldNumber, .initialized RX6, .code yX6_isWorldNumber cX6_isWorldNumber 1 (some .boolean), .methodLink RX6 56 yX5_begin, .instanceMethod yX5_begin, .selects RX5 yX5_begin yX5_begin, .initialized RX5, .code yX5_begin cX5_begin 5 none, .fieldLink RX5 21 "QuadWorlds$World" "there" "Z", .fieldLink RX5 25 "QuadWorlds$World" "kind" "I", .fieldLink RX5 29 "QuadWorlds$World" "size" "I", .fieldLink RX5 32 "QuadWorlds$World" "tag" "I", .fieldLink RX5 35 "QuadWorlds$World" "lineCount" "I", .fieldLink RX5 15 "QuadWorlds$World" "through" "[J", .fieldLink RX5 18 "QuadWorlds$World" "near" "[J"] ++ wsX60 ++ wsX50)
def wsX6_isRowNumber : List Cond := .code yX6_isRowNumber cX6_isRowNumber 1 (some .boolean) :: ([])
def wsX6_refused : List Cond := .code yX6_refused cX6_refused 2 (some .int) :: ([.fieldLink RX6 250 "QuadWorlds" "latestFinding" "I", .fieldLink RX6 24 "QuadWorlds" "findingTimes" "[I"] ++ wsX60)
def wsX6_rowHasPointsOf : List Cond := .code yX6_rowHasPointsOf cX6_rowHasPointsOf 4 (some .boolean) :: ([.fieldLink RX6 20 "QuadWorlds" "rowSizes" "[I", .fieldLink RX6 17 "QuadWorlds" "rowPlaces" "[[I", .methodLink RX6 120 yX5_hasPoint, .instanceMethod yX5_hasPoint, .selects RX5 yX5_hasPoint yX5_hasPoint, .initialized RX5, .code yX5_hasPoint cX5_hasPoint 2 (some .boolean), .fieldLink RX5 29 "QuadWorlds$World" "size" "I"] ++ wsX60 ++ wsX50)
def wsX6_setOfRow : List Cond := .code yX6_setOfRow cX6_setOfRow 5 (some .long) :: ([.fieldLink RX6 20 "QuadWorlds" "rowSizes" "[I", .fieldLink RX6 17 "QuadWorlds" "rowPlaces" "[[I"] ++ wsX60)
def wsX6_line_r1 : List Cond := [Cond.fieldLink RX6 11 "QuadWorlds" "worlds" "[LQuadWorlds$World;", Cond.fieldLink RX6 20 "QuadWorlds" "rowSizes" "[I", Cond.methodLink RX6 52 yX6_isWorldNumber, Cond.static yX6_isWorldNumber, Cond.initialized RX6, Cond.code yX6_isWorldNumber cX6_isWorldNumber 1 (some .boolean), Cond.methodLink RX6 60 yX6_isRowNumber, Cond.static yX6_isRowNumber, Cond.code yX6_isRowNumber cX6_isRowNumber 1 (some .boolean), Cond.methodLink RX6 71 yX6_refused, Cond.instanceMethod yX6_refused, Cond.selects RX6 yX6_refused yX6_refused, Cond.code yX6_refused cX6_refused 2 (some .int), Cond.fieldLink RX6 250 "QuadWorlds" "latestFinding" "I", Cond.fieldLink RX6 24 "QuadWorlds" "findingTimes" "[I", Cond.methodLink RX6 78 yX6_rowHasPointsOf, Cond.instanceMethod yX6_rowHasPointsOf, Cond.selects RX6 yX6_rowHasPointsOf yX6_rowHasPointsOf, Cond.code yX6_rowHasPointsOf cX6_rowHasPointsOf 4 (some .boolean), Cond.fieldLink RX6 17 "QuadWorlds" "rowPlaces" "[[I", Cond.methodLink RX6 120 yX5_hasPoint, Cond.instanceMethod yX5_hasPoint, Cond.selects RX5 yX5_hasPoint yX5_hasPoint, Cond.initialized RX5]
def wsX6_line_r2 : List Cond := [Cond.code yX5_hasPoint cX5_hasPoint 2 (some .boolean), Cond.fieldLink RX5 29 "QuadWorlds$World" "size" "I", Cond.methodLink RX6 82 yX6_setOfRow, Cond.instanceMethod yX6_setOfRow, Cond.selects RX6 yX6_setOfRow yX6_setOfRow, Cond.code yX6_setOfRow cX6_setOfRow 5 (some .long), Cond.methodLink RX6 86 yJ13_bitCount_95d88, Cond.static yJ13_bitCount_95d88, Cond.initialized RJ13, Cond.code yJ13_bitCount_95d88 cJ13_bitCount_95d88 2 (some .int), Cond.constantLong RJ13 314 (6148914691236517205), Cond.constantLong RJ13 316 (3689348814741910323), Cond.constantLong RJ13 318 (1085102592571150095), Cond.methodLink RX6 92 yX5_add, Cond.instanceMethod yX5_add, Cond.selects RX5 yX5_add yX5_add, Cond.code yX5_add cX5_add 4 (some .boolean), Cond.fieldLink RX5 35 "QuadWorlds$World" "lineCount" "I", Cond.fieldLink RX5 9 "QuadWorlds$World" "sets" "[J", Cond.fieldLink RX5 15 "QuadWorlds$World" "through" "[J", Cond.fieldLink RX5 18 "QuadWorlds$World" "near" "[J", Cond.static yX6_has, Cond.code yX6_has cX6_has 3 (some .boolean)]
def wsX6_line : List Cond := .code yX6_line cX6_line 6 (some .int) :: ((wsX6_line_r1 ++ wsX6_line_r2) ++ wsX60 ++ wsX50)
def wsX6_grid_r1 : List Cond := [Cond.fieldLink RX6 11 "QuadWorlds" "worlds" "[LQuadWorlds$World;", Cond.methodLink RX6 52 yX6_isWorldNumber, Cond.static yX6_isWorldNumber, Cond.initialized RX6, Cond.code yX6_isWorldNumber cX6_isWorldNumber 1 (some .boolean), Cond.methodLink RX6 96 yX1_makeGrid, Cond.static yX1_makeGrid, Cond.initialized RX1, Cond.code yX1_makeGrid cX1_makeGrid 7 none, Cond.methodLink RX1 9 yX5_begin, Cond.instanceMethod yX5_begin, Cond.selects RX5 yX5_begin yX5_begin, Cond.initialized RX5, Cond.code yX5_begin cX5_begin 5 none, Cond.fieldLink RX5 21 "QuadWorlds$World" "there" "Z", Cond.fieldLink RX5 25 "QuadWorlds$World" "kind" "I", Cond.fieldLink RX5 29 "QuadWorlds$World" "size" "I", Cond.fieldLink RX5 32 "QuadWorlds$World" "tag" "I", Cond.fieldLink RX5 35 "QuadWorlds$World" "lineCount" "I", Cond.fieldLink RX5 15 "QuadWorlds$World" "through" "[J", Cond.fieldLink RX5 18 "QuadWorlds$World" "near" "[J", Cond.static yX6_below, Cond.code yX6_below cX6_below 1 (some .long), Cond.methodLink RX1 19 yX5_add]
def wsX6_grid_r2 : List Cond := [Cond.instanceMethod yX5_add, Cond.selects RX5 yX5_add yX5_add, Cond.code yX5_add cX5_add 4 (some .boolean), Cond.fieldLink RX5 9 "QuadWorlds$World" "sets" "[J", Cond.static yX6_has, Cond.code yX6_has cX6_has 3 (some .boolean)]
def wsX6_grid : List Cond := .code yX6_grid cX6_grid 4 (some .int) :: ((wsX6_grid_r1 ++ wsX6_grid_r2) ++ wsX60 ++ wsX50)
def wsX6_form_r1 : List Cond := [Cond.fieldLink RX6 11 "QuadWorlds" "worlds" "[LQuadWorlds$World;", Cond.methodLink RX6 52 yX6_isWorldNumber, Cond.static yX6_isWorldNumber, Cond.initialized RX6, Cond.code yX6_isWorldNumber cX6_isWorldNumber 1 (some .boolean), Cond.methodLink RX6 105 yX1_makeForm, Cond.static yX1_makeForm, Cond.initialized RX1, Cond.code yX1_makeForm cX1_makeForm 8 none, Cond.methodLink RX1 9 yX5_begin, Cond.instanceMethod yX5_begin, Cond.selects RX5 yX5_begin yX5_begin, Cond.initialized RX5, Cond.code yX5_begin cX5_begin 5 none, Cond.fieldLink RX5 21 "QuadWorlds$World" "there" "Z", Cond.fieldLink RX5 25 "QuadWorlds$World" "kind" "I", Cond.fieldLink RX5 29 "QuadWorlds$World" "size" "I", Cond.fieldLink RX5 32 "QuadWorlds$World" "tag" "I", Cond.fieldLink RX5 35 "QuadWorlds$World" "lineCount" "I", Cond.fieldLink RX5 15 "QuadWorlds$World" "through" "[J", Cond.fieldLink RX5 18 "QuadWorlds$World" "near" "[J", Cond.methodLink RX1 27 yX1_isFormPoint, Cond.static yX1_isFormPoint, Cond.code yX1_isFormPoint cX1_isFormPoint 5 (some .boolean)]
def wsX6_form_r2 : List Cond := [Cond.methodLink RX1 37 yX1_nearByForm, Cond.static yX1_nearByForm, Cond.code yX1_nearByForm cX1_nearByForm 7 (some .long), Cond.methodLink RX1 44 yX1_isZeroForm, Cond.static yX1_isZeroForm, Cond.code yX1_isZeroForm cX1_isZeroForm 11 (some .boolean), Cond.methodLink RX1 41 yX5_areNear, Cond.instanceMethod yX5_areNear, Cond.selects RX5 yX5_areNear yX5_areNear, Cond.code yX5_areNear cX5_areNear 3 (some .boolean), Cond.static yX6_has, Cond.code yX6_has cX6_has 3 (some .boolean), Cond.static yX6_below, Cond.code yX6_below cX6_below 1 (some .long), Cond.methodLink RX1 19 yX5_add, Cond.instanceMethod yX5_add, Cond.selects RX5 yX5_add yX5_add, Cond.code yX5_add cX5_add 4 (some .boolean), Cond.fieldLink RX5 9 "QuadWorlds$World" "sets" "[J"]
def wsX6_form : List Cond := .code yX6_form cX6_form 3 (some .int) :: ((wsX6_form_r1 ++ wsX6_form_r2) ++ wsX60 ++ wsX50)
def wsX6_putSpare : List Cond := .code yX6_putSpare cX6_putSpare 3 (some .int) :: ([.fieldLink RX6 48 "QuadWorlds" "spare" "LQuadWorlds$World;", .fieldLink RX6 11 "QuadWorlds" "worlds" "[LQuadWorlds$World;"] ++ wsX60 ++ wsX50)
def wsX6_dual_r1 : List Cond := [Cond.fieldLink RX6 11 "QuadWorlds" "worlds" "[LQuadWorlds$World;", Cond.fieldLink RX6 48 "QuadWorlds" "spare" "LQuadWorlds$World;", Cond.methodLink RX6 52 yX6_isWorldNumber, Cond.static yX6_isWorldNumber, Cond.initialized RX6, Cond.code yX6_isWorldNumber cX6_isWorldNumber 1 (some .boolean), Cond.methodLink RX6 71 yX6_refused, Cond.instanceMethod yX6_refused, Cond.selects RX6 yX6_refused yX6_refused, Cond.code yX6_refused cX6_refused 2 (some .int), Cond.fieldLink RX6 250 "QuadWorlds" "latestFinding" "I", Cond.fieldLink RX6 24 "QuadWorlds" "findingTimes" "[I", Cond.methodLink RX6 109 yX5_leastThrough, Cond.instanceMethod yX5_leastThrough, Cond.selects RX5 yX5_leastThrough yX5_leastThrough, Cond.initialized RX5, Cond.code yX5_leastThrough cX5_leastThrough 3 (some .int), Cond.fieldLink RX5 29 "QuadWorlds$World" "size" "I", Cond.fieldLink RX5 15 "QuadWorlds$World" "through" "[J", Cond.methodLink RX5 70 Lib.Math.min.name, Cond.static Lib.Math.min.name, Cond.initialized "java/lang/Math", Cond.code Lib.Math.min.name Lib.Math.min.code 2 (some .int), Cond.methodLink RX5 64 yJ13_bitCount_95d88]
def wsX6_dual_r2 : List Cond := [Cond.static yJ13_bitCount_95d88, Cond.initialized RJ13, Cond.code yJ13_bitCount_95d88 cJ13_bitCount_95d88 2 (some .int), Cond.constantLong RJ13 314 (6148914691236517205), Cond.constantLong RJ13 316 (3689348814741910323), Cond.constantLong RJ13 318 (1085102592571150095), Cond.methodLink RX6 113 yX1_makeTurned, Cond.static yX1_makeTurned, Cond.initialized RX1, Cond.code yX1_makeTurned cX1_makeTurned 3 none, Cond.methodLink RX1 9 yX5_begin, Cond.instanceMethod yX5_begin, Cond.selects RX5 yX5_begin yX5_begin, Cond.code yX5_begin cX5_begin 5 none, Cond.fieldLink RX5 21 "QuadWorlds$World" "there" "Z", Cond.fieldLink RX5 25 "QuadWorlds$World" "kind" "I", Cond.fieldLink RX5 32 "QuadWorlds$World" "tag" "I", Cond.fieldLink RX5 35 "QuadWorlds$World" "lineCount" "I", Cond.fieldLink RX5 18 "QuadWorlds$World" "near" "[J", Cond.methodLink RX1 19 yX5_add, Cond.instanceMethod yX5_add, Cond.selects RX5 yX5_add yX5_add, Cond.code yX5_add cX5_add 4 (some .boolean), Cond.fieldLink RX5 9 "QuadWorlds$World" "sets" "[J"]
def wsX6_dual_r3 : List Cond := [Cond.static yX6_has, Cond.code yX6_has cX6_has 3 (some .boolean), Cond.methodLink RX6 117 yX6_putSpare, Cond.instanceMethod yX6_putSpare, Cond.selects RX6 yX6_putSpare yX6_putSpare, Cond.code yX6_putSpare cX6_putSpare 3 (some .int)]
def wsX6_dual : List Cond := .code yX6_dual cX6_dual 4 (some .int) :: ((wsX6_dual_r1 ++ (wsX6_dual_r2 ++ wsX6_dual_r3)) ++ wsX60 ++ wsX50)
def wsX6_derive_r1 : List Cond := [Cond.fieldLink RX6 11 "QuadWorlds" "worlds" "[LQuadWorlds$World;", Cond.fieldLink RX6 48 "QuadWorlds" "spare" "LQuadWorlds$World;", Cond.methodLink RX6 52 yX6_isWorldNumber, Cond.static yX6_isWorldNumber, Cond.initialized RX6, Cond.code yX6_isWorldNumber cX6_isWorldNumber 1 (some .boolean), Cond.methodLink RX6 71 yX6_refused, Cond.instanceMethod yX6_refused, Cond.selects RX6 yX6_refused yX6_refused, Cond.code yX6_refused cX6_refused 2 (some .int), Cond.fieldLink RX6 250 "QuadWorlds" "latestFinding" "I", Cond.fieldLink RX6 24 "QuadWorlds" "findingTimes" "[I", Cond.methodLink RX6 120 yX5_hasPoint, Cond.instanceMethod yX5_hasPoint, Cond.selects RX5 yX5_hasPoint yX5_hasPoint, Cond.initialized RX5, Cond.code yX5_hasPoint cX5_hasPoint 2 (some .boolean), Cond.fieldLink RX5 29 "QuadWorlds$World" "size" "I", Cond.methodLink RX6 123 yX5_orderOfLines, Cond.instanceMethod yX5_orderOfLines, Cond.selects RX5 yX5_orderOfLines yX5_orderOfLines, Cond.code yX5_orderOfLines cX5_orderOfLines 3 (some .int), Cond.fieldLink RX5 35 "QuadWorlds$World" "lineCount" "I", Cond.fieldLink RX5 9 "QuadWorlds$World" "sets" "[J"]
def wsX6_derive_r2 : List Cond := [Cond.methodLink RX5 64 yJ13_bitCount_95d88, Cond.static yJ13_bitCount_95d88, Cond.initialized RJ13, Cond.code yJ13_bitCount_95d88 cJ13_bitCount_95d88 2 (some .int), Cond.constantLong RJ13 314 (6148914691236517205), Cond.constantLong RJ13 316 (3689348814741910323), Cond.constantLong RJ13 318 (1085102592571150095), Cond.methodLink RX6 126 yX5_orderOfPoints, Cond.instanceMethod yX5_orderOfPoints, Cond.selects RX5 yX5_orderOfPoints yX5_orderOfPoints, Cond.code yX5_orderOfPoints cX5_orderOfPoints 3 (some .int), Cond.fieldLink RX5 15 "QuadWorlds$World" "through" "[J", Cond.methodLink RX6 129 yX0_firstOf, Cond.static yX0_firstOf, Cond.initialized RX0, Cond.code yX0_firstOf cX0_firstOf 2 (some .int), Cond.methodLink RX0 7 yX0_firstPair, Cond.static yX0_firstPair, Cond.code yX0_firstPair cX0_firstPair 3 (some .int), Cond.methodLink RX0 26 yJ13_bitCount_95d88, Cond.methodLink RX0 13 yX0_firstMeeting, Cond.static yX0_firstMeeting, Cond.code yX0_firstMeeting cX0_firstMeeting 6 (some .int), Cond.methodLink RX0 32 yX5_linesMeeting]
def wsX6_derive_r3 : List Cond := [Cond.instanceMethod yX5_linesMeeting, Cond.selects RX5 yX5_linesMeeting yX5_linesMeeting, Cond.code yX5_linesMeeting cX5_linesMeeting 6 (some .long), Cond.static yX6_has, Cond.code yX6_has cX6_has 3 (some .boolean), Cond.methodLink RX6 135 yX5_isRegular, Cond.instanceMethod yX5_isRegular, Cond.selects RX5 yX5_isRegular yX5_isRegular, Cond.code yX5_isRegular cX5_isRegular 4 (some .boolean), Cond.methodLink RX5 52 yX5_orderOfPoints, Cond.methodLink RX5 56 yX5_areNear, Cond.instanceMethod yX5_areNear, Cond.selects RX5 yX5_areNear yX5_areNear, Cond.code yX5_areNear cX5_areNear 3 (some .boolean), Cond.fieldLink RX5 18 "QuadWorlds$World" "near" "[J", Cond.methodLink RX5 60 yX5_spanSet, Cond.instanceMethod yX5_spanSet, Cond.selects RX5 yX5_spanSet yX5_spanSet, Cond.code yX5_spanSet cX5_spanSet 3 (some .long), Cond.methodLink RX5 48 yX5_nearToAll, Cond.instanceMethod yX5_nearToAll, Cond.selects RX5 yX5_nearToAll yX5_nearToAll, Cond.code yX5_nearToAll cX5_nearToAll 6 (some .long), Cond.static yX6_below]
def wsX6_derive_r4 : List Cond := [Cond.code yX6_below cX6_below 1 (some .long), Cond.methodLink RX6 138 yX1_makeAbout, Cond.static yX1_makeAbout, Cond.initialized RX1, Cond.code yX1_makeAbout cX1_makeAbout 8 (some .boolean), Cond.constantLong RX1 54 (-1), Cond.methodLink RX1 56 yJ13_bitCount_95d88, Cond.methodLink RX1 9 yX5_begin, Cond.instanceMethod yX5_begin, Cond.selects RX5 yX5_begin yX5_begin, Cond.code yX5_begin cX5_begin 5 none, Cond.fieldLink RX5 21 "QuadWorlds$World" "there" "Z", Cond.fieldLink RX5 25 "QuadWorlds$World" "kind" "I", Cond.fieldLink RX5 32 "QuadWorlds$World" "tag" "I", Cond.methodLink RX1 69 yX1_renumbered, Cond.static yX1_renumbered, Cond.code yX1_renumbered cX1_renumbered 8 (some .long), Cond.methodLink RX1 19 yX5_add, Cond.instanceMethod yX5_add, Cond.selects RX5 yX5_add yX5_add, Cond.code yX5_add cX5_add 4 (some .boolean), Cond.methodLink RX1 73 yX5_spanSet, Cond.methodLink RX6 117 yX6_putSpare, Cond.instanceMethod yX6_putSpare]
def wsX6_derive_r5 : List Cond := [Cond.selects RX6 yX6_putSpare yX6_putSpare, Cond.code yX6_putSpare cX6_putSpare 3 (some .int)]
def wsX6_derive : List Cond := .code yX6_derive cX6_derive 6 (some .int) :: ((wsX6_derive_r1 ++ (wsX6_derive_r2 ++ (wsX6_derive_r3 ++ (wsX6_derive_r4 ++ wsX6_derive_r5)))) ++ wsX60 ++ wsX50)
def wsX6_part_r1 : List Cond := [Cond.fieldLink RX6 11 "QuadWorlds" "worlds" "[LQuadWorlds$World;", Cond.fieldLink RX6 48 "QuadWorlds" "spare" "LQuadWorlds$World;", Cond.methodLink RX6 52 yX6_isWorldNumber, Cond.static yX6_isWorldNumber, Cond.initialized RX6, Cond.code yX6_isWorldNumber cX6_isWorldNumber 1 (some .boolean), Cond.methodLink RX6 71 yX6_refused, Cond.instanceMethod yX6_refused, Cond.selects RX6 yX6_refused yX6_refused, Cond.code yX6_refused cX6_refused 2 (some .int), Cond.fieldLink RX6 250 "QuadWorlds" "latestFinding" "I", Cond.fieldLink RX6 24 "QuadWorlds" "findingTimes" "[I", Cond.methodLink RX6 142 yX5_hasAll, Cond.instanceMethod yX5_hasAll, Cond.selects RX5 yX5_hasAll yX5_hasAll, Cond.initialized RX5, Cond.code yX5_hasAll cX5_hasAll 3 (some .boolean), Cond.fieldLink RX5 29 "QuadWorlds$World" "size" "I", Cond.constantLong RX5 46 (-1), Cond.static yX6_below, Cond.code yX6_below cX6_below 1 (some .long), Cond.methodLink RX6 145 yX5_mostOnLine, Cond.instanceMethod yX5_mostOnLine, Cond.selects RX5 yX5_mostOnLine yX5_mostOnLine]
def wsX6_part_r2 : List Cond := [Cond.code yX5_mostOnLine cX5_mostOnLine 5 (some .int), Cond.fieldLink RX5 35 "QuadWorlds$World" "lineCount" "I", Cond.fieldLink RX5 9 "QuadWorlds$World" "sets" "[J", Cond.methodLink RX5 76 Lib.Math.max.name, Cond.static Lib.Math.max.name, Cond.initialized "java/lang/Math", Cond.code Lib.Math.max.name Lib.Math.max.code 2 (some .int), Cond.methodLink RX5 64 yJ13_bitCount_95d88, Cond.static yJ13_bitCount_95d88, Cond.initialized RJ13, Cond.code yJ13_bitCount_95d88 cJ13_bitCount_95d88 2 (some .int), Cond.constantLong RJ13 314 (6148914691236517205), Cond.constantLong RJ13 316 (3689348814741910323), Cond.constantLong RJ13 318 (1085102592571150095), Cond.methodLink RX6 148 yX1_makePart, Cond.static yX1_makePart, Cond.initialized RX1, Cond.code yX1_makePart cX1_makePart 5 none, Cond.methodLink RX1 56 yJ13_bitCount_95d88, Cond.methodLink RX1 9 yX5_begin, Cond.instanceMethod yX5_begin, Cond.selects RX5 yX5_begin yX5_begin, Cond.code yX5_begin cX5_begin 5 none, Cond.fieldLink RX5 21 "QuadWorlds$World" "there" "Z"]
def wsX6_part_r3 : List Cond := [Cond.fieldLink RX5 25 "QuadWorlds$World" "kind" "I", Cond.fieldLink RX5 32 "QuadWorlds$World" "tag" "I", Cond.fieldLink RX5 15 "QuadWorlds$World" "through" "[J", Cond.fieldLink RX5 18 "QuadWorlds$World" "near" "[J", Cond.methodLink RX1 69 yX1_renumbered, Cond.static yX1_renumbered, Cond.code yX1_renumbered cX1_renumbered 8 (some .long), Cond.static yX6_has, Cond.code yX6_has cX6_has 3 (some .boolean), Cond.methodLink RX1 19 yX5_add, Cond.instanceMethod yX5_add, Cond.selects RX5 yX5_add yX5_add, Cond.code yX5_add cX5_add 4 (some .boolean), Cond.methodLink RX6 117 yX6_putSpare, Cond.instanceMethod yX6_putSpare, Cond.selects RX6 yX6_putSpare yX6_putSpare, Cond.code yX6_putSpare cX6_putSpare 3 (some .int)]
def wsX6_part : List Cond := .code yX6_part cX6_part 6 (some .int) :: ((wsX6_part_r1 ++ (wsX6_part_r2 ++ wsX6_part_r3)) ++ wsX60 ++ wsX50)
def wsX6_drop : List Cond := .code yX6_drop cX6_drop 2 (some .int) :: ([.fieldLink RX6 11 "QuadWorlds" "worlds" "[LQuadWorlds$World;", .methodLink RX6 52 yX6_isWorldNumber, .static yX6_isWorldNumber, .initialized RX6, .code yX6_isWorldNumber cX6_isWorldNumber 1 (some .boolean), .methodLink RX6 71 yX6_refused, .instanceMethod yX6_refused, .selects RX6 yX6_refused yX6_refused, .code yX6_refused cX6_refused 2 (some .int), .fieldLink RX6 250 "QuadWorlds" "latestFinding" "I", .fieldLink RX6 24 "QuadWorlds" "findingTimes" "[I"] ++ wsX60 ++ wsX50)
def wsX6_told_r1 : List Cond := [Cond.fieldLink RX6 11 "QuadWorlds" "worlds" "[LQuadWorlds$World;", Cond.methodLink RX6 52 yX6_isWorldNumber, Cond.static yX6_isWorldNumber, Cond.initialized RX6, Cond.code yX6_isWorldNumber cX6_isWorldNumber 1 (some .boolean), Cond.methodLink RX6 71 yX6_refused, Cond.instanceMethod yX6_refused, Cond.selects RX6 yX6_refused yX6_refused, Cond.code yX6_refused cX6_refused 2 (some .int), Cond.fieldLink RX6 250 "QuadWorlds" "latestFinding" "I", Cond.fieldLink RX6 24 "QuadWorlds" "findingTimes" "[I", Cond.methodLink RX6 123 yX5_orderOfLines, Cond.instanceMethod yX5_orderOfLines, Cond.selects RX5 yX5_orderOfLines yX5_orderOfLines, Cond.initialized RX5, Cond.code yX5_orderOfLines cX5_orderOfLines 3 (some .int), Cond.fieldLink RX5 35 "QuadWorlds$World" "lineCount" "I", Cond.fieldLink RX5 9 "QuadWorlds$World" "sets" "[J", Cond.methodLink RX5 64 yJ13_bitCount_95d88, Cond.static yJ13_bitCount_95d88, Cond.initialized RJ13, Cond.code yJ13_bitCount_95d88 cJ13_bitCount_95d88 2 (some .int), Cond.constantLong RJ13 314 (6148914691236517205), Cond.constantLong RJ13 316 (3689348814741910323)]
def wsX6_told_r2 : List Cond := [Cond.constantLong RJ13 318 (1085102592571150095), Cond.methodLink RX6 126 yX5_orderOfPoints, Cond.instanceMethod yX5_orderOfPoints, Cond.selects RX5 yX5_orderOfPoints yX5_orderOfPoints, Cond.code yX5_orderOfPoints cX5_orderOfPoints 3 (some .int), Cond.fieldLink RX5 15 "QuadWorlds$World" "through" "[J", Cond.fieldLink RX5 29 "QuadWorlds$World" "size" "I"]
def wsX6_told : List Cond := .code yX6_told cX6_told 4 (some .int) :: ((wsX6_told_r1 ++ wsX6_told_r2) ++ wsX60 ++ wsX50)
def wsX6_mark : List Cond := .code yX6_mark cX6_mark 4 (some .int) :: ([.fieldLink RX6 11 "QuadWorlds" "worlds" "[LQuadWorlds$World;", .methodLink RX6 52 yX6_isWorldNumber, .static yX6_isWorldNumber, .initialized RX6, .code yX6_isWorldNumber cX6_isWorldNumber 1 (some .boolean), .methodLink RX6 71 yX6_refused, .instanceMethod yX6_refused, .selects RX6 yX6_refused yX6_refused, .code yX6_refused cX6_refused 2 (some .int), .fieldLink RX6 250 "QuadWorlds" "latestFinding" "I", .fieldLink RX6 24 "QuadWorlds" "findingTimes" "[I", .methodLink RX6 86 yJ13_bitCount_95d88, .static yJ13_bitCount_95d88, .initialized RJ13, .code yJ13_bitCount_95d88 cJ13_bitCount_95d88 2 (some .int), .constantLong RJ13 314 (6148914691236517205), .constantLong RJ13 316 (3689348814741910323), .constantLong RJ13 318 (1085102592571150095)] ++ wsX60 ++ wsX50)
def wsX6_askedSet : List Cond := .code yX6_askedSet cX6_askedSet 3 (some .int) :: ([.fieldLink RX6 168 "QuadWorlds" "latestAsked" "J", .methodLink RX6 86 yJ13_bitCount_95d88, .static yJ13_bitCount_95d88, .initialized RJ13, .code yJ13_bitCount_95d88 cJ13_bitCount_95d88 2 (some .int), .constantLong RJ13 314 (6148914691236517205), .constantLong RJ13 316 (3689348814741910323), .constantLong RJ13 318 (1085102592571150095)] ++ wsX60)
def wsX6_points : List Cond := .code yX6_points cX6_points 4 (some .int) :: ([.fieldLink RX6 11 "QuadWorlds" "worlds" "[LQuadWorlds$World;", .methodLink RX6 52 yX6_isWorldNumber, .static yX6_isWorldNumber, .initialized RX6, .code yX6_isWorldNumber cX6_isWorldNumber 1 (some .boolean), .methodLink RX6 71 yX6_refused, .instanceMethod yX6_refused, .selects RX6 yX6_refused yX6_refused, .code yX6_refused cX6_refused 2 (some .int), .fieldLink RX6 250 "QuadWorlds" "latestFinding" "I", .fieldLink RX6 24 "QuadWorlds" "findingTimes" "[I", .methodLink RX6 162 yX6_askedSet, .instanceMethod yX6_askedSet, .selects RX6 yX6_askedSet yX6_askedSet, .code yX6_askedSet cX6_askedSet 3 (some .int), .fieldLink RX6 168 "QuadWorlds" "latestAsked" "J", .methodLink RX6 86 yJ13_bitCount_95d88, .static yJ13_bitCount_95d88, .initialized RJ13, .code yJ13_bitCount_95d88 cJ13_bitCount_95d88 2 (some .int), .constantLong RJ13 314 (6148914691236517205), .constantLong RJ13 316 (3689348814741910323), .constantLong RJ13 318 (1085102592571150095)] ++ wsX60 ++ wsX50)
def wsX6_lines_r1 : List Cond := [Cond.fieldLink RX6 11 "QuadWorlds" "worlds" "[LQuadWorlds$World;", Cond.methodLink RX6 52 yX6_isWorldNumber, Cond.static yX6_isWorldNumber, Cond.initialized RX6, Cond.code yX6_isWorldNumber cX6_isWorldNumber 1 (some .boolean), Cond.methodLink RX6 71 yX6_refused, Cond.instanceMethod yX6_refused, Cond.selects RX6 yX6_refused yX6_refused, Cond.code yX6_refused cX6_refused 2 (some .int), Cond.fieldLink RX6 250 "QuadWorlds" "latestFinding" "I", Cond.fieldLink RX6 24 "QuadWorlds" "findingTimes" "[I", Cond.methodLink RX6 120 yX5_hasPoint, Cond.instanceMethod yX5_hasPoint, Cond.selects RX5 yX5_hasPoint yX5_hasPoint, Cond.initialized RX5, Cond.code yX5_hasPoint cX5_hasPoint 2 (some .boolean), Cond.fieldLink RX5 29 "QuadWorlds$World" "size" "I", Cond.methodLink RX6 162 yX6_askedSet, Cond.instanceMethod yX6_askedSet, Cond.selects RX6 yX6_askedSet yX6_askedSet, Cond.code yX6_askedSet cX6_askedSet 3 (some .int), Cond.fieldLink RX6 168 "QuadWorlds" "latestAsked" "J", Cond.methodLink RX6 86 yJ13_bitCount_95d88, Cond.static yJ13_bitCount_95d88]
def wsX6_lines_r2 : List Cond := [Cond.initialized RJ13, Cond.code yJ13_bitCount_95d88 cJ13_bitCount_95d88 2 (some .int), Cond.constantLong RJ13 314 (6148914691236517205), Cond.constantLong RJ13 316 (3689348814741910323), Cond.constantLong RJ13 318 (1085102592571150095)]
def wsX6_lines : List Cond := .code yX6_lines cX6_lines 4 (some .int) :: ((wsX6_lines_r1 ++ wsX6_lines_r2) ++ wsX60 ++ wsX50)
def wsX6_fault_r1 : List Cond := [Cond.fieldLink RX6 11 "QuadWorlds" "worlds" "[LQuadWorlds$World;", Cond.fieldLink RX6 168 "QuadWorlds" "latestAsked" "J", Cond.methodLink RX6 52 yX6_isWorldNumber, Cond.static yX6_isWorldNumber, Cond.initialized RX6, Cond.code yX6_isWorldNumber cX6_isWorldNumber 1 (some .boolean), Cond.methodLink RX6 71 yX6_refused, Cond.instanceMethod yX6_refused, Cond.selects RX6 yX6_refused yX6_refused, Cond.code yX6_refused cX6_refused 2 (some .int), Cond.fieldLink RX6 250 "QuadWorlds" "latestFinding" "I", Cond.fieldLink RX6 24 "QuadWorlds" "findingTimes" "[I", Cond.methodLink RX6 129 yX0_firstOf, Cond.static yX0_firstOf, Cond.initialized RX0, Cond.code yX0_firstOf cX0_firstOf 2 (some .int), Cond.methodLink RX0 7 yX0_firstPair, Cond.static yX0_firstPair, Cond.code yX0_firstPair cX0_firstPair 3 (some .int), Cond.methodLink RX0 26 yJ13_bitCount_95d88, Cond.static yJ13_bitCount_95d88, Cond.initialized RJ13, Cond.code yJ13_bitCount_95d88 cJ13_bitCount_95d88 2 (some .int), Cond.constantLong RJ13 314 (6148914691236517205)]
def wsX6_fault_r2 : List Cond := [Cond.constantLong RJ13 316 (3689348814741910323), Cond.constantLong RJ13 318 (1085102592571150095), Cond.methodLink RX0 13 yX0_firstMeeting, Cond.static yX0_firstMeeting, Cond.code yX0_firstMeeting cX0_firstMeeting 6 (some .int), Cond.methodLink RX0 32 yX5_linesMeeting, Cond.instanceMethod yX5_linesMeeting, Cond.selects RX5 yX5_linesMeeting yX5_linesMeeting, Cond.initialized RX5, Cond.code yX5_linesMeeting cX5_linesMeeting 6 (some .long), Cond.fieldLink RX5 29 "QuadWorlds$World" "size" "I", Cond.fieldLink RX5 15 "QuadWorlds$World" "through" "[J", Cond.static yX6_has, Cond.code yX6_has cX6_has 3 (some .boolean), Cond.methodLink RX6 165 yX0_placeIn, Cond.static yX0_placeIn, Cond.code yX0_placeIn cX0_placeIn 1 (some .int), Cond.methodLink RX6 172 yX0_sortOf, Cond.static yX0_sortOf, Cond.code yX0_sortOf cX0_sortOf 1 (some .int)]
def wsX6_fault : List Cond := .code yX6_fault cX6_fault 3 (some .int) :: ((wsX6_fault_r1 ++ wsX6_fault_r2) ++ wsX60 ++ wsX50)
def wsX6_mean : List Cond := .code yX6_mean cX6_mean 5 (some .int) :: ([.fieldLink RX6 11 "QuadWorlds" "worlds" "[LQuadWorlds$World;", .methodLink RX6 52 yX6_isWorldNumber, .static yX6_isWorldNumber, .initialized RX6, .code yX6_isWorldNumber cX6_isWorldNumber 1 (some .boolean), .methodLink RX6 71 yX6_refused, .instanceMethod yX6_refused, .selects RX6 yX6_refused yX6_refused, .code yX6_refused cX6_refused 2 (some .int), .fieldLink RX6 250 "QuadWorlds" "latestFinding" "I", .fieldLink RX6 24 "QuadWorlds" "findingTimes" "[I", .methodLink RX6 86 yJ13_bitCount_95d88, .static yJ13_bitCount_95d88, .initialized RJ13, .code yJ13_bitCount_95d88 cJ13_bitCount_95d88 2 (some .int), .constantLong RJ13 314 (6148914691236517205), .constantLong RJ13 316 (3689348814741910323), .constantLong RJ13 318 (1085102592571150095)] ++ wsX60 ++ wsX50)
def wsX6_perp_r1 : List Cond := [Cond.fieldLink RX6 11 "QuadWorlds" "worlds" "[LQuadWorlds$World;", Cond.methodLink RX6 52 yX6_isWorldNumber, Cond.static yX6_isWorldNumber, Cond.initialized RX6, Cond.code yX6_isWorldNumber cX6_isWorldNumber 1 (some .boolean), Cond.methodLink RX6 71 yX6_refused, Cond.instanceMethod yX6_refused, Cond.selects RX6 yX6_refused yX6_refused, Cond.code yX6_refused cX6_refused 2 (some .int), Cond.fieldLink RX6 250 "QuadWorlds" "latestFinding" "I", Cond.fieldLink RX6 24 "QuadWorlds" "findingTimes" "[I", Cond.methodLink RX6 142 yX5_hasAll, Cond.instanceMethod yX5_hasAll, Cond.selects RX5 yX5_hasAll yX5_hasAll, Cond.initialized RX5, Cond.code yX5_hasAll cX5_hasAll 3 (some .boolean), Cond.fieldLink RX5 29 "QuadWorlds$World" "size" "I", Cond.constantLong RX5 46 (-1), Cond.static yX6_below, Cond.code yX6_below cX6_below 1 (some .long), Cond.methodLink RX6 175 yX5_nearToAll, Cond.instanceMethod yX5_nearToAll, Cond.selects RX5 yX5_nearToAll yX5_nearToAll, Cond.code yX5_nearToAll cX5_nearToAll 6 (some .long)]
def wsX6_perp_r2 : List Cond := [Cond.fieldLink RX5 18 "QuadWorlds$World" "near" "[J", Cond.static yX6_has, Cond.code yX6_has cX6_has 3 (some .boolean), Cond.methodLink RX6 162 yX6_askedSet, Cond.instanceMethod yX6_askedSet, Cond.selects RX6 yX6_askedSet yX6_askedSet, Cond.code yX6_askedSet cX6_askedSet 3 (some .int), Cond.fieldLink RX6 168 "QuadWorlds" "latestAsked" "J", Cond.methodLink RX6 86 yJ13_bitCount_95d88, Cond.static yJ13_bitCount_95d88, Cond.initialized RJ13, Cond.code yJ13_bitCount_95d88 cJ13_bitCount_95d88 2 (some .int), Cond.constantLong RJ13 314 (6148914691236517205), Cond.constantLong RJ13 316 (3689348814741910323), Cond.constantLong RJ13 318 (1085102592571150095)]
def wsX6_perp : List Cond := .code yX6_perp cX6_perp 5 (some .int) :: ((wsX6_perp_r1 ++ wsX6_perp_r2) ++ wsX60 ++ wsX50)
def wsX6_span_r1 : List Cond := [Cond.fieldLink RX6 11 "QuadWorlds" "worlds" "[LQuadWorlds$World;", Cond.methodLink RX6 52 yX6_isWorldNumber, Cond.static yX6_isWorldNumber, Cond.initialized RX6, Cond.code yX6_isWorldNumber cX6_isWorldNumber 1 (some .boolean), Cond.methodLink RX6 71 yX6_refused, Cond.instanceMethod yX6_refused, Cond.selects RX6 yX6_refused yX6_refused, Cond.code yX6_refused cX6_refused 2 (some .int), Cond.fieldLink RX6 250 "QuadWorlds" "latestFinding" "I", Cond.fieldLink RX6 24 "QuadWorlds" "findingTimes" "[I", Cond.methodLink RX6 120 yX5_hasPoint, Cond.instanceMethod yX5_hasPoint, Cond.selects RX5 yX5_hasPoint yX5_hasPoint, Cond.initialized RX5, Cond.code yX5_hasPoint cX5_hasPoint 2 (some .boolean), Cond.fieldLink RX5 29 "QuadWorlds$World" "size" "I", Cond.methodLink RX6 179 yX5_areNear, Cond.instanceMethod yX5_areNear, Cond.selects RX5 yX5_areNear yX5_areNear, Cond.code yX5_areNear cX5_areNear 3 (some .boolean), Cond.fieldLink RX5 18 "QuadWorlds$World" "near" "[J", Cond.static yX6_has, Cond.code yX6_has cX6_has 3 (some .boolean)]
def wsX6_span_r2 : List Cond := [Cond.methodLink RX6 183 yX5_spanSet, Cond.instanceMethod yX5_spanSet, Cond.selects RX5 yX5_spanSet yX5_spanSet, Cond.code yX5_spanSet cX5_spanSet 3 (some .long), Cond.methodLink RX5 48 yX5_nearToAll, Cond.instanceMethod yX5_nearToAll, Cond.selects RX5 yX5_nearToAll yX5_nearToAll, Cond.code yX5_nearToAll cX5_nearToAll 6 (some .long), Cond.static yX6_below, Cond.code yX6_below cX6_below 1 (some .long), Cond.methodLink RX6 162 yX6_askedSet, Cond.instanceMethod yX6_askedSet, Cond.selects RX6 yX6_askedSet yX6_askedSet, Cond.code yX6_askedSet cX6_askedSet 3 (some .int), Cond.fieldLink RX6 168 "QuadWorlds" "latestAsked" "J", Cond.methodLink RX6 86 yJ13_bitCount_95d88, Cond.static yJ13_bitCount_95d88, Cond.initialized RJ13, Cond.code yJ13_bitCount_95d88 cJ13_bitCount_95d88 2 (some .int), Cond.constantLong RJ13 314 (6148914691236517205), Cond.constantLong RJ13 316 (3689348814741910323), Cond.constantLong RJ13 318 (1085102592571150095)]
def wsX6_span : List Cond := .code yX6_span cX6_span 5 (some .int) :: ((wsX6_span_r1 ++ wsX6_span_r2) ++ wsX60 ++ wsX50)
def wsX6_regular_r1 : List Cond := [Cond.fieldLink RX6 11 "QuadWorlds" "worlds" "[LQuadWorlds$World;", Cond.methodLink RX6 52 yX6_isWorldNumber, Cond.static yX6_isWorldNumber, Cond.initialized RX6, Cond.code yX6_isWorldNumber cX6_isWorldNumber 1 (some .boolean), Cond.methodLink RX6 71 yX6_refused, Cond.instanceMethod yX6_refused, Cond.selects RX6 yX6_refused yX6_refused, Cond.code yX6_refused cX6_refused 2 (some .int), Cond.fieldLink RX6 250 "QuadWorlds" "latestFinding" "I", Cond.fieldLink RX6 24 "QuadWorlds" "findingTimes" "[I", Cond.methodLink RX6 120 yX5_hasPoint, Cond.instanceMethod yX5_hasPoint, Cond.selects RX5 yX5_hasPoint yX5_hasPoint, Cond.initialized RX5, Cond.code yX5_hasPoint cX5_hasPoint 2 (some .boolean), Cond.fieldLink RX5 29 "QuadWorlds$World" "size" "I", Cond.methodLink RX6 126 yX5_orderOfPoints, Cond.instanceMethod yX5_orderOfPoints, Cond.selects RX5 yX5_orderOfPoints yX5_orderOfPoints, Cond.code yX5_orderOfPoints cX5_orderOfPoints 3 (some .int), Cond.fieldLink RX5 35 "QuadWorlds$World" "lineCount" "I", Cond.fieldLink RX5 15 "QuadWorlds$World" "through" "[J", Cond.methodLink RX5 64 yJ13_bitCount_95d88]
def wsX6_regular_r2 : List Cond := [Cond.static yJ13_bitCount_95d88, Cond.initialized RJ13, Cond.code yJ13_bitCount_95d88 cJ13_bitCount_95d88 2 (some .int), Cond.constantLong RJ13 314 (6148914691236517205), Cond.constantLong RJ13 316 (3689348814741910323), Cond.constantLong RJ13 318 (1085102592571150095), Cond.methodLink RX6 135 yX5_isRegular, Cond.instanceMethod yX5_isRegular, Cond.selects RX5 yX5_isRegular yX5_isRegular, Cond.code yX5_isRegular cX5_isRegular 4 (some .boolean), Cond.methodLink RX5 52 yX5_orderOfPoints, Cond.methodLink RX5 56 yX5_areNear, Cond.instanceMethod yX5_areNear, Cond.selects RX5 yX5_areNear yX5_areNear, Cond.code yX5_areNear cX5_areNear 3 (some .boolean), Cond.fieldLink RX5 18 "QuadWorlds$World" "near" "[J", Cond.static yX6_has, Cond.code yX6_has cX6_has 3 (some .boolean), Cond.methodLink RX5 60 yX5_spanSet, Cond.instanceMethod yX5_spanSet, Cond.selects RX5 yX5_spanSet yX5_spanSet, Cond.code yX5_spanSet cX5_spanSet 3 (some .long), Cond.methodLink RX5 48 yX5_nearToAll, Cond.instanceMethod yX5_nearToAll]
def wsX6_regular_r3 : List Cond := [Cond.selects RX5 yX5_nearToAll yX5_nearToAll, Cond.code yX5_nearToAll cX5_nearToAll 6 (some .long), Cond.static yX6_below, Cond.code yX6_below cX6_below 1 (some .long)]
def wsX6_regular : List Cond := .code yX6_regular cX6_regular 4 (some .int) :: ((wsX6_regular_r1 ++ (wsX6_regular_r2 ++ wsX6_regular_r3)) ++ wsX60 ++ wsX50)
def wsX6_centres : List Cond := .code yX6_centres cX6_centres 6 (some .int) :: ([.fieldLink RX6 11 "QuadWorlds" "worlds" "[LQuadWorlds$World;", .methodLink RX6 52 yX6_isWorldNumber, .static yX6_isWorldNumber, .initialized RX6, .code yX6_isWorldNumber cX6_isWorldNumber 1 (some .boolean), .methodLink RX6 71 yX6_refused, .instanceMethod yX6_refused, .selects RX6 yX6_refused yX6_refused, .code yX6_refused cX6_refused 2 (some .int), .fieldLink RX6 250 "QuadWorlds" "latestFinding" "I", .fieldLink RX6 24 "QuadWorlds" "findingTimes" "[I", .methodLink RX6 120 yX5_hasPoint, .instanceMethod yX5_hasPoint, .selects RX5 yX5_hasPoint yX5_hasPoint, .initialized RX5, .code yX5_hasPoint cX5_hasPoint 2 (some .boolean), .fieldLink RX5 29 "QuadWorlds$World" "size" "I", .methodLink RX6 86 yJ13_bitCount_95d88, .static yJ13_bitCount_95d88, .initialized RJ13, .code yJ13_bitCount_95d88 cJ13_bitCount_95d88 2 (some .int), .constantLong RJ13 314 (6148914691236517205), .constantLong RJ13 316 (3689348814741910323), .constantLong RJ13 318 (1085102592571150095)] ++ wsX60 ++ wsX50)
def wsX6_isNumberOfTries : List Cond := .code yX6_isNumberOfTries cX6_isNumberOfTries 1 (some .boolean) :: ([.constant RX6 260 (100000)])
def wsX6_firstFound : List Cond := .code yX6_firstFound cX6_firstFound 1 (some .int) :: ([.fieldLink RX6 36 "QuadWorlds" "seeker" "LQuadWorlds$Seeker;", .fieldLink RX6 203 "QuadWorlds" "latestTries" "I", .methodLink RX6 162 yX6_askedSet, .instanceMethod yX6_askedSet, .selects RX6 yX6_askedSet yX6_askedSet, .initialized RX6, .code yX6_askedSet cX6_askedSet 3 (some .int), .fieldLink RX6 168 "QuadWorlds" "latestAsked" "J", .methodLink RX6 86 yJ13_bitCount_95d88, .static yJ13_bitCount_95d88, .initialized RJ13, .code yJ13_bitCount_95d88 cJ13_bitCount_95d88 2 (some .int), .constantLong RJ13 314 (6148914691236517205), .constantLong RJ13 316 (3689348814741910323), .constantLong RJ13 318 (1085102592571150095)] ++ wsX60 ++ wsX40)
def wsX6_ovoid_r1 : List Cond := [Cond.fieldLink RX6 11 "QuadWorlds" "worlds" "[LQuadWorlds$World;", Cond.fieldLink RX6 36 "QuadWorlds" "seeker" "LQuadWorlds$Seeker;", Cond.methodLink RX6 52 yX6_isWorldNumber, Cond.static yX6_isWorldNumber, Cond.initialized RX6, Cond.code yX6_isWorldNumber cX6_isWorldNumber 1 (some .boolean), Cond.methodLink RX6 190 yX6_isNumberOfTries, Cond.static yX6_isNumberOfTries, Cond.code yX6_isNumberOfTries cX6_isNumberOfTries 1 (some .boolean), Cond.constant RX6 260 (100000), Cond.methodLink RX6 71 yX6_refused, Cond.instanceMethod yX6_refused, Cond.selects RX6 yX6_refused yX6_refused, Cond.code yX6_refused cX6_refused 2 (some .int), Cond.fieldLink RX6 250 "QuadWorlds" "latestFinding" "I", Cond.fieldLink RX6 24 "QuadWorlds" "findingTimes" "[I", Cond.methodLink RX6 193 yX4_seek, Cond.instanceMethod yX4_seek, Cond.selects RX4 yX4_seek yX4_seek, Cond.initialized RX4, Cond.code yX4_seek cX4_seek 7 none, Cond.fieldLink RX4 25 "QuadWorlds$Seeker" "allMet" "J", Cond.fieldLink RX4 29 "QuadWorlds$Seeker" "tryCount" "I", Cond.fieldLink RX4 33 "QuadWorlds$Seeker" "isSpent" "Z"]
def wsX6_ovoid_r2 : List Cond := [Cond.fieldLink RX4 37 "QuadWorlds$Seeker" "foundCount" "I", Cond.fieldLink RX4 40 "QuadWorlds$Seeker" "depth" "I", Cond.fieldLink RX4 9 "QuadWorlds$Seeker" "met" "[J", Cond.fieldLink RX4 15 "QuadWorlds$Seeker" "taken" "[J", Cond.constant RX4 47 (1000000), Cond.fieldLink RX4 18 "QuadWorlds$Seeker" "left" "[J", Cond.static yX6_below, Cond.code yX6_below cX6_below 1 (some .long), Cond.methodLink RX4 43 yX4_open, Cond.instanceMethod yX4_open, Cond.selects RX4 yX4_open yX4_open, Cond.code yX4_open cX4_open 5 none, Cond.fieldLink RX4 57 "QuadWorlds$Seeker" "foundSet" "J", Cond.constantLong RX4 55 (-1), Cond.static yX6_leastOf, Cond.code yX6_leastOf cX6_leastOf 2 (some .int), Cond.methodLink RX6 86 yJ13_bitCount_95d88, Cond.static yJ13_bitCount_95d88, Cond.initialized RJ13, Cond.code yJ13_bitCount_95d88 cJ13_bitCount_95d88 2 (some .int), Cond.constantLong RJ13 314 (6148914691236517205), Cond.constantLong RJ13 316 (3689348814741910323), Cond.constantLong RJ13 318 (1085102592571150095), Cond.static yX6_has]
def wsX6_ovoid_r3 : List Cond := [Cond.code yX6_has cX6_has 3 (some .boolean), Cond.methodLink RX4 48 yX4_take, Cond.instanceMethod yX4_take, Cond.selects RX4 yX4_take yX4_take, Cond.code yX4_take cX4_take 4 none, Cond.methodLink RX6 197 yX6_firstFound, Cond.instanceMethod yX6_firstFound, Cond.selects RX6 yX6_firstFound yX6_firstFound, Cond.code yX6_firstFound cX6_firstFound 1 (some .int), Cond.fieldLink RX6 203 "QuadWorlds" "latestTries" "I", Cond.methodLink RX6 162 yX6_askedSet, Cond.instanceMethod yX6_askedSet, Cond.selects RX6 yX6_askedSet yX6_askedSet, Cond.code yX6_askedSet cX6_askedSet 3 (some .int), Cond.fieldLink RX6 168 "QuadWorlds" "latestAsked" "J"]
def wsX6_ovoid : List Cond := .code yX6_ovoid cX6_ovoid 4 (some .int) :: ((wsX6_ovoid_r1 ++ (wsX6_ovoid_r2 ++ wsX6_ovoid_r3)) ++ wsX60 ++ wsX50 ++ wsX40)
def wsX6_spread_r1 : List Cond := [Cond.fieldLink RX6 11 "QuadWorlds" "worlds" "[LQuadWorlds$World;", Cond.fieldLink RX6 36 "QuadWorlds" "seeker" "LQuadWorlds$Seeker;", Cond.methodLink RX6 52 yX6_isWorldNumber, Cond.static yX6_isWorldNumber, Cond.initialized RX6, Cond.code yX6_isWorldNumber cX6_isWorldNumber 1 (some .boolean), Cond.methodLink RX6 190 yX6_isNumberOfTries, Cond.static yX6_isNumberOfTries, Cond.code yX6_isNumberOfTries cX6_isNumberOfTries 1 (some .boolean), Cond.constant RX6 260 (100000), Cond.methodLink RX6 71 yX6_refused, Cond.instanceMethod yX6_refused, Cond.selects RX6 yX6_refused yX6_refused, Cond.code yX6_refused cX6_refused 2 (some .int), Cond.fieldLink RX6 250 "QuadWorlds" "latestFinding" "I", Cond.fieldLink RX6 24 "QuadWorlds" "findingTimes" "[I", Cond.methodLink RX6 193 yX4_seek, Cond.instanceMethod yX4_seek, Cond.selects RX4 yX4_seek yX4_seek, Cond.initialized RX4, Cond.code yX4_seek cX4_seek 7 none, Cond.fieldLink RX4 25 "QuadWorlds$Seeker" "allMet" "J", Cond.fieldLink RX4 29 "QuadWorlds$Seeker" "tryCount" "I", Cond.fieldLink RX4 33 "QuadWorlds$Seeker" "isSpent" "Z"]
def wsX6_spread_r2 : List Cond := [Cond.fieldLink RX4 37 "QuadWorlds$Seeker" "foundCount" "I", Cond.fieldLink RX4 40 "QuadWorlds$Seeker" "depth" "I", Cond.fieldLink RX4 9 "QuadWorlds$Seeker" "met" "[J", Cond.fieldLink RX4 15 "QuadWorlds$Seeker" "taken" "[J", Cond.constant RX4 47 (1000000), Cond.fieldLink RX4 18 "QuadWorlds$Seeker" "left" "[J", Cond.static yX6_below, Cond.code yX6_below cX6_below 1 (some .long), Cond.methodLink RX4 43 yX4_open, Cond.instanceMethod yX4_open, Cond.selects RX4 yX4_open yX4_open, Cond.code yX4_open cX4_open 5 none, Cond.fieldLink RX4 57 "QuadWorlds$Seeker" "foundSet" "J", Cond.constantLong RX4 55 (-1), Cond.static yX6_leastOf, Cond.code yX6_leastOf cX6_leastOf 2 (some .int), Cond.methodLink RX6 86 yJ13_bitCount_95d88, Cond.static yJ13_bitCount_95d88, Cond.initialized RJ13, Cond.code yJ13_bitCount_95d88 cJ13_bitCount_95d88 2 (some .int), Cond.constantLong RJ13 314 (6148914691236517205), Cond.constantLong RJ13 316 (3689348814741910323), Cond.constantLong RJ13 318 (1085102592571150095), Cond.static yX6_has]
def wsX6_spread_r3 : List Cond := [Cond.code yX6_has cX6_has 3 (some .boolean), Cond.methodLink RX4 48 yX4_take, Cond.instanceMethod yX4_take, Cond.selects RX4 yX4_take yX4_take, Cond.code yX4_take cX4_take 4 none, Cond.methodLink RX6 197 yX6_firstFound, Cond.instanceMethod yX6_firstFound, Cond.selects RX6 yX6_firstFound yX6_firstFound, Cond.code yX6_firstFound cX6_firstFound 1 (some .int), Cond.fieldLink RX6 203 "QuadWorlds" "latestTries" "I", Cond.methodLink RX6 162 yX6_askedSet, Cond.instanceMethod yX6_askedSet, Cond.selects RX6 yX6_askedSet yX6_askedSet, Cond.code yX6_askedSet cX6_askedSet 3 (some .int), Cond.fieldLink RX6 168 "QuadWorlds" "latestAsked" "J"]
def wsX6_spread : List Cond := .code yX6_spread cX6_spread 4 (some .int) :: ((wsX6_spread_r1 ++ (wsX6_spread_r2 ++ wsX6_spread_r3)) ++ wsX60 ++ wsX50 ++ wsX40)
def wsX6_ovoids_r1 : List Cond := [Cond.fieldLink RX6 11 "QuadWorlds" "worlds" "[LQuadWorlds$World;", Cond.fieldLink RX6 36 "QuadWorlds" "seeker" "LQuadWorlds$Seeker;", Cond.fieldLink RX6 203 "QuadWorlds" "latestTries" "I", Cond.fieldLink RX6 168 "QuadWorlds" "latestAsked" "J", Cond.methodLink RX6 52 yX6_isWorldNumber, Cond.static yX6_isWorldNumber, Cond.initialized RX6, Cond.code yX6_isWorldNumber cX6_isWorldNumber 1 (some .boolean), Cond.methodLink RX6 190 yX6_isNumberOfTries, Cond.static yX6_isNumberOfTries, Cond.code yX6_isNumberOfTries cX6_isNumberOfTries 1 (some .boolean), Cond.constant RX6 260 (100000), Cond.methodLink RX6 71 yX6_refused, Cond.instanceMethod yX6_refused, Cond.selects RX6 yX6_refused yX6_refused, Cond.code yX6_refused cX6_refused 2 (some .int), Cond.fieldLink RX6 250 "QuadWorlds" "latestFinding" "I", Cond.fieldLink RX6 24 "QuadWorlds" "findingTimes" "[I", Cond.methodLink RX6 193 yX4_seek, Cond.instanceMethod yX4_seek, Cond.selects RX4 yX4_seek yX4_seek, Cond.initialized RX4, Cond.code yX4_seek cX4_seek 7 none, Cond.fieldLink RX4 25 "QuadWorlds$Seeker" "allMet" "J"]
def wsX6_ovoids_r2 : List Cond := [Cond.fieldLink RX4 29 "QuadWorlds$Seeker" "tryCount" "I", Cond.fieldLink RX4 33 "QuadWorlds$Seeker" "isSpent" "Z", Cond.fieldLink RX4 37 "QuadWorlds$Seeker" "foundCount" "I", Cond.fieldLink RX4 40 "QuadWorlds$Seeker" "depth" "I", Cond.fieldLink RX4 9 "QuadWorlds$Seeker" "met" "[J", Cond.fieldLink RX4 15 "QuadWorlds$Seeker" "taken" "[J", Cond.constant RX4 47 (1000000), Cond.fieldLink RX4 18 "QuadWorlds$Seeker" "left" "[J", Cond.static yX6_below, Cond.code yX6_below cX6_below 1 (some .long), Cond.methodLink RX4 43 yX4_open, Cond.instanceMethod yX4_open, Cond.selects RX4 yX4_open yX4_open, Cond.code yX4_open cX4_open 5 none, Cond.fieldLink RX4 57 "QuadWorlds$Seeker" "foundSet" "J", Cond.constantLong RX4 55 (-1), Cond.static yX6_leastOf, Cond.code yX6_leastOf cX6_leastOf 2 (some .int), Cond.methodLink RX6 86 yJ13_bitCount_95d88, Cond.static yJ13_bitCount_95d88, Cond.initialized RJ13, Cond.code yJ13_bitCount_95d88 cJ13_bitCount_95d88 2 (some .int), Cond.constantLong RJ13 314 (6148914691236517205), Cond.constantLong RJ13 316 (3689348814741910323)]
def wsX6_ovoids_r3 : List Cond := [Cond.constantLong RJ13 318 (1085102592571150095), Cond.static yX6_has, Cond.code yX6_has cX6_has 3 (some .boolean), Cond.methodLink RX4 48 yX4_take, Cond.instanceMethod yX4_take, Cond.selects RX4 yX4_take yX4_take, Cond.code yX4_take cX4_take 4 none]
def wsX6_ovoids : List Cond := .code yX6_ovoids cX6_ovoids 4 (some .int) :: ((wsX6_ovoids_r1 ++ (wsX6_ovoids_r2 ++ wsX6_ovoids_r3)) ++ wsX60 ++ wsX50 ++ wsX40)
def wsX6_tries : List Cond := .code yX6_tries cX6_tries 1 (some .int) :: ([.fieldLink RX6 203 "QuadWorlds" "latestTries" "I"] ++ wsX60)
def wsX6_meets_r1 : List Cond := [Cond.fieldLink RX6 11 "QuadWorlds" "worlds" "[LQuadWorlds$World;", Cond.methodLink RX6 52 yX6_isWorldNumber, Cond.static yX6_isWorldNumber, Cond.initialized RX6, Cond.code yX6_isWorldNumber cX6_isWorldNumber 1 (some .boolean), Cond.methodLink RX6 71 yX6_refused, Cond.instanceMethod yX6_refused, Cond.selects RX6 yX6_refused yX6_refused, Cond.code yX6_refused cX6_refused 2 (some .int), Cond.fieldLink RX6 250 "QuadWorlds" "latestFinding" "I", Cond.fieldLink RX6 24 "QuadWorlds" "findingTimes" "[I", Cond.methodLink RX6 142 yX5_hasAll, Cond.instanceMethod yX5_hasAll, Cond.selects RX5 yX5_hasAll yX5_hasAll, Cond.initialized RX5, Cond.code yX5_hasAll cX5_hasAll 3 (some .boolean), Cond.fieldLink RX5 29 "QuadWorlds$World" "size" "I", Cond.constantLong RX5 46 (-1), Cond.static yX6_below, Cond.code yX6_below cX6_below 1 (some .long), Cond.methodLink RX6 145 yX5_mostOnLine, Cond.instanceMethod yX5_mostOnLine, Cond.selects RX5 yX5_mostOnLine yX5_mostOnLine, Cond.code yX5_mostOnLine cX5_mostOnLine 5 (some .int)]
def wsX6_meets_r2 : List Cond := [Cond.fieldLink RX5 35 "QuadWorlds$World" "lineCount" "I", Cond.fieldLink RX5 9 "QuadWorlds$World" "sets" "[J", Cond.methodLink RX5 76 Lib.Math.max.name, Cond.static Lib.Math.max.name, Cond.initialized "java/lang/Math", Cond.code Lib.Math.max.name Lib.Math.max.code 2 (some .int), Cond.methodLink RX5 64 yJ13_bitCount_95d88, Cond.static yJ13_bitCount_95d88, Cond.initialized RJ13, Cond.code yJ13_bitCount_95d88 cJ13_bitCount_95d88 2 (some .int), Cond.constantLong RJ13 314 (6148914691236517205), Cond.constantLong RJ13 316 (3689348814741910323), Cond.constantLong RJ13 318 (1085102592571150095), Cond.methodLink RX6 212 yX5_leastOnLine, Cond.instanceMethod yX5_leastOnLine, Cond.selects RX5 yX5_leastOnLine yX5_leastOnLine, Cond.code yX5_leastOnLine cX5_leastOnLine 5 (some .int), Cond.methodLink RX5 70 Lib.Math.min.name, Cond.static Lib.Math.min.name, Cond.code Lib.Math.min.name Lib.Math.min.code 2 (some .int)]
def wsX6_meets : List Cond := .code yX6_meets cX6_meets 6 (some .int) :: ((wsX6_meets_r1 ++ wsX6_meets_r2) ++ wsX60 ++ wsX50)
def wsX6_rank_r1 : List Cond := [Cond.fieldLink RX6 11 "QuadWorlds" "worlds" "[LQuadWorlds$World;", Cond.fieldLink RX6 30 "QuadWorlds" "rankCells" "[I", Cond.methodLink RX6 52 yX6_isWorldNumber, Cond.static yX6_isWorldNumber, Cond.initialized RX6, Cond.code yX6_isWorldNumber cX6_isWorldNumber 1 (some .boolean), Cond.methodLink RX6 71 yX6_refused, Cond.instanceMethod yX6_refused, Cond.selects RX6 yX6_refused yX6_refused, Cond.code yX6_refused cX6_refused 2 (some .int), Cond.fieldLink RX6 250 "QuadWorlds" "latestFinding" "I", Cond.fieldLink RX6 24 "QuadWorlds" "findingTimes" "[I", Cond.methodLink RX6 215 yX3_rankOf, Cond.static yX3_rankOf, Cond.initialized RX3, Cond.code yX3_rankOf cX3_rankOf 6 (some .int), Cond.static yX6_has, Cond.code yX6_has cX6_has 3 (some .boolean), Cond.methodLink RX3 26 yX3_firstWith, Cond.static yX3_firstWith, Cond.code yX3_firstWith cX3_firstWith 5 (some .int), Cond.methodLink RX3 32 yX3_swapRows, Cond.static yX3_swapRows, Cond.code yX3_swapRows cX3_swapRows 6 none]
def wsX6_rank_r2 : List Cond := [Cond.methodLink RX3 36 yX3_clearBelow, Cond.static yX3_clearBelow, Cond.code yX3_clearBelow cX3_clearBelow 10 none, Cond.methodLink RX3 40 yX3_inverseOf, Cond.static yX3_inverseOf, Cond.code yX3_inverseOf cX3_inverseOf 3 (some .int), Cond.methodLink RX3 44 yJ9_floorMod_7cf53, Cond.static yJ9_floorMod_7cf53, Cond.initialized RJ9, Cond.code yJ9_floorMod_7cf53 cJ9_floorMod_7cf53 3 (some .int)]
def wsX6_rank : List Cond := .code yX6_rank cX6_rank 3 (some .int) :: ((wsX6_rank_r1 ++ wsX6_rank_r2) ++ wsX60 ++ wsX50)
def wsX6_alike_r1 : List Cond := [Cond.fieldLink RX6 11 "QuadWorlds" "worlds" "[LQuadWorlds$World;", Cond.fieldLink RX6 43 "QuadWorlds" "matcher" "LQuadWorlds$Matcher;", Cond.fieldLink RX6 203 "QuadWorlds" "latestTries" "I", Cond.fieldLink RX6 230 "QuadWorlds" "sentSize" "I", Cond.fieldLink RX6 27 "QuadWorlds" "sentTo" "[I", Cond.methodLink RX6 236 arraycopyName, Cond.native arraycopyName, Cond.static arraycopyName, Cond.initialized "java/lang/System", Cond.methodLink RX6 52 yX6_isWorldNumber, Cond.static yX6_isWorldNumber, Cond.initialized RX6, Cond.code yX6_isWorldNumber cX6_isWorldNumber 1 (some .boolean), Cond.methodLink RX6 190 yX6_isNumberOfTries, Cond.static yX6_isNumberOfTries, Cond.code yX6_isNumberOfTries cX6_isNumberOfTries 1 (some .boolean), Cond.constant RX6 260 (100000), Cond.methodLink RX6 71 yX6_refused, Cond.instanceMethod yX6_refused, Cond.selects RX6 yX6_refused yX6_refused, Cond.code yX6_refused cX6_refused 2 (some .int), Cond.fieldLink RX6 250 "QuadWorlds" "latestFinding" "I", Cond.fieldLink RX6 24 "QuadWorlds" "findingTimes" "[I", Cond.methodLink RX6 221 yX2_match]
def wsX6_alike_r2 : List Cond := [Cond.instanceMethod yX2_match, Cond.selects RX2 yX2_match yX2_match, Cond.initialized RX2, Cond.code yX2_match cX2_match 5 none, Cond.fieldLink RX2 22 "QuadWorlds$Matcher" "tryCount" "I", Cond.fieldLink RX2 26 "QuadWorlds$Matcher" "isSpent" "Z", Cond.fieldLink RX2 30 "QuadWorlds$Matcher" "isFound" "Z", Cond.fieldLink RX2 41 "QuadWorlds$Matcher" "depth" "I", Cond.fieldLink RX2 15 "QuadWorlds$Matcher" "used" "[J", Cond.constant RX2 48 (1000000), Cond.fieldLink RX2 19 "QuadWorlds$Matcher" "left" "[J", Cond.methodLink RX2 44 yX2_open, Cond.instanceMethod yX2_open, Cond.selects RX2 yX2_open yX2_open, Cond.code yX2_open cX2_open 7 none, Cond.methodLink RX2 58 yX2_linesFit, Cond.instanceMethod yX2_linesFit, Cond.selects RX2 yX2_linesFit yX2_linesFit, Cond.code yX2_linesFit cX2_linesFit 7 (some .boolean), Cond.constantLong RX2 56 (-1), Cond.static yX6_below, Cond.code yX6_below cX6_below 1 (some .long), Cond.methodLink RX2 69 yX2_imageOf, Cond.instanceMethod yX2_imageOf]
def wsX6_alike_r3 : List Cond := [Cond.selects RX2 yX2_imageOf yX2_imageOf, Cond.code yX2_imageOf cX2_imageOf 7 (some .long), Cond.fieldLink RX2 9 "QuadWorlds$Matcher" "images" "[I", Cond.static yX6_has, Cond.code yX6_has cX6_has 3 (some .boolean), Cond.methodLink RX2 88 yX2_lineWith, Cond.static yX2_lineWith, Cond.code yX2_lineWith cX2_lineWith 6 (some .int), Cond.methodLink RX2 76 yJ13_bitCount_95d88, Cond.static yJ13_bitCount_95d88, Cond.initialized RJ13, Cond.code yJ13_bitCount_95d88 cJ13_bitCount_95d88 2 (some .int), Cond.constantLong RJ13 314 (6148914691236517205), Cond.constantLong RJ13 316 (3689348814741910323), Cond.constantLong RJ13 318 (1085102592571150095), Cond.methodLink RX2 49 yX2_take, Cond.instanceMethod yX2_take, Cond.selects RX2 yX2_take yX2_take, Cond.code yX2_take cX2_take 4 none, Cond.static yX6_leastOf, Cond.code yX6_leastOf cX6_leastOf 2 (some .int), Cond.methodLink RX6 86 yJ13_bitCount_95d88]
def wsX6_alike : List Cond := .code yX6_alike cX6_alike 4 (some .int) :: ((wsX6_alike_r1 ++ (wsX6_alike_r2 ++ wsX6_alike_r3)) ++ wsX60 ++ wsX50 ++ wsX20)
def wsX6_sent : List Cond := .code yX6_sent cX6_sent 2 (some .int) :: ([.fieldLink RX6 230 "QuadWorlds" "sentSize" "I", .fieldLink RX6 27 "QuadWorlds" "sentTo" "[I"] ++ wsX60)
def wsX6_far : List Cond := .code yX6_far cX6_far 5 (some .int) :: ([.fieldLink RX6 11 "QuadWorlds" "worlds" "[LQuadWorlds$World;", .methodLink RX6 52 yX6_isWorldNumber, .static yX6_isWorldNumber, .initialized RX6, .code yX6_isWorldNumber cX6_isWorldNumber 1 (some .boolean), .methodLink RX6 71 yX6_refused, .instanceMethod yX6_refused, .selects RX6 yX6_refused yX6_refused, .code yX6_refused cX6_refused 2 (some .int), .fieldLink RX6 250 "QuadWorlds" "latestFinding" "I", .fieldLink RX6 24 "QuadWorlds" "findingTimes" "[I", .methodLink RX6 120 yX5_hasPoint, .instanceMethod yX5_hasPoint, .selects RX5 yX5_hasPoint yX5_hasPoint, .initialized RX5, .code yX5_hasPoint cX5_hasPoint 2 (some .boolean), .fieldLink RX5 29 "QuadWorlds$World" "size" "I", .methodLink RX6 242 yX5_stepsBetween, .instanceMethod yX5_stepsBetween, .selects RX5 yX5_stepsBetween yX5_stepsBetween, .code yX5_stepsBetween cX5_stepsBetween 9 (some .int), .fieldLink RX5 18 "QuadWorlds$World" "near" "[J", .static yX6_has, .code yX6_has cX6_has 3 (some .boolean)] ++ wsX60 ++ wsX50)
def wsX6_row : List Cond := .code yX6_row cX6_row 4 (some .int) :: ([.fieldLink RX6 17 "QuadWorlds" "rowPlaces" "[[I", .fieldLink RX6 20 "QuadWorlds" "rowSizes" "[I", .methodLink RX6 60 yX6_isRowNumber, .static yX6_isRowNumber, .initialized RX6, .code yX6_isRowNumber cX6_isRowNumber 1 (some .boolean), .methodLink RX6 71 yX6_refused, .instanceMethod yX6_refused, .selects RX6 yX6_refused yX6_refused, .code yX6_refused cX6_refused 2 (some .int), .fieldLink RX6 250 "QuadWorlds" "latestFinding" "I", .fieldLink RX6 24 "QuadWorlds" "findingTimes" "[I"] ++ wsX60)
def wsX6_lay : List Cond := .code yX6_lay cX6_lay 5 (some .int) :: ([.fieldLink RX6 20 "QuadWorlds" "rowSizes" "[I", .fieldLink RX6 17 "QuadWorlds" "rowPlaces" "[[I", .methodLink RX6 60 yX6_isRowNumber, .static yX6_isRowNumber, .initialized RX6, .code yX6_isRowNumber cX6_isRowNumber 1 (some .boolean), .methodLink RX6 71 yX6_refused, .instanceMethod yX6_refused, .selects RX6 yX6_refused yX6_refused, .code yX6_refused cX6_refused 2 (some .int), .fieldLink RX6 250 "QuadWorlds" "latestFinding" "I", .fieldLink RX6 24 "QuadWorlds" "findingTimes" "[I"] ++ wsX60)
def wsX6_tear : List Cond := .code yX6_tear cX6_tear 2 (some .int) :: ([.fieldLink RX6 20 "QuadWorlds" "rowSizes" "[I", .methodLink RX6 60 yX6_isRowNumber, .static yX6_isRowNumber, .initialized RX6, .code yX6_isRowNumber cX6_isRowNumber 1 (some .boolean), .methodLink RX6 71 yX6_refused, .instanceMethod yX6_refused, .selects RX6 yX6_refused yX6_refused, .code yX6_refused cX6_refused 2 (some .int), .fieldLink RX6 250 "QuadWorlds" "latestFinding" "I", .fieldLink RX6 24 "QuadWorlds" "findingTimes" "[I"] ++ wsX60)
def wsX6_rowHasPlaces : List Cond := .code yX6_rowHasPlaces cX6_rowHasPlaces 4 (some .boolean) :: ([.fieldLink RX6 20 "QuadWorlds" "rowSizes" "[I"] ++ wsX60)
def wsX6_copy : List Cond := .code yX6_copy cX6_copy 6 (some .int) :: ([.fieldLink RX6 20 "QuadWorlds" "rowSizes" "[I", .fieldLink RX6 17 "QuadWorlds" "rowPlaces" "[[I", .methodLink RX6 236 arraycopyName, .native arraycopyName, .static arraycopyName, .initialized "java/lang/System", .methodLink RX6 60 yX6_isRowNumber, .static yX6_isRowNumber, .initialized RX6, .code yX6_isRowNumber cX6_isRowNumber 1 (some .boolean), .methodLink RX6 71 yX6_refused, .instanceMethod yX6_refused, .selects RX6 yX6_refused yX6_refused, .code yX6_refused cX6_refused 2 (some .int), .fieldLink RX6 250 "QuadWorlds" "latestFinding" "I", .fieldLink RX6 24 "QuadWorlds" "findingTimes" "[I", .methodLink RX6 246 yX6_rowHasPlaces, .instanceMethod yX6_rowHasPlaces, .selects RX6 yX6_rowHasPlaces yX6_rowHasPlaces, .code yX6_rowHasPlaces cX6_rowHasPlaces 4 (some .boolean)] ++ wsX60)
def wsX6_asked : List Cond := .code yX6_asked cX6_asked 1 (some .long) :: ([.fieldLink RX6 168 "QuadWorlds" "latestAsked" "J"] ++ wsX60)
def wsX6_count : List Cond := .code yX6_count cX6_count 4 (some .int) :: ([.fieldLink RX6 20 "QuadWorlds" "rowSizes" "[I", .fieldLink RX6 11 "QuadWorlds" "worlds" "[LQuadWorlds$World;"] ++ wsX60 ++ wsX50)
def wsX6_finding : List Cond := .code yX6_finding cX6_finding 1 (some .int) :: ([.fieldLink RX6 250 "QuadWorlds" "latestFinding" "I"] ++ wsX60)
def wsX6_findings : List Cond := .code yX6_findings cX6_findings 2 (some .int) :: ([.fieldLink RX6 24 "QuadWorlds" "findingTimes" "[I"] ++ wsX60)
def wsX6_digest : List Cond := .code yX6_digest cX6_digest 5 (some .long) :: ([.constantLong RX6 253 (17), .fieldLink RX6 11 "QuadWorlds" "worlds" "[LQuadWorlds$World;", .constantLong RX6 258 (31), .fieldLink RX6 20 "QuadWorlds" "rowSizes" "[I", .fieldLink RX6 17 "QuadWorlds" "rowPlaces" "[[I", .methodLink RX6 255 yX5_digestOn, .instanceMethod yX5_digestOn, .selects RX5 yX5_digestOn yX5_digestOn, .initialized RX5, .code yX5_digestOn cX5_digestOn 6 (some .long), .fieldLink RX5 21 "QuadWorlds$World" "there" "Z", .constantLong RX5 79 (31), .fieldLink RX5 29 "QuadWorlds$World" "size" "I", .fieldLink RX5 35 "QuadWorlds$World" "lineCount" "I", .fieldLink RX5 25 "QuadWorlds$World" "kind" "I", .fieldLink RX5 9 "QuadWorlds$World" "sets" "[J"] ++ wsX60 ++ wsX50)
def wsX7_init_r1 : List Cond := [Cond.methodLink RX7 1 objectInit, Cond.instanceMethod objectInit, Cond.code objectInit ⟨#[0xb1]⟩ 1 none, Cond.arrayClass .int, Cond.fieldLink RX7 7 "QuadWorldsModel" "findings" "[I", Cond.fieldLink RX7 13 "QuadWorldsModel" "points" "[I", Cond.fieldLink RX7 16 "QuadWorldsModel" "lineCount" "[I", Cond.fieldLink RX7 19 "QuadWorldsModel" "kinds" "[I", Cond.fieldLink RX7 22 "QuadWorldsModel" "marks" "[I", Cond.arrayClass .long, Cond.fieldLink RX7 25 "QuadWorldsModel" "lines" "[J", Cond.fieldLink RX7 29 "QuadWorldsModel" "newRow" "[J", Cond.fieldLink RX7 32 "QuadWorldsModel" "letters" "[I", Cond.fieldLink RX7 35 "QuadWorldsModel" "bars" "[J", Cond.fieldLink RX7 38 "QuadWorldsModel" "hits" "[J", Cond.fieldLink RX7 41 "QuadWorldsModel" "choices" "[J", Cond.fieldLink RX7 44 "QuadWorldsModel" "taken" "[I", Cond.fieldLink RX7 47 "QuadWorldsModel" "barred" "[J", Cond.fieldLink RX7 50 "QuadWorldsModel" "met" "[J", Cond.fieldLink RX7 53 "QuadWorldsModel" "table" "[I", Cond.fieldLink RX7 56 "QuadWorldsModel" "sent" "[I", Cond.fieldLink RX7 59 "QuadWorldsModel" "goes" "[I", Cond.fieldLink RX7 62 "QuadWorldsModel" "nears" "[J", Cond.fieldLink RX7 65 "QuadWorldsModel" "otherNears" "[J"]
def wsX7_init_r2 : List Cond := [Cond.fieldLink RX7 68 "QuadWorldsModel" "degrees" "[I", Cond.fieldLink RX7 71 "QuadWorldsModel" "otherDegrees" "[I", Cond.fieldLink RX7 74 "QuadWorldsModel" "sizes" "[I", Cond.fieldLink RX7 77 "QuadWorldsModel" "rows" "[I", Cond.fieldLink RX7 80 "QuadWorldsModel" "moving" "[I"]
def wsX7_init : List Cond := .code yX7_init cX7_init 2 none :: ((wsX7_init_r1 ++ wsX7_init_r2) ++ wsX70)
def wsX7_in : List Cond := .code yX7_in cX7_in 3 (some .boolean) :: ([])
def wsX7_meets : List Cond := .code yX7_meets cX7_meets 2 (some .int) :: ([.fieldLink RX7 83 "QuadWorldsModel" "finding" "I", .fieldLink RX7 7 "QuadWorldsModel" "findings" "[I"] ++ wsX70)
def wsX7_ask : List Cond := .code yX7_ask cX7_ask 4 (some .int) :: ([.fieldLink RX7 87 "QuadWorldsModel" "asked" "J"] ++ wsX70)
def wsX7_bits : List Cond := .code yX7_bits cX7_bits 4 (some .int) :: ([])
def wsX7_has : List Cond := .code yX7_has cX7_has 3 (some .boolean) :: ([])
def wsX7_isNumber : List Cond := .code yX7_isNumber cX7_isNumber 1 (some .boolean) :: ([.methodLink RX7 91 yX7_in, .static yX7_in, .initialized RX7, .code yX7_in cX7_in 3 (some .boolean)])
def wsX7_looked : List Cond := .code yX7_looked cX7_looked 2 (some .int) :: ([.fieldLink RX7 13 "QuadWorldsModel" "points" "[I", .methodLink RX7 95 yX7_isNumber, .static yX7_isNumber, .initialized RX7, .code yX7_isNumber cX7_isNumber 1 (some .boolean), .methodLink RX7 91 yX7_in, .static yX7_in, .code yX7_in cX7_in 3 (some .boolean), .methodLink RX7 99 yX7_meets, .instanceMethod yX7_meets, .selects RX7 yX7_meets yX7_meets, .code yX7_meets cX7_meets 2 (some .int), .fieldLink RX7 83 "QuadWorldsModel" "finding" "I", .fieldLink RX7 7 "QuadWorldsModel" "findings" "[I"] ++ wsX70)
def wsX7_allOf : List Cond := .code yX7_allOf cX7_allOf 2 (some .long) :: ([.fieldLink RX7 13 "QuadWorldsModel" "points" "[I"] ++ wsX70)
def wsX7_keep : List Cond := .code yX7_keep cX7_keep 5 (some .int) :: ([.fieldLink RX7 13 "QuadWorldsModel" "points" "[I", .fieldLink RX7 103 "QuadWorldsModel" "newPoints" "I", .fieldLink RX7 16 "QuadWorldsModel" "lineCount" "[I", .fieldLink RX7 106 "QuadWorldsModel" "newLines" "I", .fieldLink RX7 19 "QuadWorldsModel" "kinds" "[I", .fieldLink RX7 22 "QuadWorldsModel" "marks" "[I", .fieldLink RX7 25 "QuadWorldsModel" "lines" "[J", .fieldLink RX7 29 "QuadWorldsModel" "newRow" "[J"] ++ wsX70)
def wsX7_add : List Cond := .code yX7_add cX7_add 3 none :: ([.fieldLink RX7 29 "QuadWorldsModel" "newRow" "[J", .fieldLink RX7 106 "QuadWorldsModel" "newLines" "I"] ++ wsX70)
def wsX7_world : List Cond := .code yX7_world cX7_world 3 (some .int) :: ([.fieldLink RX7 103 "QuadWorldsModel" "newPoints" "I", .fieldLink RX7 106 "QuadWorldsModel" "newLines" "I", .methodLink RX7 95 yX7_isNumber, .static yX7_isNumber, .initialized RX7, .code yX7_isNumber cX7_isNumber 1 (some .boolean), .methodLink RX7 91 yX7_in, .static yX7_in, .code yX7_in cX7_in 3 (some .boolean), .methodLink RX7 109 yX7_keep, .instanceMethod yX7_keep, .selects RX7 yX7_keep yX7_keep, .code yX7_keep cX7_keep 5 (some .int), .fieldLink RX7 13 "QuadWorldsModel" "points" "[I", .fieldLink RX7 16 "QuadWorldsModel" "lineCount" "[I", .fieldLink RX7 19 "QuadWorldsModel" "kinds" "[I", .fieldLink RX7 22 "QuadWorldsModel" "marks" "[I", .fieldLink RX7 25 "QuadWorldsModel" "lines" "[J", .fieldLink RX7 29 "QuadWorldsModel" "newRow" "[J"] ++ wsX70)
def wsX7_isRow : List Cond := .code yX7_isRow cX7_isRow 1 (some .boolean) :: ([.methodLink RX7 91 yX7_in, .static yX7_in, .initialized RX7, .code yX7_in cX7_in 3 (some .boolean)])
def wsX7_line_r1 : List Cond := [Cond.fieldLink RX7 13 "QuadWorldsModel" "points" "[I", Cond.fieldLink RX7 16 "QuadWorldsModel" "lineCount" "[I", Cond.fieldLink RX7 74 "QuadWorldsModel" "sizes" "[I", Cond.fieldLink RX7 19 "QuadWorldsModel" "kinds" "[I", Cond.fieldLink RX7 77 "QuadWorldsModel" "rows" "[I", Cond.fieldLink RX7 25 "QuadWorldsModel" "lines" "[J", Cond.methodLink RX7 95 yX7_isNumber, Cond.static yX7_isNumber, Cond.initialized RX7, Cond.code yX7_isNumber cX7_isNumber 1 (some .boolean), Cond.methodLink RX7 91 yX7_in, Cond.static yX7_in, Cond.code yX7_in cX7_in 3 (some .boolean), Cond.methodLink RX7 113 yX7_isRow, Cond.static yX7_isRow, Cond.code yX7_isRow cX7_isRow 1 (some .boolean), Cond.methodLink RX7 99 yX7_meets, Cond.instanceMethod yX7_meets, Cond.selects RX7 yX7_meets yX7_meets, Cond.code yX7_meets cX7_meets 2 (some .int), Cond.fieldLink RX7 83 "QuadWorldsModel" "finding" "I", Cond.fieldLink RX7 7 "QuadWorldsModel" "findings" "[I", Cond.methodLink RX7 116 yX7_bits, Cond.static yX7_bits]
def wsX7_line_r2 : List Cond := [Cond.code yX7_bits cX7_bits 4 (some .int)]
def wsX7_line : List Cond := .code yX7_line cX7_line 8 (some .int) :: ((wsX7_line_r1 ++ wsX7_line_r2) ++ wsX70)
def wsX7_grid : List Cond := .code yX7_grid cX7_grid 8 (some .int) :: ([.fieldLink RX7 103 "QuadWorldsModel" "newPoints" "I", .fieldLink RX7 106 "QuadWorldsModel" "newLines" "I", .methodLink RX7 95 yX7_isNumber, .static yX7_isNumber, .initialized RX7, .code yX7_isNumber cX7_isNumber 1 (some .boolean), .methodLink RX7 91 yX7_in, .static yX7_in, .code yX7_in cX7_in 3 (some .boolean), .methodLink RX7 120 yX7_add, .instanceMethod yX7_add, .selects RX7 yX7_add yX7_add, .code yX7_add cX7_add 3 none, .fieldLink RX7 29 "QuadWorldsModel" "newRow" "[J", .methodLink RX7 109 yX7_keep, .instanceMethod yX7_keep, .selects RX7 yX7_keep yX7_keep, .code yX7_keep cX7_keep 5 (some .int), .fieldLink RX7 13 "QuadWorldsModel" "points" "[I", .fieldLink RX7 16 "QuadWorldsModel" "lineCount" "[I", .fieldLink RX7 19 "QuadWorldsModel" "kinds" "[I", .fieldLink RX7 22 "QuadWorldsModel" "marks" "[I", .fieldLink RX7 25 "QuadWorldsModel" "lines" "[J"] ++ wsX70)
def wsX7_isPerp : List Cond := .code yX7_isPerp cX7_isPerp 5 (some .boolean) :: ([.fieldLink RX7 32 "QuadWorldsModel" "letters" "[I"] ++ wsX70)
def wsX7_lineOf : List Cond := .code yX7_lineOf cX7_lineOf 11 (some .long) :: ([.fieldLink RX7 103 "QuadWorldsModel" "newPoints" "I", .fieldLink RX7 32 "QuadWorldsModel" "letters" "[I"] ++ wsX70)
def wsX7_form_r1 : List Cond := [Cond.fieldLink RX7 103 "QuadWorldsModel" "newPoints" "I", Cond.fieldLink RX7 106 "QuadWorldsModel" "newLines" "I", Cond.fieldLink RX7 32 "QuadWorldsModel" "letters" "[I", Cond.constantLong RX7 131 (-1), Cond.methodLink RX7 95 yX7_isNumber, Cond.static yX7_isNumber, Cond.initialized RX7, Cond.code yX7_isNumber cX7_isNumber 1 (some .boolean), Cond.methodLink RX7 91 yX7_in, Cond.static yX7_in, Cond.code yX7_in cX7_in 3 (some .boolean), Cond.methodLink RX7 124 yX7_isPerp, Cond.instanceMethod yX7_isPerp, Cond.selects RX7 yX7_isPerp yX7_isPerp, Cond.code yX7_isPerp cX7_isPerp 5 (some .boolean), Cond.methodLink RX7 127 yX7_lineOf, Cond.instanceMethod yX7_lineOf, Cond.selects RX7 yX7_lineOf yX7_lineOf, Cond.code yX7_lineOf cX7_lineOf 11 (some .long), Cond.methodLink RX7 120 yX7_add, Cond.instanceMethod yX7_add, Cond.selects RX7 yX7_add yX7_add, Cond.code yX7_add cX7_add 3 none, Cond.fieldLink RX7 29 "QuadWorldsModel" "newRow" "[J"]
def wsX7_form_r2 : List Cond := [Cond.methodLink RX7 109 yX7_keep, Cond.instanceMethod yX7_keep, Cond.selects RX7 yX7_keep yX7_keep, Cond.code yX7_keep cX7_keep 5 (some .int), Cond.fieldLink RX7 13 "QuadWorldsModel" "points" "[I", Cond.fieldLink RX7 16 "QuadWorldsModel" "lineCount" "[I", Cond.fieldLink RX7 19 "QuadWorldsModel" "kinds" "[I", Cond.fieldLink RX7 22 "QuadWorldsModel" "marks" "[I", Cond.fieldLink RX7 25 "QuadWorldsModel" "lines" "[J"]
def wsX7_form : List Cond := .code yX7_form cX7_form 8 (some .int) :: ((wsX7_form_r1 ++ wsX7_form_r2) ++ wsX70)
def wsX7_through : List Cond := .code yX7_through cX7_through 6 (some .long) :: ([.fieldLink RX7 16 "QuadWorldsModel" "lineCount" "[I", .fieldLink RX7 25 "QuadWorldsModel" "lines" "[J", .methodLink RX7 133 yX7_has, .static yX7_has, .initialized RX7, .code yX7_has cX7_has 3 (some .boolean)] ++ wsX70)
def wsX7_dual_r1 : List Cond := [Cond.fieldLink RX7 16 "QuadWorldsModel" "lineCount" "[I", Cond.fieldLink RX7 103 "QuadWorldsModel" "newPoints" "I", Cond.fieldLink RX7 106 "QuadWorldsModel" "newLines" "I", Cond.fieldLink RX7 13 "QuadWorldsModel" "points" "[I", Cond.fieldLink RX7 29 "QuadWorldsModel" "newRow" "[J", Cond.methodLink RX7 95 yX7_isNumber, Cond.static yX7_isNumber, Cond.initialized RX7, Cond.code yX7_isNumber cX7_isNumber 1 (some .boolean), Cond.methodLink RX7 91 yX7_in, Cond.static yX7_in, Cond.code yX7_in cX7_in 3 (some .boolean), Cond.methodLink RX7 137 yX7_looked, Cond.instanceMethod yX7_looked, Cond.selects RX7 yX7_looked yX7_looked, Cond.code yX7_looked cX7_looked 2 (some .int), Cond.methodLink RX7 99 yX7_meets, Cond.instanceMethod yX7_meets, Cond.selects RX7 yX7_meets yX7_meets, Cond.code yX7_meets cX7_meets 2 (some .int), Cond.fieldLink RX7 83 "QuadWorldsModel" "finding" "I", Cond.fieldLink RX7 7 "QuadWorldsModel" "findings" "[I", Cond.methodLink RX7 140 yX7_through, Cond.instanceMethod yX7_through]
def wsX7_dual_r2 : List Cond := [Cond.selects RX7 yX7_through yX7_through, Cond.code yX7_through cX7_through 6 (some .long), Cond.fieldLink RX7 25 "QuadWorldsModel" "lines" "[J", Cond.methodLink RX7 133 yX7_has, Cond.static yX7_has, Cond.code yX7_has cX7_has 3 (some .boolean), Cond.methodLink RX7 120 yX7_add, Cond.instanceMethod yX7_add, Cond.selects RX7 yX7_add yX7_add, Cond.code yX7_add cX7_add 3 none, Cond.methodLink RX7 116 yX7_bits, Cond.static yX7_bits, Cond.code yX7_bits cX7_bits 4 (some .int), Cond.methodLink RX7 109 yX7_keep, Cond.instanceMethod yX7_keep, Cond.selects RX7 yX7_keep yX7_keep, Cond.code yX7_keep cX7_keep 5 (some .int), Cond.fieldLink RX7 19 "QuadWorldsModel" "kinds" "[I", Cond.fieldLink RX7 22 "QuadWorldsModel" "marks" "[I"]
def wsX7_dual : List Cond := .code yX7_dual cX7_dual 6 (some .int) :: ((wsX7_dual_r1 ++ wsX7_dual_r2) ++ wsX70)
def wsX7_nearTo : List Cond := .code yX7_nearTo cX7_nearTo 6 (some .long) :: ([.fieldLink RX7 16 "QuadWorldsModel" "lineCount" "[I", .fieldLink RX7 25 "QuadWorldsModel" "lines" "[J", .methodLink RX7 133 yX7_has, .static yX7_has, .initialized RX7, .code yX7_has cX7_has 3 (some .boolean)] ++ wsX70)
def wsX7_perpOf : List Cond := .code yX7_perpOf cX7_perpOf 7 (some .long) :: ([.fieldLink RX7 13 "QuadWorldsModel" "points" "[I", .constantLong RX7 131 (-1), .methodLink RX7 144 yX7_allOf, .instanceMethod yX7_allOf, .selects RX7 yX7_allOf yX7_allOf, .initialized RX7, .code yX7_allOf cX7_allOf 2 (some .long), .methodLink RX7 133 yX7_has, .static yX7_has, .code yX7_has cX7_has 3 (some .boolean), .methodLink RX7 148 yX7_nearTo, .instanceMethod yX7_nearTo, .selects RX7 yX7_nearTo yX7_nearTo, .code yX7_nearTo cX7_nearTo 6 (some .long), .fieldLink RX7 16 "QuadWorldsModel" "lineCount" "[I", .fieldLink RX7 25 "QuadWorldsModel" "lines" "[J"] ++ wsX70)
def wsX7_spanOf : List Cond := .code yX7_spanOf cX7_spanOf 4 (some .long) :: ([.methodLink RX7 151 yX7_perpOf, .instanceMethod yX7_perpOf, .selects RX7 yX7_perpOf yX7_perpOf, .initialized RX7, .code yX7_perpOf cX7_perpOf 7 (some .long), .fieldLink RX7 13 "QuadWorldsModel" "points" "[I", .constantLong RX7 131 (-1), .methodLink RX7 144 yX7_allOf, .instanceMethod yX7_allOf, .selects RX7 yX7_allOf yX7_allOf, .code yX7_allOf cX7_allOf 2 (some .long), .methodLink RX7 133 yX7_has, .static yX7_has, .code yX7_has cX7_has 3 (some .boolean), .methodLink RX7 148 yX7_nearTo, .instanceMethod yX7_nearTo, .selects RX7 yX7_nearTo yX7_nearTo, .code yX7_nearTo cX7_nearTo 6 (some .long), .fieldLink RX7 16 "QuadWorldsModel" "lineCount" "[I", .fieldLink RX7 25 "QuadWorldsModel" "lines" "[J"] ++ wsX70)
def wsX7_orderOf : List Cond := .code yX7_orderOf cX7_orderOf 7 (some .int) :: ([.fieldLink RX7 16 "QuadWorldsModel" "lineCount" "[I", .fieldLink RX7 13 "QuadWorldsModel" "points" "[I", .fieldLink RX7 25 "QuadWorldsModel" "lines" "[J", .methodLink RX7 140 yX7_through, .instanceMethod yX7_through, .selects RX7 yX7_through yX7_through, .initialized RX7, .code yX7_through cX7_through 6 (some .long), .methodLink RX7 133 yX7_has, .static yX7_has, .code yX7_has cX7_has 3 (some .boolean), .methodLink RX7 116 yX7_bits, .static yX7_bits, .code yX7_bits cX7_bits 4 (some .int)] ++ wsX70)
def wsX7_isPoint : List Cond := .code yX7_isPoint cX7_isPoint 3 (some .boolean) :: ([.fieldLink RX7 13 "QuadWorldsModel" "points" "[I", .methodLink RX7 91 yX7_in, .static yX7_in, .initialized RX7, .code yX7_in cX7_in 3 (some .boolean)] ++ wsX70)
def wsX7_isRegular_r1 : List Cond := [Cond.fieldLink RX7 13 "QuadWorldsModel" "points" "[I", Cond.methodLink RX7 148 yX7_nearTo, Cond.instanceMethod yX7_nearTo, Cond.selects RX7 yX7_nearTo yX7_nearTo, Cond.initialized RX7, Cond.code yX7_nearTo cX7_nearTo 6 (some .long), Cond.fieldLink RX7 16 "QuadWorldsModel" "lineCount" "[I", Cond.fieldLink RX7 25 "QuadWorldsModel" "lines" "[J", Cond.methodLink RX7 133 yX7_has, Cond.static yX7_has, Cond.code yX7_has cX7_has 3 (some .boolean), Cond.methodLink RX7 155 yX7_spanOf, Cond.instanceMethod yX7_spanOf, Cond.selects RX7 yX7_spanOf yX7_spanOf, Cond.code yX7_spanOf cX7_spanOf 4 (some .long), Cond.methodLink RX7 151 yX7_perpOf, Cond.instanceMethod yX7_perpOf, Cond.selects RX7 yX7_perpOf yX7_perpOf, Cond.code yX7_perpOf cX7_perpOf 7 (some .long), Cond.constantLong RX7 131 (-1), Cond.methodLink RX7 144 yX7_allOf, Cond.instanceMethod yX7_allOf, Cond.selects RX7 yX7_allOf yX7_allOf, Cond.code yX7_allOf cX7_allOf 2 (some .long)]
def wsX7_isRegular_r2 : List Cond := [Cond.methodLink RX7 116 yX7_bits, Cond.static yX7_bits, Cond.code yX7_bits cX7_bits 4 (some .int)]
def wsX7_isRegular : List Cond := .code yX7_isRegular cX7_isRegular 8 (some .boolean) :: ((wsX7_isRegular_r1 ++ wsX7_isRegular_r2) ++ wsX70)
def wsX7_faultOf : List Cond := .code yX7_faultOf cX7_faultOf 7 (some .int) :: ([.fieldLink RX7 16 "QuadWorldsModel" "lineCount" "[I", .fieldLink RX7 25 "QuadWorldsModel" "lines" "[J", .constantLong RX7 158 (100), .fieldLink RX7 160 "QuadWorldsModel" "faultAt" "J", .fieldLink RX7 13 "QuadWorldsModel" "points" "[I", .methodLink RX7 116 yX7_bits, .static yX7_bits, .initialized RX7, .code yX7_bits cX7_bits 4 (some .int), .methodLink RX7 133 yX7_has, .static yX7_has, .code yX7_has cX7_has 3 (some .boolean)] ++ wsX70)
def wsX7_closed : List Cond := .code yX7_closed cX7_closed 8 (some .long) :: ([.methodLink RX7 133 yX7_has, .static yX7_has, .initialized RX7, .code yX7_has cX7_has 3 (some .boolean)])
def wsX7_derive_r1 : List Cond := [Cond.constantLong RX7 131 (-1), Cond.fieldLink RX7 103 "QuadWorldsModel" "newPoints" "I", Cond.fieldLink RX7 106 "QuadWorldsModel" "newLines" "I", Cond.fieldLink RX7 16 "QuadWorldsModel" "lineCount" "[I", Cond.fieldLink RX7 25 "QuadWorldsModel" "lines" "[J", Cond.fieldLink RX7 13 "QuadWorldsModel" "points" "[I", Cond.methodLink RX7 95 yX7_isNumber, Cond.static yX7_isNumber, Cond.initialized RX7, Cond.code yX7_isNumber cX7_isNumber 1 (some .boolean), Cond.methodLink RX7 91 yX7_in, Cond.static yX7_in, Cond.code yX7_in cX7_in 3 (some .boolean), Cond.methodLink RX7 137 yX7_looked, Cond.instanceMethod yX7_looked, Cond.selects RX7 yX7_looked yX7_looked, Cond.code yX7_looked cX7_looked 2 (some .int), Cond.methodLink RX7 99 yX7_meets, Cond.instanceMethod yX7_meets, Cond.selects RX7 yX7_meets yX7_meets, Cond.code yX7_meets cX7_meets 2 (some .int), Cond.fieldLink RX7 83 "QuadWorldsModel" "finding" "I", Cond.fieldLink RX7 7 "QuadWorldsModel" "findings" "[I", Cond.methodLink RX7 163 yX7_isPoint]
def wsX7_derive_r2 : List Cond := [Cond.instanceMethod yX7_isPoint, Cond.selects RX7 yX7_isPoint yX7_isPoint, Cond.code yX7_isPoint cX7_isPoint 3 (some .boolean), Cond.methodLink RX7 167 yX7_orderOf, Cond.instanceMethod yX7_orderOf, Cond.selects RX7 yX7_orderOf yX7_orderOf, Cond.code yX7_orderOf cX7_orderOf 7 (some .int), Cond.methodLink RX7 140 yX7_through, Cond.instanceMethod yX7_through, Cond.selects RX7 yX7_through yX7_through, Cond.code yX7_through cX7_through 6 (some .long), Cond.methodLink RX7 133 yX7_has, Cond.static yX7_has, Cond.code yX7_has cX7_has 3 (some .boolean), Cond.methodLink RX7 116 yX7_bits, Cond.static yX7_bits, Cond.code yX7_bits cX7_bits 4 (some .int), Cond.methodLink RX7 171 yX7_faultOf, Cond.instanceMethod yX7_faultOf, Cond.selects RX7 yX7_faultOf yX7_faultOf, Cond.code yX7_faultOf cX7_faultOf 7 (some .int), Cond.constantLong RX7 158 (100), Cond.fieldLink RX7 160 "QuadWorldsModel" "faultAt" "J", Cond.methodLink RX7 174 yX7_isRegular]
def wsX7_derive_r3 : List Cond := [Cond.instanceMethod yX7_isRegular, Cond.selects RX7 yX7_isRegular yX7_isRegular, Cond.code yX7_isRegular cX7_isRegular 8 (some .boolean), Cond.methodLink RX7 148 yX7_nearTo, Cond.instanceMethod yX7_nearTo, Cond.selects RX7 yX7_nearTo yX7_nearTo, Cond.code yX7_nearTo cX7_nearTo 6 (some .long), Cond.methodLink RX7 155 yX7_spanOf, Cond.instanceMethod yX7_spanOf, Cond.selects RX7 yX7_spanOf yX7_spanOf, Cond.code yX7_spanOf cX7_spanOf 4 (some .long), Cond.methodLink RX7 151 yX7_perpOf, Cond.instanceMethod yX7_perpOf, Cond.selects RX7 yX7_perpOf yX7_perpOf, Cond.code yX7_perpOf cX7_perpOf 7 (some .long), Cond.methodLink RX7 144 yX7_allOf, Cond.instanceMethod yX7_allOf, Cond.selects RX7 yX7_allOf yX7_allOf, Cond.code yX7_allOf cX7_allOf 2 (some .long), Cond.methodLink RX7 177 yX7_closed, Cond.static yX7_closed, Cond.code yX7_closed cX7_closed 8 (some .long), Cond.methodLink RX7 120 yX7_add, Cond.instanceMethod yX7_add]
def wsX7_derive_r4 : List Cond := [Cond.selects RX7 yX7_add yX7_add, Cond.code yX7_add cX7_add 3 none, Cond.fieldLink RX7 29 "QuadWorldsModel" "newRow" "[J", Cond.methodLink RX7 109 yX7_keep, Cond.instanceMethod yX7_keep, Cond.selects RX7 yX7_keep yX7_keep, Cond.code yX7_keep cX7_keep 5 (some .int), Cond.fieldLink RX7 19 "QuadWorldsModel" "kinds" "[I", Cond.fieldLink RX7 22 "QuadWorldsModel" "marks" "[I"]
def wsX7_derive : List Cond := .code yX7_derive cX7_derive 13 (some .int) :: ((wsX7_derive_r1 ++ (wsX7_derive_r2 ++ (wsX7_derive_r3 ++ wsX7_derive_r4))) ++ wsX70)
def wsX7_part_r1 : List Cond := [Cond.constantLong RX7 131 (-1), Cond.fieldLink RX7 103 "QuadWorldsModel" "newPoints" "I", Cond.fieldLink RX7 106 "QuadWorldsModel" "newLines" "I", Cond.fieldLink RX7 16 "QuadWorldsModel" "lineCount" "[I", Cond.fieldLink RX7 25 "QuadWorldsModel" "lines" "[J", Cond.methodLink RX7 95 yX7_isNumber, Cond.static yX7_isNumber, Cond.initialized RX7, Cond.code yX7_isNumber cX7_isNumber 1 (some .boolean), Cond.methodLink RX7 91 yX7_in, Cond.static yX7_in, Cond.code yX7_in cX7_in 3 (some .boolean), Cond.methodLink RX7 137 yX7_looked, Cond.instanceMethod yX7_looked, Cond.selects RX7 yX7_looked yX7_looked, Cond.code yX7_looked cX7_looked 2 (some .int), Cond.fieldLink RX7 13 "QuadWorldsModel" "points" "[I", Cond.methodLink RX7 99 yX7_meets, Cond.instanceMethod yX7_meets, Cond.selects RX7 yX7_meets yX7_meets, Cond.code yX7_meets cX7_meets 2 (some .int), Cond.fieldLink RX7 83 "QuadWorldsModel" "finding" "I", Cond.fieldLink RX7 7 "QuadWorldsModel" "findings" "[I", Cond.methodLink RX7 144 yX7_allOf]
def wsX7_part_r2 : List Cond := [Cond.instanceMethod yX7_allOf, Cond.selects RX7 yX7_allOf yX7_allOf, Cond.code yX7_allOf cX7_allOf 2 (some .long), Cond.methodLink RX7 116 yX7_bits, Cond.static yX7_bits, Cond.code yX7_bits cX7_bits 4 (some .int), Cond.methodLink RX7 177 yX7_closed, Cond.static yX7_closed, Cond.code yX7_closed cX7_closed 8 (some .long), Cond.methodLink RX7 133 yX7_has, Cond.static yX7_has, Cond.code yX7_has cX7_has 3 (some .boolean), Cond.methodLink RX7 120 yX7_add, Cond.instanceMethod yX7_add, Cond.selects RX7 yX7_add yX7_add, Cond.code yX7_add cX7_add 3 none, Cond.fieldLink RX7 29 "QuadWorldsModel" "newRow" "[J", Cond.methodLink RX7 109 yX7_keep, Cond.instanceMethod yX7_keep, Cond.selects RX7 yX7_keep yX7_keep, Cond.code yX7_keep cX7_keep 5 (some .int), Cond.fieldLink RX7 19 "QuadWorldsModel" "kinds" "[I", Cond.fieldLink RX7 22 "QuadWorldsModel" "marks" "[I"]
def wsX7_part : List Cond := .code yX7_part cX7_part 7 (some .int) :: ((wsX7_part_r1 ++ wsX7_part_r2) ++ wsX70)
def wsX7_drop : List Cond := .code yX7_drop cX7_drop 3 (some .int) :: ([.fieldLink RX7 13 "QuadWorldsModel" "points" "[I", .methodLink RX7 137 yX7_looked, .instanceMethod yX7_looked, .selects RX7 yX7_looked yX7_looked, .initialized RX7, .code yX7_looked cX7_looked 2 (some .int), .methodLink RX7 95 yX7_isNumber, .static yX7_isNumber, .code yX7_isNumber cX7_isNumber 1 (some .boolean), .methodLink RX7 91 yX7_in, .static yX7_in, .code yX7_in cX7_in 3 (some .boolean), .methodLink RX7 99 yX7_meets, .instanceMethod yX7_meets, .selects RX7 yX7_meets yX7_meets, .code yX7_meets cX7_meets 2 (some .int), .fieldLink RX7 83 "QuadWorldsModel" "finding" "I", .fieldLink RX7 7 "QuadWorldsModel" "findings" "[I"] ++ wsX70)
def wsX7_told_r1 : List Cond := [Cond.fieldLink RX7 19 "QuadWorldsModel" "kinds" "[I", Cond.fieldLink RX7 13 "QuadWorldsModel" "points" "[I", Cond.fieldLink RX7 16 "QuadWorldsModel" "lineCount" "[I", Cond.methodLink RX7 91 yX7_in, Cond.static yX7_in, Cond.initialized RX7, Cond.code yX7_in cX7_in 3 (some .boolean), Cond.methodLink RX7 137 yX7_looked, Cond.instanceMethod yX7_looked, Cond.selects RX7 yX7_looked yX7_looked, Cond.code yX7_looked cX7_looked 2 (some .int), Cond.methodLink RX7 95 yX7_isNumber, Cond.static yX7_isNumber, Cond.code yX7_isNumber cX7_isNumber 1 (some .boolean), Cond.methodLink RX7 99 yX7_meets, Cond.instanceMethod yX7_meets, Cond.selects RX7 yX7_meets yX7_meets, Cond.code yX7_meets cX7_meets 2 (some .int), Cond.fieldLink RX7 83 "QuadWorldsModel" "finding" "I", Cond.fieldLink RX7 7 "QuadWorldsModel" "findings" "[I", Cond.methodLink RX7 167 yX7_orderOf, Cond.instanceMethod yX7_orderOf, Cond.selects RX7 yX7_orderOf yX7_orderOf, Cond.code yX7_orderOf cX7_orderOf 7 (some .int)]
def wsX7_told_r2 : List Cond := [Cond.fieldLink RX7 25 "QuadWorldsModel" "lines" "[J", Cond.methodLink RX7 140 yX7_through, Cond.instanceMethod yX7_through, Cond.selects RX7 yX7_through yX7_through, Cond.code yX7_through cX7_through 6 (some .long), Cond.methodLink RX7 133 yX7_has, Cond.static yX7_has, Cond.code yX7_has cX7_has 3 (some .boolean), Cond.methodLink RX7 116 yX7_bits, Cond.static yX7_bits, Cond.code yX7_bits cX7_bits 4 (some .int)]
def wsX7_told : List Cond := .code yX7_told cX7_told 4 (some .int) :: ((wsX7_told_r1 ++ wsX7_told_r2) ++ wsX70)
def wsX7_mark_r1 : List Cond := [Cond.fieldLink RX7 19 "QuadWorldsModel" "kinds" "[I", Cond.fieldLink RX7 22 "QuadWorldsModel" "marks" "[I", Cond.methodLink RX7 91 yX7_in, Cond.static yX7_in, Cond.initialized RX7, Cond.code yX7_in cX7_in 3 (some .boolean), Cond.methodLink RX7 137 yX7_looked, Cond.instanceMethod yX7_looked, Cond.selects RX7 yX7_looked yX7_looked, Cond.code yX7_looked cX7_looked 2 (some .int), Cond.fieldLink RX7 13 "QuadWorldsModel" "points" "[I", Cond.methodLink RX7 95 yX7_isNumber, Cond.static yX7_isNumber, Cond.code yX7_isNumber cX7_isNumber 1 (some .boolean), Cond.methodLink RX7 99 yX7_meets, Cond.instanceMethod yX7_meets, Cond.selects RX7 yX7_meets yX7_meets, Cond.code yX7_meets cX7_meets 2 (some .int), Cond.fieldLink RX7 83 "QuadWorldsModel" "finding" "I", Cond.fieldLink RX7 7 "QuadWorldsModel" "findings" "[I", Cond.methodLink RX7 140 yX7_through, Cond.instanceMethod yX7_through, Cond.selects RX7 yX7_through yX7_through, Cond.code yX7_through cX7_through 6 (some .long)]
def wsX7_mark_r2 : List Cond := [Cond.fieldLink RX7 16 "QuadWorldsModel" "lineCount" "[I", Cond.fieldLink RX7 25 "QuadWorldsModel" "lines" "[J", Cond.methodLink RX7 133 yX7_has, Cond.static yX7_has, Cond.code yX7_has cX7_has 3 (some .boolean), Cond.methodLink RX7 116 yX7_bits, Cond.static yX7_bits, Cond.code yX7_bits cX7_bits 4 (some .int)]
def wsX7_mark : List Cond := .code yX7_mark cX7_mark 4 (some .int) :: ((wsX7_mark_r1 ++ wsX7_mark_r2) ++ wsX70)
def wsX7_points_r1 : List Cond := [Cond.fieldLink RX7 16 "QuadWorldsModel" "lineCount" "[I", Cond.fieldLink RX7 25 "QuadWorldsModel" "lines" "[J", Cond.methodLink RX7 137 yX7_looked, Cond.instanceMethod yX7_looked, Cond.selects RX7 yX7_looked yX7_looked, Cond.initialized RX7, Cond.code yX7_looked cX7_looked 2 (some .int), Cond.fieldLink RX7 13 "QuadWorldsModel" "points" "[I", Cond.methodLink RX7 95 yX7_isNumber, Cond.static yX7_isNumber, Cond.code yX7_isNumber cX7_isNumber 1 (some .boolean), Cond.methodLink RX7 91 yX7_in, Cond.static yX7_in, Cond.code yX7_in cX7_in 3 (some .boolean), Cond.methodLink RX7 99 yX7_meets, Cond.instanceMethod yX7_meets, Cond.selects RX7 yX7_meets yX7_meets, Cond.code yX7_meets cX7_meets 2 (some .int), Cond.fieldLink RX7 83 "QuadWorldsModel" "finding" "I", Cond.fieldLink RX7 7 "QuadWorldsModel" "findings" "[I", Cond.methodLink RX7 116 yX7_bits, Cond.static yX7_bits, Cond.code yX7_bits cX7_bits 4 (some .int), Cond.methodLink RX7 181 yX7_ask]
def wsX7_points_r2 : List Cond := [Cond.instanceMethod yX7_ask, Cond.selects RX7 yX7_ask yX7_ask, Cond.code yX7_ask cX7_ask 4 (some .int), Cond.fieldLink RX7 87 "QuadWorldsModel" "asked" "J"]
def wsX7_points : List Cond := .code yX7_points cX7_points 4 (some .int) :: ((wsX7_points_r1 ++ wsX7_points_r2) ++ wsX70)
def wsX7_lines_r1 : List Cond := [Cond.methodLink RX7 137 yX7_looked, Cond.instanceMethod yX7_looked, Cond.selects RX7 yX7_looked yX7_looked, Cond.initialized RX7, Cond.code yX7_looked cX7_looked 2 (some .int), Cond.fieldLink RX7 13 "QuadWorldsModel" "points" "[I", Cond.methodLink RX7 95 yX7_isNumber, Cond.static yX7_isNumber, Cond.code yX7_isNumber cX7_isNumber 1 (some .boolean), Cond.methodLink RX7 91 yX7_in, Cond.static yX7_in, Cond.code yX7_in cX7_in 3 (some .boolean), Cond.methodLink RX7 99 yX7_meets, Cond.instanceMethod yX7_meets, Cond.selects RX7 yX7_meets yX7_meets, Cond.code yX7_meets cX7_meets 2 (some .int), Cond.fieldLink RX7 83 "QuadWorldsModel" "finding" "I", Cond.fieldLink RX7 7 "QuadWorldsModel" "findings" "[I", Cond.methodLink RX7 163 yX7_isPoint, Cond.instanceMethod yX7_isPoint, Cond.selects RX7 yX7_isPoint yX7_isPoint, Cond.code yX7_isPoint cX7_isPoint 3 (some .boolean), Cond.methodLink RX7 140 yX7_through, Cond.instanceMethod yX7_through]
def wsX7_lines_r2 : List Cond := [Cond.selects RX7 yX7_through yX7_through, Cond.code yX7_through cX7_through 6 (some .long), Cond.fieldLink RX7 16 "QuadWorldsModel" "lineCount" "[I", Cond.fieldLink RX7 25 "QuadWorldsModel" "lines" "[J", Cond.methodLink RX7 133 yX7_has, Cond.static yX7_has, Cond.code yX7_has cX7_has 3 (some .boolean), Cond.methodLink RX7 116 yX7_bits, Cond.static yX7_bits, Cond.code yX7_bits cX7_bits 4 (some .int), Cond.methodLink RX7 181 yX7_ask, Cond.instanceMethod yX7_ask, Cond.selects RX7 yX7_ask yX7_ask, Cond.code yX7_ask cX7_ask 4 (some .int), Cond.fieldLink RX7 87 "QuadWorldsModel" "asked" "J"]
def wsX7_lines : List Cond := .code yX7_lines cX7_lines 6 (some .int) :: ((wsX7_lines_r1 ++ wsX7_lines_r2) ++ wsX70)
def wsX7_fault_r1 : List Cond := [Cond.fieldLink RX7 160 "QuadWorldsModel" "faultAt" "J", Cond.methodLink RX7 137 yX7_looked, Cond.instanceMethod yX7_looked, Cond.selects RX7 yX7_looked yX7_looked, Cond.initialized RX7, Cond.code yX7_looked cX7_looked 2 (some .int), Cond.fieldLink RX7 13 "QuadWorldsModel" "points" "[I", Cond.methodLink RX7 95 yX7_isNumber, Cond.static yX7_isNumber, Cond.code yX7_isNumber cX7_isNumber 1 (some .boolean), Cond.methodLink RX7 91 yX7_in, Cond.static yX7_in, Cond.code yX7_in cX7_in 3 (some .boolean), Cond.methodLink RX7 99 yX7_meets, Cond.instanceMethod yX7_meets, Cond.selects RX7 yX7_meets yX7_meets, Cond.code yX7_meets cX7_meets 2 (some .int), Cond.fieldLink RX7 83 "QuadWorldsModel" "finding" "I", Cond.fieldLink RX7 7 "QuadWorldsModel" "findings" "[I", Cond.methodLink RX7 171 yX7_faultOf, Cond.instanceMethod yX7_faultOf, Cond.selects RX7 yX7_faultOf yX7_faultOf, Cond.code yX7_faultOf cX7_faultOf 7 (some .int), Cond.fieldLink RX7 16 "QuadWorldsModel" "lineCount" "[I"]
def wsX7_fault_r2 : List Cond := [Cond.fieldLink RX7 25 "QuadWorldsModel" "lines" "[J", Cond.constantLong RX7 158 (100), Cond.methodLink RX7 116 yX7_bits, Cond.static yX7_bits, Cond.code yX7_bits cX7_bits 4 (some .int), Cond.methodLink RX7 133 yX7_has, Cond.static yX7_has, Cond.code yX7_has cX7_has 3 (some .boolean), Cond.methodLink RX7 181 yX7_ask, Cond.instanceMethod yX7_ask, Cond.selects RX7 yX7_ask yX7_ask, Cond.code yX7_ask cX7_ask 4 (some .int), Cond.fieldLink RX7 87 "QuadWorldsModel" "asked" "J"]
def wsX7_fault : List Cond := .code yX7_fault cX7_fault 4 (some .int) :: ((wsX7_fault_r1 ++ wsX7_fault_r2) ++ wsX70)
def wsX7_mean : List Cond := .code yX7_mean cX7_mean 5 (some .int) :: ([.fieldLink RX7 16 "QuadWorldsModel" "lineCount" "[I", .fieldLink RX7 25 "QuadWorldsModel" "lines" "[J", .methodLink RX7 137 yX7_looked, .instanceMethod yX7_looked, .selects RX7 yX7_looked yX7_looked, .initialized RX7, .code yX7_looked cX7_looked 2 (some .int), .fieldLink RX7 13 "QuadWorldsModel" "points" "[I", .methodLink RX7 95 yX7_isNumber, .static yX7_isNumber, .code yX7_isNumber cX7_isNumber 1 (some .boolean), .methodLink RX7 91 yX7_in, .static yX7_in, .code yX7_in cX7_in 3 (some .boolean), .methodLink RX7 99 yX7_meets, .instanceMethod yX7_meets, .selects RX7 yX7_meets yX7_meets, .code yX7_meets cX7_meets 2 (some .int), .fieldLink RX7 83 "QuadWorldsModel" "finding" "I", .fieldLink RX7 7 "QuadWorldsModel" "findings" "[I", .methodLink RX7 116 yX7_bits, .static yX7_bits, .code yX7_bits cX7_bits 4 (some .int)] ++ wsX70)
def wsX7_perp_r1 : List Cond := [Cond.constantLong RX7 131 (-1), Cond.methodLink RX7 137 yX7_looked, Cond.instanceMethod yX7_looked, Cond.selects RX7 yX7_looked yX7_looked, Cond.initialized RX7, Cond.code yX7_looked cX7_looked 2 (some .int), Cond.fieldLink RX7 13 "QuadWorldsModel" "points" "[I", Cond.methodLink RX7 95 yX7_isNumber, Cond.static yX7_isNumber, Cond.code yX7_isNumber cX7_isNumber 1 (some .boolean), Cond.methodLink RX7 91 yX7_in, Cond.static yX7_in, Cond.code yX7_in cX7_in 3 (some .boolean), Cond.methodLink RX7 99 yX7_meets, Cond.instanceMethod yX7_meets, Cond.selects RX7 yX7_meets yX7_meets, Cond.code yX7_meets cX7_meets 2 (some .int), Cond.fieldLink RX7 83 "QuadWorldsModel" "finding" "I", Cond.fieldLink RX7 7 "QuadWorldsModel" "findings" "[I", Cond.methodLink RX7 144 yX7_allOf, Cond.instanceMethod yX7_allOf, Cond.selects RX7 yX7_allOf yX7_allOf, Cond.code yX7_allOf cX7_allOf 2 (some .long), Cond.methodLink RX7 151 yX7_perpOf]
def wsX7_perp_r2 : List Cond := [Cond.instanceMethod yX7_perpOf, Cond.selects RX7 yX7_perpOf yX7_perpOf, Cond.code yX7_perpOf cX7_perpOf 7 (some .long), Cond.methodLink RX7 133 yX7_has, Cond.static yX7_has, Cond.code yX7_has cX7_has 3 (some .boolean), Cond.methodLink RX7 148 yX7_nearTo, Cond.instanceMethod yX7_nearTo, Cond.selects RX7 yX7_nearTo yX7_nearTo, Cond.code yX7_nearTo cX7_nearTo 6 (some .long), Cond.fieldLink RX7 16 "QuadWorldsModel" "lineCount" "[I", Cond.fieldLink RX7 25 "QuadWorldsModel" "lines" "[J", Cond.methodLink RX7 116 yX7_bits, Cond.static yX7_bits, Cond.code yX7_bits cX7_bits 4 (some .int), Cond.methodLink RX7 181 yX7_ask, Cond.instanceMethod yX7_ask, Cond.selects RX7 yX7_ask yX7_ask, Cond.code yX7_ask cX7_ask 4 (some .int), Cond.fieldLink RX7 87 "QuadWorldsModel" "asked" "J"]
def wsX7_perp : List Cond := .code yX7_perp cX7_perp 7 (some .int) :: ((wsX7_perp_r1 ++ wsX7_perp_r2) ++ wsX70)
def wsX7_span_r1 : List Cond := [Cond.methodLink RX7 137 yX7_looked, Cond.instanceMethod yX7_looked, Cond.selects RX7 yX7_looked yX7_looked, Cond.initialized RX7, Cond.code yX7_looked cX7_looked 2 (some .int), Cond.fieldLink RX7 13 "QuadWorldsModel" "points" "[I", Cond.methodLink RX7 95 yX7_isNumber, Cond.static yX7_isNumber, Cond.code yX7_isNumber cX7_isNumber 1 (some .boolean), Cond.methodLink RX7 91 yX7_in, Cond.static yX7_in, Cond.code yX7_in cX7_in 3 (some .boolean), Cond.methodLink RX7 99 yX7_meets, Cond.instanceMethod yX7_meets, Cond.selects RX7 yX7_meets yX7_meets, Cond.code yX7_meets cX7_meets 2 (some .int), Cond.fieldLink RX7 83 "QuadWorldsModel" "finding" "I", Cond.fieldLink RX7 7 "QuadWorldsModel" "findings" "[I", Cond.methodLink RX7 163 yX7_isPoint, Cond.instanceMethod yX7_isPoint, Cond.selects RX7 yX7_isPoint yX7_isPoint, Cond.code yX7_isPoint cX7_isPoint 3 (some .boolean), Cond.methodLink RX7 148 yX7_nearTo, Cond.instanceMethod yX7_nearTo]
def wsX7_span_r2 : List Cond := [Cond.selects RX7 yX7_nearTo yX7_nearTo, Cond.code yX7_nearTo cX7_nearTo 6 (some .long), Cond.fieldLink RX7 16 "QuadWorldsModel" "lineCount" "[I", Cond.fieldLink RX7 25 "QuadWorldsModel" "lines" "[J", Cond.methodLink RX7 133 yX7_has, Cond.static yX7_has, Cond.code yX7_has cX7_has 3 (some .boolean), Cond.methodLink RX7 155 yX7_spanOf, Cond.instanceMethod yX7_spanOf, Cond.selects RX7 yX7_spanOf yX7_spanOf, Cond.code yX7_spanOf cX7_spanOf 4 (some .long), Cond.methodLink RX7 151 yX7_perpOf, Cond.instanceMethod yX7_perpOf, Cond.selects RX7 yX7_perpOf yX7_perpOf, Cond.code yX7_perpOf cX7_perpOf 7 (some .long), Cond.constantLong RX7 131 (-1), Cond.methodLink RX7 144 yX7_allOf, Cond.instanceMethod yX7_allOf, Cond.selects RX7 yX7_allOf yX7_allOf, Cond.code yX7_allOf cX7_allOf 2 (some .long), Cond.methodLink RX7 116 yX7_bits, Cond.static yX7_bits, Cond.code yX7_bits cX7_bits 4 (some .int), Cond.methodLink RX7 181 yX7_ask]
def wsX7_span_r3 : List Cond := [Cond.instanceMethod yX7_ask, Cond.selects RX7 yX7_ask yX7_ask, Cond.code yX7_ask cX7_ask 4 (some .int), Cond.fieldLink RX7 87 "QuadWorldsModel" "asked" "J"]
def wsX7_span : List Cond := .code yX7_span cX7_span 7 (some .int) :: ((wsX7_span_r1 ++ (wsX7_span_r2 ++ wsX7_span_r3)) ++ wsX70)
def wsX7_regular_r1 : List Cond := [Cond.methodLink RX7 137 yX7_looked, Cond.instanceMethod yX7_looked, Cond.selects RX7 yX7_looked yX7_looked, Cond.initialized RX7, Cond.code yX7_looked cX7_looked 2 (some .int), Cond.fieldLink RX7 13 "QuadWorldsModel" "points" "[I", Cond.methodLink RX7 95 yX7_isNumber, Cond.static yX7_isNumber, Cond.code yX7_isNumber cX7_isNumber 1 (some .boolean), Cond.methodLink RX7 91 yX7_in, Cond.static yX7_in, Cond.code yX7_in cX7_in 3 (some .boolean), Cond.methodLink RX7 99 yX7_meets, Cond.instanceMethod yX7_meets, Cond.selects RX7 yX7_meets yX7_meets, Cond.code yX7_meets cX7_meets 2 (some .int), Cond.fieldLink RX7 83 "QuadWorldsModel" "finding" "I", Cond.fieldLink RX7 7 "QuadWorldsModel" "findings" "[I", Cond.methodLink RX7 163 yX7_isPoint, Cond.instanceMethod yX7_isPoint, Cond.selects RX7 yX7_isPoint yX7_isPoint, Cond.code yX7_isPoint cX7_isPoint 3 (some .boolean), Cond.methodLink RX7 167 yX7_orderOf, Cond.instanceMethod yX7_orderOf]
def wsX7_regular_r2 : List Cond := [Cond.selects RX7 yX7_orderOf yX7_orderOf, Cond.code yX7_orderOf cX7_orderOf 7 (some .int), Cond.fieldLink RX7 16 "QuadWorldsModel" "lineCount" "[I", Cond.fieldLink RX7 25 "QuadWorldsModel" "lines" "[J", Cond.methodLink RX7 140 yX7_through, Cond.instanceMethod yX7_through, Cond.selects RX7 yX7_through yX7_through, Cond.code yX7_through cX7_through 6 (some .long), Cond.methodLink RX7 133 yX7_has, Cond.static yX7_has, Cond.code yX7_has cX7_has 3 (some .boolean), Cond.methodLink RX7 116 yX7_bits, Cond.static yX7_bits, Cond.code yX7_bits cX7_bits 4 (some .int), Cond.methodLink RX7 174 yX7_isRegular, Cond.instanceMethod yX7_isRegular, Cond.selects RX7 yX7_isRegular yX7_isRegular, Cond.code yX7_isRegular cX7_isRegular 8 (some .boolean), Cond.methodLink RX7 148 yX7_nearTo, Cond.instanceMethod yX7_nearTo, Cond.selects RX7 yX7_nearTo yX7_nearTo, Cond.code yX7_nearTo cX7_nearTo 6 (some .long), Cond.methodLink RX7 155 yX7_spanOf, Cond.instanceMethod yX7_spanOf]
def wsX7_regular_r3 : List Cond := [Cond.selects RX7 yX7_spanOf yX7_spanOf, Cond.code yX7_spanOf cX7_spanOf 4 (some .long), Cond.methodLink RX7 151 yX7_perpOf, Cond.instanceMethod yX7_perpOf, Cond.selects RX7 yX7_perpOf yX7_perpOf, Cond.code yX7_perpOf cX7_perpOf 7 (some .long), Cond.constantLong RX7 131 (-1), Cond.methodLink RX7 144 yX7_allOf, Cond.instanceMethod yX7_allOf, Cond.selects RX7 yX7_allOf yX7_allOf, Cond.code yX7_allOf cX7_allOf 2 (some .long)]
def wsX7_regular : List Cond := .code yX7_regular cX7_regular 5 (some .int) :: ((wsX7_regular_r1 ++ (wsX7_regular_r2 ++ wsX7_regular_r3)) ++ wsX70)
def wsX7_centres_r1 : List Cond := [Cond.methodLink RX7 137 yX7_looked, Cond.instanceMethod yX7_looked, Cond.selects RX7 yX7_looked yX7_looked, Cond.initialized RX7, Cond.code yX7_looked cX7_looked 2 (some .int), Cond.fieldLink RX7 13 "QuadWorldsModel" "points" "[I", Cond.methodLink RX7 95 yX7_isNumber, Cond.static yX7_isNumber, Cond.code yX7_isNumber cX7_isNumber 1 (some .boolean), Cond.methodLink RX7 91 yX7_in, Cond.static yX7_in, Cond.code yX7_in cX7_in 3 (some .boolean), Cond.methodLink RX7 99 yX7_meets, Cond.instanceMethod yX7_meets, Cond.selects RX7 yX7_meets yX7_meets, Cond.code yX7_meets cX7_meets 2 (some .int), Cond.fieldLink RX7 83 "QuadWorldsModel" "finding" "I", Cond.fieldLink RX7 7 "QuadWorldsModel" "findings" "[I", Cond.methodLink RX7 163 yX7_isPoint, Cond.instanceMethod yX7_isPoint, Cond.selects RX7 yX7_isPoint yX7_isPoint, Cond.code yX7_isPoint cX7_isPoint 3 (some .boolean), Cond.methodLink RX7 151 yX7_perpOf, Cond.instanceMethod yX7_perpOf]
def wsX7_centres_r2 : List Cond := [Cond.selects RX7 yX7_perpOf yX7_perpOf, Cond.code yX7_perpOf cX7_perpOf 7 (some .long), Cond.constantLong RX7 131 (-1), Cond.methodLink RX7 144 yX7_allOf, Cond.instanceMethod yX7_allOf, Cond.selects RX7 yX7_allOf yX7_allOf, Cond.code yX7_allOf cX7_allOf 2 (some .long), Cond.methodLink RX7 133 yX7_has, Cond.static yX7_has, Cond.code yX7_has cX7_has 3 (some .boolean), Cond.methodLink RX7 148 yX7_nearTo, Cond.instanceMethod yX7_nearTo, Cond.selects RX7 yX7_nearTo yX7_nearTo, Cond.code yX7_nearTo cX7_nearTo 6 (some .long), Cond.fieldLink RX7 16 "QuadWorldsModel" "lineCount" "[I", Cond.fieldLink RX7 25 "QuadWorldsModel" "lines" "[J", Cond.methodLink RX7 116 yX7_bits, Cond.static yX7_bits, Cond.code yX7_bits cX7_bits 4 (some .int)]
def wsX7_centres : List Cond := .code yX7_centres cX7_centres 6 (some .int) :: ((wsX7_centres_r1 ++ wsX7_centres_r2) ++ wsX70)
def wsX7_meets__r1 : List Cond := [Cond.constantLong RX7 131 (-1), Cond.fieldLink RX7 16 "QuadWorldsModel" "lineCount" "[I", Cond.fieldLink RX7 25 "QuadWorldsModel" "lines" "[J", Cond.methodLink RX7 137 yX7_looked, Cond.instanceMethod yX7_looked, Cond.selects RX7 yX7_looked yX7_looked, Cond.initialized RX7, Cond.code yX7_looked cX7_looked 2 (some .int), Cond.fieldLink RX7 13 "QuadWorldsModel" "points" "[I", Cond.methodLink RX7 95 yX7_isNumber, Cond.static yX7_isNumber, Cond.code yX7_isNumber cX7_isNumber 1 (some .boolean), Cond.methodLink RX7 91 yX7_in, Cond.static yX7_in, Cond.code yX7_in cX7_in 3 (some .boolean), Cond.methodLink RX7 99 yX7_meets, Cond.instanceMethod yX7_meets, Cond.selects RX7 yX7_meets yX7_meets, Cond.code yX7_meets cX7_meets 2 (some .int), Cond.fieldLink RX7 83 "QuadWorldsModel" "finding" "I", Cond.fieldLink RX7 7 "QuadWorldsModel" "findings" "[I", Cond.methodLink RX7 144 yX7_allOf, Cond.instanceMethod yX7_allOf, Cond.selects RX7 yX7_allOf yX7_allOf]
def wsX7_meets__r2 : List Cond := [Cond.code yX7_allOf cX7_allOf 2 (some .long), Cond.methodLink RX7 116 yX7_bits, Cond.static yX7_bits, Cond.code yX7_bits cX7_bits 4 (some .int)]
def wsX7_meets_ : List Cond := .code yX7_meets_ cX7_meets_ 9 (some .int) :: ((wsX7_meets__r1 ++ wsX7_meets__r2) ++ wsX70)
def wsX7_setSeeking : List Cond := .code yX7_setSeeking cX7_setSeeking 5 none :: ([.fieldLink RX7 13 "QuadWorldsModel" "points" "[I", .fieldLink RX7 16 "QuadWorldsModel" "lineCount" "[I", .fieldLink RX7 185 "QuadWorldsModel" "things" "I", .fieldLink RX7 188 "QuadWorldsModel" "goals" "I", .fieldLink RX7 38 "QuadWorldsModel" "hits" "[J", .fieldLink RX7 25 "QuadWorldsModel" "lines" "[J", .fieldLink RX7 41 "QuadWorldsModel" "choices" "[J", .fieldLink RX7 35 "QuadWorldsModel" "bars" "[J", .methodLink RX7 140 yX7_through, .instanceMethod yX7_through, .selects RX7 yX7_through yX7_through, .initialized RX7, .code yX7_through cX7_through 6 (some .long), .methodLink RX7 133 yX7_has, .static yX7_has, .code yX7_has cX7_has 3 (some .boolean)] ++ wsX70)
def wsX7_goalAt : List Cond := .code yX7_goalAt cX7_goalAt 2 (some .int) :: ([.fieldLink RX7 188 "QuadWorldsModel" "goals" "I", .fieldLink RX7 50 "QuadWorldsModel" "met" "[J", .fieldLink RX7 191 "QuadWorldsModel" "level" "I", .methodLink RX7 133 yX7_has, .static yX7_has, .initialized RX7, .code yX7_has cX7_has 3 (some .boolean)] ++ wsX70)
def wsX7_next : List Cond := .code yX7_next cX7_next 5 (some .int) :: ([.fieldLink RX7 191 "QuadWorldsModel" "level" "I", .fieldLink RX7 47 "QuadWorldsModel" "barred" "[J", .fieldLink RX7 50 "QuadWorldsModel" "met" "[J", .fieldLink RX7 44 "QuadWorldsModel" "taken" "[I", .fieldLink RX7 188 "QuadWorldsModel" "goals" "I", .fieldLink RX7 185 "QuadWorldsModel" "things" "I", .fieldLink RX7 41 "QuadWorldsModel" "choices" "[J", .fieldLink RX7 198 "QuadWorldsModel" "tries" "I", .fieldLink RX7 35 "QuadWorldsModel" "bars" "[J", .fieldLink RX7 38 "QuadWorldsModel" "hits" "[J", .methodLink RX7 194 yX7_goalAt, .instanceMethod yX7_goalAt, .selects RX7 yX7_goalAt yX7_goalAt, .initialized RX7, .code yX7_goalAt cX7_goalAt 2 (some .int), .methodLink RX7 133 yX7_has, .static yX7_has, .code yX7_has cX7_has 3 (some .boolean)] ++ wsX70)
def wsX7_seek_r1 : List Cond := [Cond.constant RX7 201 (100000), Cond.fieldLink RX7 198 "QuadWorldsModel" "tries" "I", Cond.fieldLink RX7 191 "QuadWorldsModel" "level" "I", Cond.fieldLink RX7 44 "QuadWorldsModel" "taken" "[I", Cond.methodLink RX7 95 yX7_isNumber, Cond.static yX7_isNumber, Cond.initialized RX7, Cond.code yX7_isNumber cX7_isNumber 1 (some .boolean), Cond.methodLink RX7 91 yX7_in, Cond.static yX7_in, Cond.code yX7_in cX7_in 3 (some .boolean), Cond.methodLink RX7 137 yX7_looked, Cond.instanceMethod yX7_looked, Cond.selects RX7 yX7_looked yX7_looked, Cond.code yX7_looked cX7_looked 2 (some .int), Cond.fieldLink RX7 13 "QuadWorldsModel" "points" "[I", Cond.methodLink RX7 99 yX7_meets, Cond.instanceMethod yX7_meets, Cond.selects RX7 yX7_meets yX7_meets, Cond.code yX7_meets cX7_meets 2 (some .int), Cond.fieldLink RX7 83 "QuadWorldsModel" "finding" "I", Cond.fieldLink RX7 7 "QuadWorldsModel" "findings" "[I", Cond.methodLink RX7 202 yX7_setSeeking, Cond.instanceMethod yX7_setSeeking]
def wsX7_seek_r2 : List Cond := [Cond.selects RX7 yX7_setSeeking yX7_setSeeking, Cond.code yX7_setSeeking cX7_setSeeking 5 none, Cond.fieldLink RX7 16 "QuadWorldsModel" "lineCount" "[I", Cond.fieldLink RX7 185 "QuadWorldsModel" "things" "I", Cond.fieldLink RX7 188 "QuadWorldsModel" "goals" "I", Cond.fieldLink RX7 38 "QuadWorldsModel" "hits" "[J", Cond.fieldLink RX7 25 "QuadWorldsModel" "lines" "[J", Cond.fieldLink RX7 41 "QuadWorldsModel" "choices" "[J", Cond.fieldLink RX7 35 "QuadWorldsModel" "bars" "[J", Cond.methodLink RX7 140 yX7_through, Cond.instanceMethod yX7_through, Cond.selects RX7 yX7_through yX7_through, Cond.code yX7_through cX7_through 6 (some .long), Cond.methodLink RX7 133 yX7_has, Cond.static yX7_has, Cond.code yX7_has cX7_has 3 (some .boolean), Cond.methodLink RX7 206 yX7_next, Cond.instanceMethod yX7_next, Cond.selects RX7 yX7_next yX7_next, Cond.code yX7_next cX7_next 5 (some .int), Cond.fieldLink RX7 47 "QuadWorldsModel" "barred" "[J", Cond.fieldLink RX7 50 "QuadWorldsModel" "met" "[J", Cond.methodLink RX7 194 yX7_goalAt, Cond.instanceMethod yX7_goalAt]
def wsX7_seek_r3 : List Cond := [Cond.selects RX7 yX7_goalAt yX7_goalAt, Cond.code yX7_goalAt cX7_goalAt 2 (some .int), Cond.methodLink RX7 181 yX7_ask, Cond.instanceMethod yX7_ask, Cond.selects RX7 yX7_ask yX7_ask, Cond.code yX7_ask cX7_ask 4 (some .int), Cond.fieldLink RX7 87 "QuadWorldsModel" "asked" "J"]
def wsX7_seek : List Cond := .code yX7_seek cX7_seek 9 (some .int) :: ((wsX7_seek_r1 ++ (wsX7_seek_r2 ++ wsX7_seek_r3)) ++ wsX70)
def wsX7_ovoid_r1 : List Cond := [Cond.methodLink RX7 210 yX7_seek, Cond.instanceMethod yX7_seek, Cond.selects RX7 yX7_seek yX7_seek, Cond.initialized RX7, Cond.code yX7_seek cX7_seek 9 (some .int), Cond.constant RX7 201 (100000), Cond.fieldLink RX7 198 "QuadWorldsModel" "tries" "I", Cond.fieldLink RX7 191 "QuadWorldsModel" "level" "I", Cond.fieldLink RX7 44 "QuadWorldsModel" "taken" "[I", Cond.methodLink RX7 95 yX7_isNumber, Cond.static yX7_isNumber, Cond.code yX7_isNumber cX7_isNumber 1 (some .boolean), Cond.methodLink RX7 91 yX7_in, Cond.static yX7_in, Cond.code yX7_in cX7_in 3 (some .boolean), Cond.methodLink RX7 137 yX7_looked, Cond.instanceMethod yX7_looked, Cond.selects RX7 yX7_looked yX7_looked, Cond.code yX7_looked cX7_looked 2 (some .int), Cond.fieldLink RX7 13 "QuadWorldsModel" "points" "[I", Cond.methodLink RX7 99 yX7_meets, Cond.instanceMethod yX7_meets, Cond.selects RX7 yX7_meets yX7_meets, Cond.code yX7_meets cX7_meets 2 (some .int)]
def wsX7_ovoid_r2 : List Cond := [Cond.fieldLink RX7 83 "QuadWorldsModel" "finding" "I", Cond.fieldLink RX7 7 "QuadWorldsModel" "findings" "[I", Cond.methodLink RX7 202 yX7_setSeeking, Cond.instanceMethod yX7_setSeeking, Cond.selects RX7 yX7_setSeeking yX7_setSeeking, Cond.code yX7_setSeeking cX7_setSeeking 5 none, Cond.fieldLink RX7 16 "QuadWorldsModel" "lineCount" "[I", Cond.fieldLink RX7 185 "QuadWorldsModel" "things" "I", Cond.fieldLink RX7 188 "QuadWorldsModel" "goals" "I", Cond.fieldLink RX7 38 "QuadWorldsModel" "hits" "[J", Cond.fieldLink RX7 25 "QuadWorldsModel" "lines" "[J", Cond.fieldLink RX7 41 "QuadWorldsModel" "choices" "[J", Cond.fieldLink RX7 35 "QuadWorldsModel" "bars" "[J", Cond.methodLink RX7 140 yX7_through, Cond.instanceMethod yX7_through, Cond.selects RX7 yX7_through yX7_through, Cond.code yX7_through cX7_through 6 (some .long), Cond.methodLink RX7 133 yX7_has, Cond.static yX7_has, Cond.code yX7_has cX7_has 3 (some .boolean), Cond.methodLink RX7 206 yX7_next, Cond.instanceMethod yX7_next, Cond.selects RX7 yX7_next yX7_next, Cond.code yX7_next cX7_next 5 (some .int)]
def wsX7_ovoid_r3 : List Cond := [Cond.fieldLink RX7 47 "QuadWorldsModel" "barred" "[J", Cond.fieldLink RX7 50 "QuadWorldsModel" "met" "[J", Cond.methodLink RX7 194 yX7_goalAt, Cond.instanceMethod yX7_goalAt, Cond.selects RX7 yX7_goalAt yX7_goalAt, Cond.code yX7_goalAt cX7_goalAt 2 (some .int), Cond.methodLink RX7 181 yX7_ask, Cond.instanceMethod yX7_ask, Cond.selects RX7 yX7_ask yX7_ask, Cond.code yX7_ask cX7_ask 4 (some .int), Cond.fieldLink RX7 87 "QuadWorldsModel" "asked" "J"]
def wsX7_ovoid : List Cond := .code yX7_ovoid cX7_ovoid 3 (some .int) :: ((wsX7_ovoid_r1 ++ (wsX7_ovoid_r2 ++ wsX7_ovoid_r3)) ++ wsX70)
def wsX7_spread_r1 : List Cond := [Cond.methodLink RX7 210 yX7_seek, Cond.instanceMethod yX7_seek, Cond.selects RX7 yX7_seek yX7_seek, Cond.initialized RX7, Cond.code yX7_seek cX7_seek 9 (some .int), Cond.constant RX7 201 (100000), Cond.fieldLink RX7 198 "QuadWorldsModel" "tries" "I", Cond.fieldLink RX7 191 "QuadWorldsModel" "level" "I", Cond.fieldLink RX7 44 "QuadWorldsModel" "taken" "[I", Cond.methodLink RX7 95 yX7_isNumber, Cond.static yX7_isNumber, Cond.code yX7_isNumber cX7_isNumber 1 (some .boolean), Cond.methodLink RX7 91 yX7_in, Cond.static yX7_in, Cond.code yX7_in cX7_in 3 (some .boolean), Cond.methodLink RX7 137 yX7_looked, Cond.instanceMethod yX7_looked, Cond.selects RX7 yX7_looked yX7_looked, Cond.code yX7_looked cX7_looked 2 (some .int), Cond.fieldLink RX7 13 "QuadWorldsModel" "points" "[I", Cond.methodLink RX7 99 yX7_meets, Cond.instanceMethod yX7_meets, Cond.selects RX7 yX7_meets yX7_meets, Cond.code yX7_meets cX7_meets 2 (some .int)]
def wsX7_spread_r2 : List Cond := [Cond.fieldLink RX7 83 "QuadWorldsModel" "finding" "I", Cond.fieldLink RX7 7 "QuadWorldsModel" "findings" "[I", Cond.methodLink RX7 202 yX7_setSeeking, Cond.instanceMethod yX7_setSeeking, Cond.selects RX7 yX7_setSeeking yX7_setSeeking, Cond.code yX7_setSeeking cX7_setSeeking 5 none, Cond.fieldLink RX7 16 "QuadWorldsModel" "lineCount" "[I", Cond.fieldLink RX7 185 "QuadWorldsModel" "things" "I", Cond.fieldLink RX7 188 "QuadWorldsModel" "goals" "I", Cond.fieldLink RX7 38 "QuadWorldsModel" "hits" "[J", Cond.fieldLink RX7 25 "QuadWorldsModel" "lines" "[J", Cond.fieldLink RX7 41 "QuadWorldsModel" "choices" "[J", Cond.fieldLink RX7 35 "QuadWorldsModel" "bars" "[J", Cond.methodLink RX7 140 yX7_through, Cond.instanceMethod yX7_through, Cond.selects RX7 yX7_through yX7_through, Cond.code yX7_through cX7_through 6 (some .long), Cond.methodLink RX7 133 yX7_has, Cond.static yX7_has, Cond.code yX7_has cX7_has 3 (some .boolean), Cond.methodLink RX7 206 yX7_next, Cond.instanceMethod yX7_next, Cond.selects RX7 yX7_next yX7_next, Cond.code yX7_next cX7_next 5 (some .int)]
def wsX7_spread_r3 : List Cond := [Cond.fieldLink RX7 47 "QuadWorldsModel" "barred" "[J", Cond.fieldLink RX7 50 "QuadWorldsModel" "met" "[J", Cond.methodLink RX7 194 yX7_goalAt, Cond.instanceMethod yX7_goalAt, Cond.selects RX7 yX7_goalAt yX7_goalAt, Cond.code yX7_goalAt cX7_goalAt 2 (some .int), Cond.methodLink RX7 181 yX7_ask, Cond.instanceMethod yX7_ask, Cond.selects RX7 yX7_ask yX7_ask, Cond.code yX7_ask cX7_ask 4 (some .int), Cond.fieldLink RX7 87 "QuadWorldsModel" "asked" "J"]
def wsX7_spread : List Cond := .code yX7_spread cX7_spread 3 (some .int) :: ((wsX7_spread_r1 ++ (wsX7_spread_r2 ++ wsX7_spread_r3)) ++ wsX70)
def wsX7_ovoids_r1 : List Cond := [Cond.constant RX7 201 (100000), Cond.fieldLink RX7 198 "QuadWorldsModel" "tries" "I", Cond.methodLink RX7 95 yX7_isNumber, Cond.static yX7_isNumber, Cond.initialized RX7, Cond.code yX7_isNumber cX7_isNumber 1 (some .boolean), Cond.methodLink RX7 91 yX7_in, Cond.static yX7_in, Cond.code yX7_in cX7_in 3 (some .boolean), Cond.methodLink RX7 137 yX7_looked, Cond.instanceMethod yX7_looked, Cond.selects RX7 yX7_looked yX7_looked, Cond.code yX7_looked cX7_looked 2 (some .int), Cond.fieldLink RX7 13 "QuadWorldsModel" "points" "[I", Cond.methodLink RX7 99 yX7_meets, Cond.instanceMethod yX7_meets, Cond.selects RX7 yX7_meets yX7_meets, Cond.code yX7_meets cX7_meets 2 (some .int), Cond.fieldLink RX7 83 "QuadWorldsModel" "finding" "I", Cond.fieldLink RX7 7 "QuadWorldsModel" "findings" "[I", Cond.methodLink RX7 202 yX7_setSeeking, Cond.instanceMethod yX7_setSeeking, Cond.selects RX7 yX7_setSeeking yX7_setSeeking, Cond.code yX7_setSeeking cX7_setSeeking 5 none]
def wsX7_ovoids_r2 : List Cond := [Cond.fieldLink RX7 16 "QuadWorldsModel" "lineCount" "[I", Cond.fieldLink RX7 185 "QuadWorldsModel" "things" "I", Cond.fieldLink RX7 188 "QuadWorldsModel" "goals" "I", Cond.fieldLink RX7 38 "QuadWorldsModel" "hits" "[J", Cond.fieldLink RX7 25 "QuadWorldsModel" "lines" "[J", Cond.fieldLink RX7 41 "QuadWorldsModel" "choices" "[J", Cond.fieldLink RX7 35 "QuadWorldsModel" "bars" "[J", Cond.methodLink RX7 140 yX7_through, Cond.instanceMethod yX7_through, Cond.selects RX7 yX7_through yX7_through, Cond.code yX7_through cX7_through 6 (some .long), Cond.methodLink RX7 133 yX7_has, Cond.static yX7_has, Cond.code yX7_has cX7_has 3 (some .boolean), Cond.methodLink RX7 206 yX7_next, Cond.instanceMethod yX7_next, Cond.selects RX7 yX7_next yX7_next, Cond.code yX7_next cX7_next 5 (some .int), Cond.fieldLink RX7 191 "QuadWorldsModel" "level" "I", Cond.fieldLink RX7 47 "QuadWorldsModel" "barred" "[J", Cond.fieldLink RX7 50 "QuadWorldsModel" "met" "[J", Cond.fieldLink RX7 44 "QuadWorldsModel" "taken" "[I", Cond.methodLink RX7 194 yX7_goalAt, Cond.instanceMethod yX7_goalAt]
def wsX7_ovoids_r3 : List Cond := [Cond.selects RX7 yX7_goalAt yX7_goalAt, Cond.code yX7_goalAt cX7_goalAt 2 (some .int), Cond.methodLink RX7 181 yX7_ask, Cond.instanceMethod yX7_ask, Cond.selects RX7 yX7_ask yX7_ask, Cond.code yX7_ask cX7_ask 4 (some .int), Cond.fieldLink RX7 87 "QuadWorldsModel" "asked" "J"]
def wsX7_ovoids : List Cond := .code yX7_ovoids cX7_ovoids 7 (some .int) :: ((wsX7_ovoids_r1 ++ (wsX7_ovoids_r2 ++ wsX7_ovoids_r3)) ++ wsX70)
def wsX7_tries : List Cond := .code yX7_tries cX7_tries 1 (some .int) :: ([.fieldLink RX7 198 "QuadWorldsModel" "tries" "I"] ++ wsX70)
def wsX7_swap : List Cond := .code yX7_swap cX7_swap 5 none :: ([.fieldLink RX7 53 "QuadWorldsModel" "table" "[I"] ++ wsX70)
def wsX7_clear : List Cond := .code yX7_clear cX7_clear 9 none :: ([.fieldLink RX7 53 "QuadWorldsModel" "table" "[I"] ++ wsX70)
def wsX7_rank_r1 : List Cond := [Cond.fieldLink RX7 16 "QuadWorldsModel" "lineCount" "[I", Cond.fieldLink RX7 13 "QuadWorldsModel" "points" "[I", Cond.fieldLink RX7 53 "QuadWorldsModel" "table" "[I", Cond.fieldLink RX7 25 "QuadWorldsModel" "lines" "[J", Cond.methodLink RX7 137 yX7_looked, Cond.instanceMethod yX7_looked, Cond.selects RX7 yX7_looked yX7_looked, Cond.initialized RX7, Cond.code yX7_looked cX7_looked 2 (some .int), Cond.methodLink RX7 95 yX7_isNumber, Cond.static yX7_isNumber, Cond.code yX7_isNumber cX7_isNumber 1 (some .boolean), Cond.methodLink RX7 91 yX7_in, Cond.static yX7_in, Cond.code yX7_in cX7_in 3 (some .boolean), Cond.methodLink RX7 99 yX7_meets, Cond.instanceMethod yX7_meets, Cond.selects RX7 yX7_meets yX7_meets, Cond.code yX7_meets cX7_meets 2 (some .int), Cond.fieldLink RX7 83 "QuadWorldsModel" "finding" "I", Cond.fieldLink RX7 7 "QuadWorldsModel" "findings" "[I", Cond.methodLink RX7 133 yX7_has, Cond.static yX7_has, Cond.code yX7_has cX7_has 3 (some .boolean)]
def wsX7_rank_r2 : List Cond := [Cond.methodLink RX7 214 yX7_swap, Cond.instanceMethod yX7_swap, Cond.selects RX7 yX7_swap yX7_swap, Cond.code yX7_swap cX7_swap 5 none, Cond.methodLink RX7 218 yX7_clear, Cond.instanceMethod yX7_clear, Cond.selects RX7 yX7_clear yX7_clear, Cond.code yX7_clear cX7_clear 9 none]
def wsX7_rank : List Cond := .code yX7_rank cX7_rank 9 (some .int) :: ((wsX7_rank_r1 ++ wsX7_rank_r2) ++ wsX70)
def wsX7_maySend : List Cond := .code yX7_maySend cX7_maySend 5 (some .boolean) :: ([.fieldLink RX7 68 "QuadWorldsModel" "degrees" "[I", .fieldLink RX7 71 "QuadWorldsModel" "otherDegrees" "[I", .fieldLink RX7 59 "QuadWorldsModel" "goes" "[I", .fieldLink RX7 62 "QuadWorldsModel" "nears" "[J", .fieldLink RX7 65 "QuadWorldsModel" "otherNears" "[J", .methodLink RX7 133 yX7_has, .static yX7_has, .initialized RX7, .code yX7_has cX7_has 3 (some .boolean)] ++ wsX70)
def wsX7_isSent : List Cond := .code yX7_isSent cX7_isSent 10 (some .boolean) :: ([.fieldLink RX7 16 "QuadWorldsModel" "lineCount" "[I", .fieldLink RX7 13 "QuadWorldsModel" "points" "[I", .fieldLink RX7 25 "QuadWorldsModel" "lines" "[J", .fieldLink RX7 59 "QuadWorldsModel" "goes" "[I", .methodLink RX7 133 yX7_has, .static yX7_has, .initialized RX7, .code yX7_has cX7_has 3 (some .boolean)] ++ wsX70)
def wsX7_alike_r1 : List Cond := [Cond.constant RX7 201 (100000), Cond.fieldLink RX7 13 "QuadWorldsModel" "points" "[I", Cond.fieldLink RX7 198 "QuadWorldsModel" "tries" "I", Cond.fieldLink RX7 16 "QuadWorldsModel" "lineCount" "[I", Cond.fieldLink RX7 62 "QuadWorldsModel" "nears" "[J", Cond.fieldLink RX7 65 "QuadWorldsModel" "otherNears" "[J", Cond.fieldLink RX7 68 "QuadWorldsModel" "degrees" "[I", Cond.fieldLink RX7 71 "QuadWorldsModel" "otherDegrees" "[I", Cond.fieldLink RX7 59 "QuadWorldsModel" "goes" "[I", Cond.fieldLink RX7 56 "QuadWorldsModel" "sent" "[I", Cond.methodLink RX7 95 yX7_isNumber, Cond.static yX7_isNumber, Cond.initialized RX7, Cond.code yX7_isNumber cX7_isNumber 1 (some .boolean), Cond.methodLink RX7 91 yX7_in, Cond.static yX7_in, Cond.code yX7_in cX7_in 3 (some .boolean), Cond.methodLink RX7 99 yX7_meets, Cond.instanceMethod yX7_meets, Cond.selects RX7 yX7_meets yX7_meets, Cond.code yX7_meets cX7_meets 2 (some .int), Cond.fieldLink RX7 83 "QuadWorldsModel" "finding" "I", Cond.fieldLink RX7 7 "QuadWorldsModel" "findings" "[I", Cond.methodLink RX7 148 yX7_nearTo]
def wsX7_alike_r2 : List Cond := [Cond.instanceMethod yX7_nearTo, Cond.selects RX7 yX7_nearTo yX7_nearTo, Cond.code yX7_nearTo cX7_nearTo 6 (some .long), Cond.fieldLink RX7 25 "QuadWorldsModel" "lines" "[J", Cond.methodLink RX7 133 yX7_has, Cond.static yX7_has, Cond.code yX7_has cX7_has 3 (some .boolean), Cond.methodLink RX7 140 yX7_through, Cond.instanceMethod yX7_through, Cond.selects RX7 yX7_through yX7_through, Cond.code yX7_through cX7_through 6 (some .long), Cond.methodLink RX7 116 yX7_bits, Cond.static yX7_bits, Cond.code yX7_bits cX7_bits 4 (some .int), Cond.methodLink RX7 222 yX7_isSent, Cond.instanceMethod yX7_isSent, Cond.selects RX7 yX7_isSent yX7_isSent, Cond.code yX7_isSent cX7_isSent 10 (some .boolean), Cond.methodLink RX7 225 yX7_maySend, Cond.instanceMethod yX7_maySend, Cond.selects RX7 yX7_maySend yX7_maySend, Cond.code yX7_maySend cX7_maySend 5 (some .boolean)]
def wsX7_alike : List Cond := .code yX7_alike cX7_alike 7 (some .int) :: ((wsX7_alike_r1 ++ wsX7_alike_r2) ++ wsX70)
def wsX7_sent : List Cond := .code yX7_sent cX7_sent 2 (some .int) :: ([.fieldLink RX7 56 "QuadWorldsModel" "sent" "[I", .methodLink RX7 91 yX7_in, .static yX7_in, .initialized RX7, .code yX7_in cX7_in 3 (some .boolean)] ++ wsX70)
def wsX7_far_r1 : List Cond := [Cond.fieldLink RX7 13 "QuadWorldsModel" "points" "[I", Cond.methodLink RX7 137 yX7_looked, Cond.instanceMethod yX7_looked, Cond.selects RX7 yX7_looked yX7_looked, Cond.initialized RX7, Cond.code yX7_looked cX7_looked 2 (some .int), Cond.methodLink RX7 95 yX7_isNumber, Cond.static yX7_isNumber, Cond.code yX7_isNumber cX7_isNumber 1 (some .boolean), Cond.methodLink RX7 91 yX7_in, Cond.static yX7_in, Cond.code yX7_in cX7_in 3 (some .boolean), Cond.methodLink RX7 99 yX7_meets, Cond.instanceMethod yX7_meets, Cond.selects RX7 yX7_meets yX7_meets, Cond.code yX7_meets cX7_meets 2 (some .int), Cond.fieldLink RX7 83 "QuadWorldsModel" "finding" "I", Cond.fieldLink RX7 7 "QuadWorldsModel" "findings" "[I", Cond.methodLink RX7 163 yX7_isPoint, Cond.instanceMethod yX7_isPoint, Cond.selects RX7 yX7_isPoint yX7_isPoint, Cond.code yX7_isPoint cX7_isPoint 3 (some .boolean), Cond.methodLink RX7 133 yX7_has, Cond.static yX7_has]
def wsX7_far_r2 : List Cond := [Cond.code yX7_has cX7_has 3 (some .boolean), Cond.methodLink RX7 148 yX7_nearTo, Cond.instanceMethod yX7_nearTo, Cond.selects RX7 yX7_nearTo yX7_nearTo, Cond.code yX7_nearTo cX7_nearTo 6 (some .long), Cond.fieldLink RX7 16 "QuadWorldsModel" "lineCount" "[I", Cond.fieldLink RX7 25 "QuadWorldsModel" "lines" "[J"]
def wsX7_far : List Cond := .code yX7_far cX7_far 11 (some .int) :: ((wsX7_far_r1 ++ wsX7_far_r2) ++ wsX70)
def wsX7_askedRow : List Cond := .code yX7_askedRow cX7_askedRow 2 (some .int) :: ([.fieldLink RX7 74 "QuadWorldsModel" "sizes" "[I", .methodLink RX7 113 yX7_isRow, .static yX7_isRow, .initialized RX7, .code yX7_isRow cX7_isRow 1 (some .boolean), .methodLink RX7 91 yX7_in, .static yX7_in, .code yX7_in cX7_in 3 (some .boolean), .methodLink RX7 99 yX7_meets, .instanceMethod yX7_meets, .selects RX7 yX7_meets yX7_meets, .code yX7_meets cX7_meets 2 (some .int), .fieldLink RX7 83 "QuadWorldsModel" "finding" "I", .fieldLink RX7 7 "QuadWorldsModel" "findings" "[I"] ++ wsX70)
def wsX7_row : List Cond := .code yX7_row cX7_row 4 (some .int) :: ([.fieldLink RX7 74 "QuadWorldsModel" "sizes" "[I", .fieldLink RX7 77 "QuadWorldsModel" "rows" "[I", .methodLink RX7 113 yX7_isRow, .static yX7_isRow, .initialized RX7, .code yX7_isRow cX7_isRow 1 (some .boolean), .methodLink RX7 91 yX7_in, .static yX7_in, .code yX7_in cX7_in 3 (some .boolean), .methodLink RX7 99 yX7_meets, .instanceMethod yX7_meets, .selects RX7 yX7_meets yX7_meets, .code yX7_meets cX7_meets 2 (some .int), .fieldLink RX7 83 "QuadWorldsModel" "finding" "I", .fieldLink RX7 7 "QuadWorldsModel" "findings" "[I"] ++ wsX70)
def wsX7_lay : List Cond := .code yX7_lay cX7_lay 6 (some .int) :: ([.fieldLink RX7 74 "QuadWorldsModel" "sizes" "[I", .fieldLink RX7 77 "QuadWorldsModel" "rows" "[I", .methodLink RX7 228 yX7_askedRow, .instanceMethod yX7_askedRow, .selects RX7 yX7_askedRow yX7_askedRow, .initialized RX7, .code yX7_askedRow cX7_askedRow 2 (some .int), .methodLink RX7 113 yX7_isRow, .static yX7_isRow, .code yX7_isRow cX7_isRow 1 (some .boolean), .methodLink RX7 91 yX7_in, .static yX7_in, .code yX7_in cX7_in 3 (some .boolean), .methodLink RX7 99 yX7_meets, .instanceMethod yX7_meets, .selects RX7 yX7_meets yX7_meets, .code yX7_meets cX7_meets 2 (some .int), .fieldLink RX7 83 "QuadWorldsModel" "finding" "I", .fieldLink RX7 7 "QuadWorldsModel" "findings" "[I"] ++ wsX70)
def wsX7_tear : List Cond := .code yX7_tear cX7_tear 3 (some .int) :: ([.fieldLink RX7 74 "QuadWorldsModel" "sizes" "[I", .methodLink RX7 228 yX7_askedRow, .instanceMethod yX7_askedRow, .selects RX7 yX7_askedRow yX7_askedRow, .initialized RX7, .code yX7_askedRow cX7_askedRow 2 (some .int), .methodLink RX7 113 yX7_isRow, .static yX7_isRow, .code yX7_isRow cX7_isRow 1 (some .boolean), .methodLink RX7 91 yX7_in, .static yX7_in, .code yX7_in cX7_in 3 (some .boolean), .methodLink RX7 99 yX7_meets, .instanceMethod yX7_meets, .selects RX7 yX7_meets yX7_meets, .code yX7_meets cX7_meets 2 (some .int), .fieldLink RX7 83 "QuadWorldsModel" "finding" "I", .fieldLink RX7 7 "QuadWorldsModel" "findings" "[I"] ++ wsX70)
def wsX7_copy : List Cond := .code yX7_copy cX7_copy 7 (some .int) :: ([.fieldLink RX7 74 "QuadWorldsModel" "sizes" "[I", .fieldLink RX7 80 "QuadWorldsModel" "moving" "[I", .fieldLink RX7 77 "QuadWorldsModel" "rows" "[I", .methodLink RX7 113 yX7_isRow, .static yX7_isRow, .initialized RX7, .code yX7_isRow cX7_isRow 1 (some .boolean), .methodLink RX7 91 yX7_in, .static yX7_in, .code yX7_in cX7_in 3 (some .boolean), .methodLink RX7 99 yX7_meets, .instanceMethod yX7_meets, .selects RX7 yX7_meets yX7_meets, .code yX7_meets cX7_meets 2 (some .int), .fieldLink RX7 83 "QuadWorldsModel" "finding" "I", .fieldLink RX7 7 "QuadWorldsModel" "findings" "[I"] ++ wsX70)
def wsX7_asked : List Cond := .code yX7_asked cX7_asked 1 (some .long) :: ([.fieldLink RX7 87 "QuadWorldsModel" "asked" "J"] ++ wsX70)
def wsX7_count : List Cond := .code yX7_count cX7_count 4 (some .int) :: ([.fieldLink RX7 13 "QuadWorldsModel" "points" "[I", .fieldLink RX7 16 "QuadWorldsModel" "lineCount" "[I", .fieldLink RX7 74 "QuadWorldsModel" "sizes" "[I", .methodLink RX7 91 yX7_in, .static yX7_in, .initialized RX7, .code yX7_in cX7_in 3 (some .boolean)] ++ wsX70)
def wsX7_finding : List Cond := .code yX7_finding cX7_finding 1 (some .int) :: ([.fieldLink RX7 83 "QuadWorldsModel" "finding" "I"] ++ wsX70)
def wsX7_findings : List Cond := .code yX7_findings cX7_findings 2 (some .int) :: ([.fieldLink RX7 7 "QuadWorldsModel" "findings" "[I", .methodLink RX7 91 yX7_in, .static yX7_in, .initialized RX7, .code yX7_in cX7_in 3 (some .boolean)] ++ wsX70)
def wsX7_digest : List Cond := .code yX7_digest cX7_digest 5 (some .long) :: ([.constantLong RX7 231 (17), .fieldLink RX7 13 "QuadWorldsModel" "points" "[I", .constantLong RX7 233 (31), .fieldLink RX7 16 "QuadWorldsModel" "lineCount" "[I", .fieldLink RX7 19 "QuadWorldsModel" "kinds" "[I", .fieldLink RX7 25 "QuadWorldsModel" "lines" "[J", .fieldLink RX7 74 "QuadWorldsModel" "sizes" "[I", .fieldLink RX7 77 "QuadWorldsModel" "rows" "[I"] ++ wsX70)
def wsJ9_max_7cf53 : List Cond := .code yJ9_max_7cf53 cJ9_max_7cf53 2 (some .int) :: ([])
def wsJ9_min_7cf53 : List Cond := .code yJ9_min_7cf53 cJ9_min_7cf53 2 (some .int) :: ([])
def wsL_law_r1 : List Cond := [Cond.classLink RL 7 RX6, Cond.instantiable RX6 13, Cond.initialized RX6, Cond.classLink RL 10 RX7, Cond.instantiable RX7 33, Cond.initialized RX7, Cond.constantLong RL 39 (4294967295), Cond.methodLink RL 9 yX6_init, Cond.instanceMethod yX6_init, Cond.code yX6_init cX6_init 2 none, Cond.methodLink RX6 1 objectInit, Cond.instanceMethod objectInit, Cond.code objectInit ⟨#[0xb1]⟩ 1 none, Cond.classLink RX6 9 RX5, Cond.fieldLink RX6 11 "QuadWorlds" "worlds" "[LQuadWorlds$World;", Cond.classLink RX6 15 "[[I", Cond.arrayClass .int, Cond.fieldLink RX6 17 "QuadWorlds" "rowPlaces" "[[I", Cond.fieldLink RX6 20 "QuadWorlds" "rowSizes" "[I", Cond.fieldLink RX6 24 "QuadWorlds" "findingTimes" "[I", Cond.fieldLink RX6 27 "QuadWorlds" "sentTo" "[I", Cond.fieldLink RX6 30 "QuadWorlds" "rankCells" "[I", Cond.classLink RX6 33 RX4, Cond.instantiable RX4 9]
def wsL_law_r2 : List Cond := [Cond.initialized RX4, Cond.fieldLink RX6 36 "QuadWorlds" "seeker" "LQuadWorlds$Seeker;", Cond.classLink RX6 40 RX2, Cond.instantiable RX2 7, Cond.initialized RX2, Cond.fieldLink RX6 43 "QuadWorlds" "matcher" "LQuadWorlds$Matcher;", Cond.instantiable RX5 8, Cond.initialized RX5, Cond.fieldLink RX6 48 "QuadWorlds" "spare" "LQuadWorlds$World;", Cond.instanceMethod yX4_init, Cond.code yX4_init cX4_init 1 none, Cond.methodLink RX4 3 objectInit, Cond.arrayClass .long, Cond.fieldLink RX4 9 "QuadWorlds$Seeker" "met" "[J", Cond.fieldLink RX4 15 "QuadWorlds$Seeker" "taken" "[J", Cond.fieldLink RX4 18 "QuadWorlds$Seeker" "left" "[J", Cond.instanceMethod yX2_init, Cond.code yX2_init cX2_init 1 none, Cond.methodLink RX2 3 objectInit, Cond.fieldLink RX2 9 "QuadWorlds$Matcher" "images" "[I", Cond.fieldLink RX2 15 "QuadWorlds$Matcher" "used" "[J", Cond.fieldLink RX2 19 "QuadWorlds$Matcher" "left" "[J", Cond.instanceMethod yX5_init, Cond.code yX5_init cX5_init 1 none]
def wsL_law_r3 : List Cond := [Cond.methodLink RX5 3 objectInit, Cond.fieldLink RX5 9 "QuadWorlds$World" "sets" "[J", Cond.fieldLink RX5 15 "QuadWorlds$World" "through" "[J", Cond.fieldLink RX5 18 "QuadWorlds$World" "near" "[J", Cond.methodLink RL 12 yX7_init, Cond.instanceMethod yX7_init, Cond.code yX7_init cX7_init 2 none, Cond.methodLink RX7 1 objectInit, Cond.fieldLink RX7 7 "QuadWorldsModel" "findings" "[I", Cond.fieldLink RX7 13 "QuadWorldsModel" "points" "[I", Cond.fieldLink RX7 16 "QuadWorldsModel" "lineCount" "[I", Cond.fieldLink RX7 19 "QuadWorldsModel" "kinds" "[I", Cond.fieldLink RX7 22 "QuadWorldsModel" "marks" "[I", Cond.fieldLink RX7 25 "QuadWorldsModel" "lines" "[J", Cond.fieldLink RX7 29 "QuadWorldsModel" "newRow" "[J", Cond.fieldLink RX7 32 "QuadWorldsModel" "letters" "[I", Cond.fieldLink RX7 35 "QuadWorldsModel" "bars" "[J", Cond.fieldLink RX7 38 "QuadWorldsModel" "hits" "[J", Cond.fieldLink RX7 41 "QuadWorldsModel" "choices" "[J", Cond.fieldLink RX7 44 "QuadWorldsModel" "taken" "[I", Cond.fieldLink RX7 47 "QuadWorldsModel" "barred" "[J", Cond.fieldLink RX7 50 "QuadWorldsModel" "met" "[J", Cond.fieldLink RX7 53 "QuadWorldsModel" "table" "[I", Cond.fieldLink RX7 56 "QuadWorldsModel" "sent" "[I"]
def wsL_law_r4 : List Cond := [Cond.fieldLink RX7 59 "QuadWorldsModel" "goes" "[I", Cond.fieldLink RX7 62 "QuadWorldsModel" "nears" "[J", Cond.fieldLink RX7 65 "QuadWorldsModel" "otherNears" "[J", Cond.fieldLink RX7 68 "QuadWorldsModel" "degrees" "[I", Cond.fieldLink RX7 71 "QuadWorldsModel" "otherDegrees" "[I", Cond.fieldLink RX7 74 "QuadWorldsModel" "sizes" "[I", Cond.fieldLink RX7 77 "QuadWorldsModel" "rows" "[I", Cond.fieldLink RX7 80 "QuadWorldsModel" "moving" "[I", Cond.methodLink RL 13 yX6_world, Cond.instanceMethod yX6_world, Cond.selects RX6 yX6_world yX6_world, Cond.code yX6_world cX6_world 3 (some .int), Cond.methodLink RX6 52 yX6_isWorldNumber, Cond.static yX6_isWorldNumber, Cond.code yX6_isWorldNumber cX6_isWorldNumber 1 (some .boolean), Cond.methodLink RX6 56 yX5_begin, Cond.instanceMethod yX5_begin, Cond.selects RX5 yX5_begin yX5_begin, Cond.code yX5_begin cX5_begin 5 none, Cond.fieldLink RX5 21 "QuadWorlds$World" "there" "Z", Cond.fieldLink RX5 25 "QuadWorlds$World" "kind" "I", Cond.fieldLink RX5 29 "QuadWorlds$World" "size" "I", Cond.fieldLink RX5 32 "QuadWorlds$World" "tag" "I", Cond.fieldLink RX5 35 "QuadWorlds$World" "lineCount" "I"]
def wsL_law_r5 : List Cond := [Cond.methodLink RL 17 yX7_world, Cond.instanceMethod yX7_world, Cond.selects RX7 yX7_world yX7_world, Cond.code yX7_world cX7_world 3 (some .int), Cond.fieldLink RX7 103 "QuadWorldsModel" "newPoints" "I", Cond.fieldLink RX7 106 "QuadWorldsModel" "newLines" "I", Cond.methodLink RX7 95 yX7_isNumber, Cond.static yX7_isNumber, Cond.code yX7_isNumber cX7_isNumber 1 (some .boolean), Cond.methodLink RX7 91 yX7_in, Cond.static yX7_in, Cond.code yX7_in cX7_in 3 (some .boolean), Cond.methodLink RX7 109 yX7_keep, Cond.instanceMethod yX7_keep, Cond.selects RX7 yX7_keep yX7_keep, Cond.code yX7_keep cX7_keep 5 (some .int), Cond.methodLink RL 18 yX6_line, Cond.instanceMethod yX6_line, Cond.selects RX6 yX6_line yX6_line, Cond.code yX6_line cX6_line 6 (some .int), Cond.methodLink RX6 60 yX6_isRowNumber, Cond.static yX6_isRowNumber, Cond.code yX6_isRowNumber cX6_isRowNumber 1 (some .boolean), Cond.methodLink RX6 71 yX6_refused]
def wsL_law_r6 : List Cond := [Cond.instanceMethod yX6_refused, Cond.selects RX6 yX6_refused yX6_refused, Cond.code yX6_refused cX6_refused 2 (some .int), Cond.fieldLink RX6 250 "QuadWorlds" "latestFinding" "I", Cond.methodLink RX6 78 yX6_rowHasPointsOf, Cond.instanceMethod yX6_rowHasPointsOf, Cond.selects RX6 yX6_rowHasPointsOf yX6_rowHasPointsOf, Cond.code yX6_rowHasPointsOf cX6_rowHasPointsOf 4 (some .boolean), Cond.methodLink RX6 120 yX5_hasPoint, Cond.instanceMethod yX5_hasPoint, Cond.selects RX5 yX5_hasPoint yX5_hasPoint, Cond.code yX5_hasPoint cX5_hasPoint 2 (some .boolean), Cond.methodLink RX6 82 yX6_setOfRow, Cond.instanceMethod yX6_setOfRow, Cond.selects RX6 yX6_setOfRow yX6_setOfRow, Cond.code yX6_setOfRow cX6_setOfRow 5 (some .long), Cond.methodLink RX6 86 yJ13_bitCount_95d88, Cond.static yJ13_bitCount_95d88, Cond.initialized RJ13, Cond.code yJ13_bitCount_95d88 cJ13_bitCount_95d88 2 (some .int), Cond.constantLong RJ13 314 (6148914691236517205), Cond.constantLong RJ13 316 (3689348814741910323), Cond.constantLong RJ13 318 (1085102592571150095), Cond.methodLink RX6 92 yX5_add]
def wsL_law_r7 : List Cond := [Cond.instanceMethod yX5_add, Cond.selects RX5 yX5_add yX5_add, Cond.code yX5_add cX5_add 4 (some .boolean), Cond.static yX6_has, Cond.code yX6_has cX6_has 3 (some .boolean), Cond.methodLink RL 21 yX7_line, Cond.instanceMethod yX7_line, Cond.selects RX7 yX7_line yX7_line, Cond.code yX7_line cX7_line 8 (some .int), Cond.methodLink RX7 113 yX7_isRow, Cond.static yX7_isRow, Cond.code yX7_isRow cX7_isRow 1 (some .boolean), Cond.methodLink RX7 99 yX7_meets, Cond.instanceMethod yX7_meets, Cond.selects RX7 yX7_meets yX7_meets, Cond.code yX7_meets cX7_meets 2 (some .int), Cond.fieldLink RX7 83 "QuadWorldsModel" "finding" "I", Cond.methodLink RX7 116 yX7_bits, Cond.static yX7_bits, Cond.code yX7_bits cX7_bits 4 (some .int), Cond.methodLink RL 22 yX6_grid, Cond.instanceMethod yX6_grid, Cond.selects RX6 yX6_grid yX6_grid, Cond.code yX6_grid cX6_grid 4 (some .int)]
def wsL_law_r8 : List Cond := [Cond.methodLink RX6 96 yX1_makeGrid, Cond.static yX1_makeGrid, Cond.initialized RX1, Cond.code yX1_makeGrid cX1_makeGrid 7 none, Cond.methodLink RX1 9 yX5_begin, Cond.static yX6_below, Cond.code yX6_below cX6_below 1 (some .long), Cond.methodLink RX1 19 yX5_add, Cond.methodLink RL 26 yX7_grid, Cond.instanceMethod yX7_grid, Cond.selects RX7 yX7_grid yX7_grid, Cond.code yX7_grid cX7_grid 8 (some .int), Cond.methodLink RX7 120 yX7_add, Cond.instanceMethod yX7_add, Cond.selects RX7 yX7_add yX7_add, Cond.code yX7_add cX7_add 3 none, Cond.methodLink RL 27 yX6_form, Cond.instanceMethod yX6_form, Cond.selects RX6 yX6_form yX6_form, Cond.code yX6_form cX6_form 3 (some .int), Cond.methodLink RX6 105 yX1_makeForm, Cond.static yX1_makeForm, Cond.code yX1_makeForm cX1_makeForm 8 none, Cond.methodLink RX1 27 yX1_isFormPoint]
def wsL_law_r9 : List Cond := [Cond.static yX1_isFormPoint, Cond.code yX1_isFormPoint cX1_isFormPoint 5 (some .boolean), Cond.methodLink RX1 37 yX1_nearByForm, Cond.static yX1_nearByForm, Cond.code yX1_nearByForm cX1_nearByForm 7 (some .long), Cond.methodLink RX1 44 yX1_isZeroForm, Cond.static yX1_isZeroForm, Cond.code yX1_isZeroForm cX1_isZeroForm 11 (some .boolean), Cond.methodLink RX1 41 yX5_areNear, Cond.instanceMethod yX5_areNear, Cond.selects RX5 yX5_areNear yX5_areNear, Cond.code yX5_areNear cX5_areNear 3 (some .boolean), Cond.methodLink RL 30 yX7_form, Cond.instanceMethod yX7_form, Cond.selects RX7 yX7_form yX7_form, Cond.code yX7_form cX7_form 8 (some .int), Cond.constantLong RX7 131 (-1), Cond.methodLink RX7 124 yX7_isPerp, Cond.instanceMethod yX7_isPerp, Cond.selects RX7 yX7_isPerp yX7_isPerp, Cond.code yX7_isPerp cX7_isPerp 5 (some .boolean), Cond.methodLink RX7 127 yX7_lineOf, Cond.instanceMethod yX7_lineOf, Cond.selects RX7 yX7_lineOf yX7_lineOf]
def wsL_law_r10 : List Cond := [Cond.code yX7_lineOf cX7_lineOf 11 (some .long), Cond.methodLink RL 31 yX6_dual, Cond.instanceMethod yX6_dual, Cond.selects RX6 yX6_dual yX6_dual, Cond.code yX6_dual cX6_dual 4 (some .int), Cond.methodLink RX6 109 yX5_leastThrough, Cond.instanceMethod yX5_leastThrough, Cond.selects RX5 yX5_leastThrough yX5_leastThrough, Cond.code yX5_leastThrough cX5_leastThrough 3 (some .int), Cond.methodLink RX5 70 Lib.Math.min.name, Cond.static Lib.Math.min.name, Cond.initialized "java/lang/Math", Cond.code Lib.Math.min.name Lib.Math.min.code 2 (some .int), Cond.methodLink RX5 64 yJ13_bitCount_95d88, Cond.methodLink RX6 113 yX1_makeTurned, Cond.static yX1_makeTurned, Cond.code yX1_makeTurned cX1_makeTurned 3 none, Cond.methodLink RX6 117 yX6_putSpare, Cond.instanceMethod yX6_putSpare, Cond.selects RX6 yX6_putSpare yX6_putSpare, Cond.code yX6_putSpare cX6_putSpare 3 (some .int), Cond.methodLink RL 34 yX7_dual, Cond.instanceMethod yX7_dual, Cond.selects RX7 yX7_dual yX7_dual]
def wsL_law_r11 : List Cond := [Cond.code yX7_dual cX7_dual 6 (some .int), Cond.methodLink RX7 137 yX7_looked, Cond.instanceMethod yX7_looked, Cond.selects RX7 yX7_looked yX7_looked, Cond.code yX7_looked cX7_looked 2 (some .int), Cond.methodLink RX7 140 yX7_through, Cond.instanceMethod yX7_through, Cond.selects RX7 yX7_through yX7_through, Cond.code yX7_through cX7_through 6 (some .long), Cond.methodLink RX7 133 yX7_has, Cond.static yX7_has, Cond.code yX7_has cX7_has 3 (some .boolean), Cond.methodLink RL 35 yX6_derive, Cond.instanceMethod yX6_derive, Cond.selects RX6 yX6_derive yX6_derive, Cond.code yX6_derive cX6_derive 6 (some .int), Cond.methodLink RX6 123 yX5_orderOfLines, Cond.instanceMethod yX5_orderOfLines, Cond.selects RX5 yX5_orderOfLines yX5_orderOfLines, Cond.code yX5_orderOfLines cX5_orderOfLines 3 (some .int), Cond.methodLink RX6 126 yX5_orderOfPoints, Cond.instanceMethod yX5_orderOfPoints, Cond.selects RX5 yX5_orderOfPoints yX5_orderOfPoints, Cond.code yX5_orderOfPoints cX5_orderOfPoints 3 (some .int)]
def wsL_law_r12 : List Cond := [Cond.methodLink RX6 129 yX0_firstOf, Cond.static yX0_firstOf, Cond.initialized RX0, Cond.code yX0_firstOf cX0_firstOf 2 (some .int), Cond.methodLink RX0 7 yX0_firstPair, Cond.static yX0_firstPair, Cond.code yX0_firstPair cX0_firstPair 3 (some .int), Cond.methodLink RX0 26 yJ13_bitCount_95d88, Cond.methodLink RX0 13 yX0_firstMeeting, Cond.static yX0_firstMeeting, Cond.code yX0_firstMeeting cX0_firstMeeting 6 (some .int), Cond.methodLink RX0 32 yX5_linesMeeting, Cond.instanceMethod yX5_linesMeeting, Cond.selects RX5 yX5_linesMeeting yX5_linesMeeting, Cond.code yX5_linesMeeting cX5_linesMeeting 6 (some .long), Cond.methodLink RX6 135 yX5_isRegular, Cond.instanceMethod yX5_isRegular, Cond.selects RX5 yX5_isRegular yX5_isRegular, Cond.code yX5_isRegular cX5_isRegular 4 (some .boolean), Cond.methodLink RX5 52 yX5_orderOfPoints, Cond.methodLink RX5 56 yX5_areNear, Cond.methodLink RX5 60 yX5_spanSet, Cond.instanceMethod yX5_spanSet, Cond.selects RX5 yX5_spanSet yX5_spanSet]
def wsL_law_r13 : List Cond := [Cond.code yX5_spanSet cX5_spanSet 3 (some .long), Cond.methodLink RX5 48 yX5_nearToAll, Cond.instanceMethod yX5_nearToAll, Cond.selects RX5 yX5_nearToAll yX5_nearToAll, Cond.code yX5_nearToAll cX5_nearToAll 6 (some .long), Cond.methodLink RX6 138 yX1_makeAbout, Cond.static yX1_makeAbout, Cond.code yX1_makeAbout cX1_makeAbout 8 (some .boolean), Cond.constantLong RX1 54 (-1), Cond.methodLink RX1 56 yJ13_bitCount_95d88, Cond.methodLink RX1 69 yX1_renumbered, Cond.static yX1_renumbered, Cond.code yX1_renumbered cX1_renumbered 8 (some .long), Cond.methodLink RX1 73 yX5_spanSet, Cond.methodLink RL 38 yX7_derive, Cond.instanceMethod yX7_derive, Cond.selects RX7 yX7_derive yX7_derive, Cond.code yX7_derive cX7_derive 13 (some .int), Cond.methodLink RX7 163 yX7_isPoint, Cond.instanceMethod yX7_isPoint, Cond.selects RX7 yX7_isPoint yX7_isPoint, Cond.code yX7_isPoint cX7_isPoint 3 (some .boolean), Cond.methodLink RX7 167 yX7_orderOf, Cond.instanceMethod yX7_orderOf]
def wsL_law_r14 : List Cond := [Cond.selects RX7 yX7_orderOf yX7_orderOf, Cond.code yX7_orderOf cX7_orderOf 7 (some .int), Cond.methodLink RX7 171 yX7_faultOf, Cond.instanceMethod yX7_faultOf, Cond.selects RX7 yX7_faultOf yX7_faultOf, Cond.code yX7_faultOf cX7_faultOf 7 (some .int), Cond.constantLong RX7 158 (100), Cond.fieldLink RX7 160 "QuadWorldsModel" "faultAt" "J", Cond.methodLink RX7 174 yX7_isRegular, Cond.instanceMethod yX7_isRegular, Cond.selects RX7 yX7_isRegular yX7_isRegular, Cond.code yX7_isRegular cX7_isRegular 8 (some .boolean), Cond.methodLink RX7 148 yX7_nearTo, Cond.instanceMethod yX7_nearTo, Cond.selects RX7 yX7_nearTo yX7_nearTo, Cond.code yX7_nearTo cX7_nearTo 6 (some .long), Cond.methodLink RX7 155 yX7_spanOf, Cond.instanceMethod yX7_spanOf, Cond.selects RX7 yX7_spanOf yX7_spanOf, Cond.code yX7_spanOf cX7_spanOf 4 (some .long), Cond.methodLink RX7 151 yX7_perpOf, Cond.instanceMethod yX7_perpOf, Cond.selects RX7 yX7_perpOf yX7_perpOf, Cond.code yX7_perpOf cX7_perpOf 7 (some .long)]
def wsL_law_r15 : List Cond := [Cond.methodLink RX7 144 yX7_allOf, Cond.instanceMethod yX7_allOf, Cond.selects RX7 yX7_allOf yX7_allOf, Cond.code yX7_allOf cX7_allOf 2 (some .long), Cond.methodLink RX7 177 yX7_closed, Cond.static yX7_closed, Cond.code yX7_closed cX7_closed 8 (some .long), Cond.methodLink RL 41 yX6_part, Cond.instanceMethod yX6_part, Cond.selects RX6 yX6_part yX6_part, Cond.code yX6_part cX6_part 6 (some .int), Cond.methodLink RX6 142 yX5_hasAll, Cond.instanceMethod yX5_hasAll, Cond.selects RX5 yX5_hasAll yX5_hasAll, Cond.code yX5_hasAll cX5_hasAll 3 (some .boolean), Cond.constantLong RX5 46 (-1), Cond.methodLink RX6 145 yX5_mostOnLine, Cond.instanceMethod yX5_mostOnLine, Cond.selects RX5 yX5_mostOnLine yX5_mostOnLine, Cond.code yX5_mostOnLine cX5_mostOnLine 5 (some .int), Cond.methodLink RX5 76 Lib.Math.max.name, Cond.static Lib.Math.max.name, Cond.code Lib.Math.max.name Lib.Math.max.code 2 (some .int), Cond.methodLink RX6 148 yX1_makePart]
def wsL_law_r16 : List Cond := [Cond.static yX1_makePart, Cond.code yX1_makePart cX1_makePart 5 none, Cond.methodLink RL 45 yX7_part, Cond.instanceMethod yX7_part, Cond.selects RX7 yX7_part yX7_part, Cond.code yX7_part cX7_part 7 (some .int), Cond.methodLink RL 46 yX6_drop, Cond.instanceMethod yX6_drop, Cond.selects RX6 yX6_drop yX6_drop, Cond.code yX6_drop cX6_drop 2 (some .int), Cond.methodLink RL 50 yX7_drop, Cond.instanceMethod yX7_drop, Cond.selects RX7 yX7_drop yX7_drop, Cond.code yX7_drop cX7_drop 3 (some .int), Cond.methodLink RL 51 yX6_told, Cond.instanceMethod yX6_told, Cond.selects RX6 yX6_told yX6_told, Cond.code yX6_told cX6_told 4 (some .int), Cond.methodLink RL 54 yX7_told, Cond.instanceMethod yX7_told, Cond.selects RX7 yX7_told yX7_told, Cond.code yX7_told cX7_told 4 (some .int), Cond.methodLink RL 55 yX6_mark, Cond.instanceMethod yX6_mark]
def wsL_law_r17 : List Cond := [Cond.selects RX6 yX6_mark yX6_mark, Cond.code yX6_mark cX6_mark 4 (some .int), Cond.methodLink RL 58 yX7_mark, Cond.instanceMethod yX7_mark, Cond.selects RX7 yX7_mark yX7_mark, Cond.code yX7_mark cX7_mark 4 (some .int), Cond.methodLink RL 59 yX6_points, Cond.instanceMethod yX6_points, Cond.selects RX6 yX6_points yX6_points, Cond.code yX6_points cX6_points 4 (some .int), Cond.methodLink RX6 162 yX6_askedSet, Cond.instanceMethod yX6_askedSet, Cond.selects RX6 yX6_askedSet yX6_askedSet, Cond.code yX6_askedSet cX6_askedSet 3 (some .int), Cond.fieldLink RX6 168 "QuadWorlds" "latestAsked" "J", Cond.methodLink RL 62 yX7_points, Cond.instanceMethod yX7_points, Cond.selects RX7 yX7_points yX7_points, Cond.code yX7_points cX7_points 4 (some .int), Cond.methodLink RX7 181 yX7_ask, Cond.instanceMethod yX7_ask, Cond.selects RX7 yX7_ask yX7_ask, Cond.code yX7_ask cX7_ask 4 (some .int), Cond.fieldLink RX7 87 "QuadWorldsModel" "asked" "J"]
def wsL_law_r18 : List Cond := [Cond.methodLink RL 63 yX6_lines, Cond.instanceMethod yX6_lines, Cond.selects RX6 yX6_lines yX6_lines, Cond.code yX6_lines cX6_lines 4 (some .int), Cond.methodLink RL 66 yX7_lines, Cond.instanceMethod yX7_lines, Cond.selects RX7 yX7_lines yX7_lines, Cond.code yX7_lines cX7_lines 6 (some .int), Cond.methodLink RL 67 yX6_fault, Cond.instanceMethod yX6_fault, Cond.selects RX6 yX6_fault yX6_fault, Cond.code yX6_fault cX6_fault 3 (some .int), Cond.methodLink RX6 165 yX0_placeIn, Cond.static yX0_placeIn, Cond.code yX0_placeIn cX0_placeIn 1 (some .int), Cond.methodLink RX6 172 yX0_sortOf, Cond.static yX0_sortOf, Cond.code yX0_sortOf cX0_sortOf 1 (some .int), Cond.methodLink RL 70 yX7_fault, Cond.instanceMethod yX7_fault, Cond.selects RX7 yX7_fault yX7_fault, Cond.code yX7_fault cX7_fault 4 (some .int), Cond.methodLink RL 71 yX6_mean, Cond.instanceMethod yX6_mean]
def wsL_law_r19 : List Cond := [Cond.selects RX6 yX6_mean yX6_mean, Cond.code yX6_mean cX6_mean 5 (some .int), Cond.methodLink RL 74 yX7_mean, Cond.instanceMethod yX7_mean, Cond.selects RX7 yX7_mean yX7_mean, Cond.code yX7_mean cX7_mean 5 (some .int), Cond.methodLink RL 75 yX6_perp, Cond.instanceMethod yX6_perp, Cond.selects RX6 yX6_perp yX6_perp, Cond.code yX6_perp cX6_perp 5 (some .int), Cond.methodLink RX6 175 yX5_nearToAll, Cond.methodLink RL 79 yX7_perp, Cond.instanceMethod yX7_perp, Cond.selects RX7 yX7_perp yX7_perp, Cond.code yX7_perp cX7_perp 7 (some .int), Cond.methodLink RL 80 yX6_span, Cond.instanceMethod yX6_span, Cond.selects RX6 yX6_span yX6_span, Cond.code yX6_span cX6_span 5 (some .int), Cond.methodLink RX6 179 yX5_areNear, Cond.methodLink RX6 183 yX5_spanSet, Cond.methodLink RL 83 yX7_span, Cond.instanceMethod yX7_span, Cond.selects RX7 yX7_span yX7_span]
def wsL_law_r20 : List Cond := [Cond.code yX7_span cX7_span 7 (some .int), Cond.methodLink RL 84 yX6_regular, Cond.instanceMethod yX6_regular, Cond.selects RX6 yX6_regular yX6_regular, Cond.code yX6_regular cX6_regular 4 (some .int), Cond.methodLink RL 87 yX7_regular, Cond.instanceMethod yX7_regular, Cond.selects RX7 yX7_regular yX7_regular, Cond.code yX7_regular cX7_regular 5 (some .int), Cond.methodLink RL 88 yX6_centres, Cond.instanceMethod yX6_centres, Cond.selects RX6 yX6_centres yX6_centres, Cond.code yX6_centres cX6_centres 6 (some .int), Cond.methodLink RL 92 yX7_centres, Cond.instanceMethod yX7_centres, Cond.selects RX7 yX7_centres yX7_centres, Cond.code yX7_centres cX7_centres 6 (some .int), Cond.methodLink RL 93 yX6_ovoid, Cond.instanceMethod yX6_ovoid, Cond.selects RX6 yX6_ovoid yX6_ovoid, Cond.code yX6_ovoid cX6_ovoid 4 (some .int), Cond.methodLink RX6 190 yX6_isNumberOfTries, Cond.static yX6_isNumberOfTries, Cond.code yX6_isNumberOfTries cX6_isNumberOfTries 1 (some .boolean)]
def wsL_law_r21 : List Cond := [Cond.constant RX6 260 (100000), Cond.methodLink RX6 193 yX4_seek, Cond.instanceMethod yX4_seek, Cond.selects RX4 yX4_seek yX4_seek, Cond.code yX4_seek cX4_seek 7 none, Cond.fieldLink RX4 25 "QuadWorlds$Seeker" "allMet" "J", Cond.fieldLink RX4 29 "QuadWorlds$Seeker" "tryCount" "I", Cond.fieldLink RX4 33 "QuadWorlds$Seeker" "isSpent" "Z", Cond.fieldLink RX4 37 "QuadWorlds$Seeker" "foundCount" "I", Cond.fieldLink RX4 40 "QuadWorlds$Seeker" "depth" "I", Cond.constant RX4 47 (1000000), Cond.methodLink RX4 43 yX4_open, Cond.instanceMethod yX4_open, Cond.selects RX4 yX4_open yX4_open, Cond.code yX4_open cX4_open 5 none, Cond.fieldLink RX4 57 "QuadWorlds$Seeker" "foundSet" "J", Cond.constantLong RX4 55 (-1), Cond.static yX6_leastOf, Cond.code yX6_leastOf cX6_leastOf 2 (some .int), Cond.methodLink RX4 48 yX4_take, Cond.instanceMethod yX4_take, Cond.selects RX4 yX4_take yX4_take, Cond.code yX4_take cX4_take 4 none, Cond.methodLink RX6 197 yX6_firstFound]
def wsL_law_r22 : List Cond := [Cond.instanceMethod yX6_firstFound, Cond.selects RX6 yX6_firstFound yX6_firstFound, Cond.code yX6_firstFound cX6_firstFound 1 (some .int), Cond.fieldLink RX6 203 "QuadWorlds" "latestTries" "I", Cond.methodLink RL 96 yX7_ovoid, Cond.instanceMethod yX7_ovoid, Cond.selects RX7 yX7_ovoid yX7_ovoid, Cond.code yX7_ovoid cX7_ovoid 3 (some .int), Cond.methodLink RX7 210 yX7_seek, Cond.instanceMethod yX7_seek, Cond.selects RX7 yX7_seek yX7_seek, Cond.code yX7_seek cX7_seek 9 (some .int), Cond.constant RX7 201 (100000), Cond.fieldLink RX7 198 "QuadWorldsModel" "tries" "I", Cond.fieldLink RX7 191 "QuadWorldsModel" "level" "I", Cond.methodLink RX7 202 yX7_setSeeking, Cond.instanceMethod yX7_setSeeking, Cond.selects RX7 yX7_setSeeking yX7_setSeeking, Cond.code yX7_setSeeking cX7_setSeeking 5 none, Cond.fieldLink RX7 185 "QuadWorldsModel" "things" "I", Cond.fieldLink RX7 188 "QuadWorldsModel" "goals" "I", Cond.methodLink RX7 206 yX7_next, Cond.instanceMethod yX7_next, Cond.selects RX7 yX7_next yX7_next]
def wsL_law_r23 : List Cond := [Cond.code yX7_next cX7_next 5 (some .int), Cond.methodLink RX7 194 yX7_goalAt, Cond.instanceMethod yX7_goalAt, Cond.selects RX7 yX7_goalAt yX7_goalAt, Cond.code yX7_goalAt cX7_goalAt 2 (some .int), Cond.methodLink RL 97 yX6_spread, Cond.instanceMethod yX6_spread, Cond.selects RX6 yX6_spread yX6_spread, Cond.code yX6_spread cX6_spread 4 (some .int), Cond.methodLink RL 100 yX7_spread, Cond.instanceMethod yX7_spread, Cond.selects RX7 yX7_spread yX7_spread, Cond.code yX7_spread cX7_spread 3 (some .int), Cond.methodLink RL 101 yX6_ovoids, Cond.instanceMethod yX6_ovoids, Cond.selects RX6 yX6_ovoids yX6_ovoids, Cond.code yX6_ovoids cX6_ovoids 4 (some .int), Cond.methodLink RL 104 yX7_ovoids, Cond.instanceMethod yX7_ovoids, Cond.selects RX7 yX7_ovoids yX7_ovoids, Cond.code yX7_ovoids cX7_ovoids 7 (some .int), Cond.methodLink RL 105 yX6_tries, Cond.instanceMethod yX6_tries, Cond.selects RX6 yX6_tries yX6_tries]
def wsL_law_r24 : List Cond := [Cond.code yX6_tries cX6_tries 1 (some .int), Cond.methodLink RL 109 yX7_tries, Cond.instanceMethod yX7_tries, Cond.selects RX7 yX7_tries yX7_tries, Cond.code yX7_tries cX7_tries 1 (some .int), Cond.methodLink RL 110 yX6_meets, Cond.instanceMethod yX6_meets, Cond.selects RX6 yX6_meets yX6_meets, Cond.code yX6_meets cX6_meets 6 (some .int), Cond.methodLink RX6 212 yX5_leastOnLine, Cond.instanceMethod yX5_leastOnLine, Cond.selects RX5 yX5_leastOnLine yX5_leastOnLine, Cond.code yX5_leastOnLine cX5_leastOnLine 5 (some .int), Cond.methodLink RL 114 yX7_meets_, Cond.instanceMethod yX7_meets_, Cond.selects RX7 yX7_meets_ yX7_meets_, Cond.code yX7_meets_ cX7_meets_ 9 (some .int), Cond.methodLink RL 115 yX6_rank, Cond.instanceMethod yX6_rank, Cond.selects RX6 yX6_rank yX6_rank, Cond.code yX6_rank cX6_rank 3 (some .int), Cond.methodLink RX6 215 yX3_rankOf, Cond.static yX3_rankOf, Cond.initialized RX3]
def wsL_law_r25 : List Cond := [Cond.code yX3_rankOf cX3_rankOf 6 (some .int), Cond.methodLink RX3 26 yX3_firstWith, Cond.static yX3_firstWith, Cond.code yX3_firstWith cX3_firstWith 5 (some .int), Cond.methodLink RX3 32 yX3_swapRows, Cond.static yX3_swapRows, Cond.code yX3_swapRows cX3_swapRows 6 none, Cond.methodLink RX3 36 yX3_clearBelow, Cond.static yX3_clearBelow, Cond.code yX3_clearBelow cX3_clearBelow 10 none, Cond.methodLink RX3 40 yX3_inverseOf, Cond.static yX3_inverseOf, Cond.code yX3_inverseOf cX3_inverseOf 3 (some .int), Cond.methodLink RX3 44 yJ9_floorMod_7cf53, Cond.static yJ9_floorMod_7cf53, Cond.initialized RJ9, Cond.code yJ9_floorMod_7cf53 cJ9_floorMod_7cf53 3 (some .int), Cond.methodLink RL 118 yX7_rank, Cond.instanceMethod yX7_rank, Cond.selects RX7 yX7_rank yX7_rank, Cond.code yX7_rank cX7_rank 9 (some .int), Cond.methodLink RX7 214 yX7_swap, Cond.instanceMethod yX7_swap, Cond.selects RX7 yX7_swap yX7_swap]
def wsL_law_r26 : List Cond := [Cond.code yX7_swap cX7_swap 5 none, Cond.methodLink RX7 218 yX7_clear, Cond.instanceMethod yX7_clear, Cond.selects RX7 yX7_clear yX7_clear, Cond.code yX7_clear cX7_clear 9 none, Cond.methodLink RL 119 yX6_alike, Cond.instanceMethod yX6_alike, Cond.selects RX6 yX6_alike yX6_alike, Cond.code yX6_alike cX6_alike 4 (some .int), Cond.fieldLink RX6 230 "QuadWorlds" "sentSize" "I", Cond.methodLink RX6 236 arraycopyName, Cond.native arraycopyName, Cond.static arraycopyName, Cond.initialized "java/lang/System", Cond.methodLink RX6 221 yX2_match, Cond.instanceMethod yX2_match, Cond.selects RX2 yX2_match yX2_match, Cond.code yX2_match cX2_match 5 none, Cond.fieldLink RX2 22 "QuadWorlds$Matcher" "tryCount" "I", Cond.fieldLink RX2 26 "QuadWorlds$Matcher" "isSpent" "Z", Cond.fieldLink RX2 30 "QuadWorlds$Matcher" "isFound" "Z", Cond.fieldLink RX2 41 "QuadWorlds$Matcher" "depth" "I", Cond.constant RX2 48 (1000000), Cond.methodLink RX2 44 yX2_open]
def wsL_law_r27 : List Cond := [Cond.instanceMethod yX2_open, Cond.selects RX2 yX2_open yX2_open, Cond.code yX2_open cX2_open 7 none, Cond.methodLink RX2 58 yX2_linesFit, Cond.instanceMethod yX2_linesFit, Cond.selects RX2 yX2_linesFit yX2_linesFit, Cond.code yX2_linesFit cX2_linesFit 7 (some .boolean), Cond.constantLong RX2 56 (-1), Cond.methodLink RX2 69 yX2_imageOf, Cond.instanceMethod yX2_imageOf, Cond.selects RX2 yX2_imageOf yX2_imageOf, Cond.code yX2_imageOf cX2_imageOf 7 (some .long), Cond.methodLink RX2 88 yX2_lineWith, Cond.static yX2_lineWith, Cond.code yX2_lineWith cX2_lineWith 6 (some .int), Cond.methodLink RX2 76 yJ13_bitCount_95d88, Cond.methodLink RX2 49 yX2_take, Cond.instanceMethod yX2_take, Cond.selects RX2 yX2_take yX2_take, Cond.code yX2_take cX2_take 4 none, Cond.methodLink RL 122 yX7_alike, Cond.instanceMethod yX7_alike, Cond.selects RX7 yX7_alike yX7_alike, Cond.code yX7_alike cX7_alike 7 (some .int)]
def wsL_law_r28 : List Cond := [Cond.methodLink RX7 222 yX7_isSent, Cond.instanceMethod yX7_isSent, Cond.selects RX7 yX7_isSent yX7_isSent, Cond.code yX7_isSent cX7_isSent 10 (some .boolean), Cond.methodLink RX7 225 yX7_maySend, Cond.instanceMethod yX7_maySend, Cond.selects RX7 yX7_maySend yX7_maySend, Cond.code yX7_maySend cX7_maySend 5 (some .boolean), Cond.methodLink RL 123 yX6_sent, Cond.instanceMethod yX6_sent, Cond.selects RX6 yX6_sent yX6_sent, Cond.code yX6_sent cX6_sent 2 (some .int), Cond.methodLink RL 126 yX7_sent, Cond.instanceMethod yX7_sent, Cond.selects RX7 yX7_sent yX7_sent, Cond.code yX7_sent cX7_sent 2 (some .int), Cond.methodLink RL 127 yX6_far, Cond.instanceMethod yX6_far, Cond.selects RX6 yX6_far yX6_far, Cond.code yX6_far cX6_far 5 (some .int), Cond.methodLink RX6 242 yX5_stepsBetween, Cond.instanceMethod yX5_stepsBetween, Cond.selects RX5 yX5_stepsBetween yX5_stepsBetween, Cond.code yX5_stepsBetween cX5_stepsBetween 9 (some .int)]
def wsL_law_r29 : List Cond := [Cond.methodLink RL 130 yX7_far, Cond.instanceMethod yX7_far, Cond.selects RX7 yX7_far yX7_far, Cond.code yX7_far cX7_far 11 (some .int), Cond.methodLink RL 131 yX6_row, Cond.instanceMethod yX6_row, Cond.selects RX6 yX6_row yX6_row, Cond.code yX6_row cX6_row 4 (some .int), Cond.methodLink RL 134 yX7_row, Cond.instanceMethod yX7_row, Cond.selects RX7 yX7_row yX7_row, Cond.code yX7_row cX7_row 4 (some .int), Cond.methodLink RL 135 yX6_lay, Cond.instanceMethod yX6_lay, Cond.selects RX6 yX6_lay yX6_lay, Cond.code yX6_lay cX6_lay 5 (some .int), Cond.methodLink RL 138 yX7_lay, Cond.instanceMethod yX7_lay, Cond.selects RX7 yX7_lay yX7_lay, Cond.code yX7_lay cX7_lay 6 (some .int), Cond.methodLink RX7 228 yX7_askedRow, Cond.instanceMethod yX7_askedRow, Cond.selects RX7 yX7_askedRow yX7_askedRow, Cond.code yX7_askedRow cX7_askedRow 2 (some .int)]
def wsL_law_r30 : List Cond := [Cond.methodLink RL 139 yX6_tear, Cond.instanceMethod yX6_tear, Cond.selects RX6 yX6_tear yX6_tear, Cond.code yX6_tear cX6_tear 2 (some .int), Cond.methodLink RL 142 yX7_tear, Cond.instanceMethod yX7_tear, Cond.selects RX7 yX7_tear yX7_tear, Cond.code yX7_tear cX7_tear 3 (some .int), Cond.methodLink RL 143 yX6_copy, Cond.instanceMethod yX6_copy, Cond.selects RX6 yX6_copy yX6_copy, Cond.code yX6_copy cX6_copy 6 (some .int), Cond.methodLink RX6 246 yX6_rowHasPlaces, Cond.instanceMethod yX6_rowHasPlaces, Cond.selects RX6 yX6_rowHasPlaces yX6_rowHasPlaces, Cond.code yX6_rowHasPlaces cX6_rowHasPlaces 4 (some .boolean), Cond.methodLink RL 147 yX7_copy, Cond.instanceMethod yX7_copy, Cond.selects RX7 yX7_copy yX7_copy, Cond.code yX7_copy cX7_copy 7 (some .int), Cond.methodLink RL 148 yX6_asked, Cond.instanceMethod yX6_asked, Cond.selects RX6 yX6_asked yX6_asked, Cond.code yX6_asked cX6_asked 1 (some .long)]
def wsL_law_r31 : List Cond := [Cond.methodLink RL 152 yX7_asked, Cond.instanceMethod yX7_asked, Cond.selects RX7 yX7_asked yX7_asked, Cond.code yX7_asked cX7_asked 1 (some .long), Cond.methodLink RL 153 yX6_count, Cond.instanceMethod yX6_count, Cond.selects RX6 yX6_count yX6_count, Cond.code yX6_count cX6_count 4 (some .int), Cond.methodLink RL 156 yX7_count, Cond.instanceMethod yX7_count, Cond.selects RX7 yX7_count yX7_count, Cond.code yX7_count cX7_count 4 (some .int), Cond.methodLink RL 157 yX6_finding, Cond.instanceMethod yX6_finding, Cond.selects RX6 yX6_finding yX6_finding, Cond.code yX6_finding cX6_finding 1 (some .int), Cond.methodLink RL 160 yX7_finding, Cond.instanceMethod yX7_finding, Cond.selects RX7 yX7_finding yX7_finding, Cond.code yX7_finding cX7_finding 1 (some .int), Cond.methodLink RL 161 yX6_findings, Cond.instanceMethod yX6_findings, Cond.selects RX6 yX6_findings yX6_findings, Cond.code yX6_findings cX6_findings 2 (some .int)]
def wsL_law_r32 : List Cond := [Cond.methodLink RL 164 yX7_findings, Cond.instanceMethod yX7_findings, Cond.selects RX7 yX7_findings yX7_findings, Cond.code yX7_findings cX7_findings 2 (some .int), Cond.methodLink RL 165 yX6_digest, Cond.instanceMethod yX6_digest, Cond.selects RX6 yX6_digest yX6_digest, Cond.code yX6_digest cX6_digest 5 (some .long), Cond.constantLong RX6 253 (17), Cond.constantLong RX6 258 (31), Cond.methodLink RX6 255 yX5_digestOn, Cond.instanceMethod yX5_digestOn, Cond.selects RX5 yX5_digestOn yX5_digestOn, Cond.code yX5_digestOn cX5_digestOn 6 (some .long), Cond.constantLong RX5 79 (31), Cond.methodLink RL 168 yX7_digest, Cond.instanceMethod yX7_digest, Cond.selects RX7 yX7_digest yX7_digest, Cond.code yX7_digest cX7_digest 5 (some .long), Cond.constantLong RX7 231 (17), Cond.constantLong RX7 233 (31)]
def wsL_law : List Cond := (wsL_law_r1 ++ (wsL_law_r2 ++ (wsL_law_r3 ++ (wsL_law_r4 ++ (wsL_law_r5 ++ (wsL_law_r6 ++ (wsL_law_r7 ++ (wsL_law_r8 ++ (wsL_law_r9 ++ (wsL_law_r10 ++ (wsL_law_r11 ++ (wsL_law_r12 ++ (wsL_law_r13 ++ (wsL_law_r14 ++ (wsL_law_r15 ++ (wsL_law_r16 ++ (wsL_law_r17 ++ (wsL_law_r18 ++ (wsL_law_r19 ++ (wsL_law_r20 ++ (wsL_law_r21 ++ (wsL_law_r22 ++ (wsL_law_r23 ++ (wsL_law_r24 ++ (wsL_law_r25 ++ (wsL_law_r26 ++ (wsL_law_r27 ++ (wsL_law_r28 ++ (wsL_law_r29 ++ (wsL_law_r30 ++ (wsL_law_r31 ++ wsL_law_r32))))))))))))))))))))))))))))))) ++ wsX60 ++ wsX70 ++ wsX40 ++ wsX20 ++ wsX50 ++ ([] : List Cond)
set_option maxRecDepth 20000 in
theorem ggX0_firstOf_X0_firstPair : GoodIn wsX0_firstOf wsX0_firstPair := goodIn_r _ [4, 5, 6, 7, 8, 9, 10, 11, 25, 26, 27, 28, 29, 30, 31, 32] (by decide +kernel) (by decide +kernel)
set_option maxRecDepth 20000 in
theorem gX0_firstOf_X0_firstPair : GoodIn wsX0_firstOf (va_wsS RX0 7 yX0_firstPair wsX0_firstPair) := goodIn_app (goodIn_of _ (by decide +kernel)) ggX0_firstOf_X0_firstPair
set_option maxRecDepth 20000 in
theorem ggX0_firstOf_X0_firstMeeting : GoodIn wsX0_firstOf wsX0_firstMeeting := goodIn_r _ [14, 15, 16, 17, 18, 19, 20, 21, 22, 23, 24, 5, 6, 7, 8, 9, 10, 11, 25, 26, 27, 28, 29, 30, 31, 32] (by decide +kernel) (by decide +kernel)
set_option maxRecDepth 20000 in
theorem gX0_firstOf_X0_firstMeeting : GoodIn wsX0_firstOf (va_wsS RX0 13 yX0_firstMeeting wsX0_firstMeeting) := goodIn_app (goodIn_of _ (by decide +kernel)) ggX0_firstOf_X0_firstMeeting
theorem dX0_firstOf_0 : decode cX0_firstOf 0 = .ok (.aload_n 0, 1) := by decide +kernel
theorem dX0_firstOf_1 : decode cX0_firstOf 1 = .ok (.invokestatic 7, 3) := by decide +kernel
theorem dX0_firstOf_4 : decode cX0_firstOf 4 = .ok (.istore_n 1, 1) := by decide +kernel
theorem dX0_firstOf_5 : decode cX0_firstOf 5 = .ok (.iload_n 1, 1) := by decide +kernel
theorem dX0_firstOf_6 : decode cX0_firstOf 6 = .ok (.ifCond .eq 7, 3) := by decide +kernel
theorem dX0_firstOf_9 : decode cX0_firstOf 9 = .ok (.iload_n 1, 1) := by decide +kernel
theorem dX0_firstOf_10 : decode cX0_firstOf 10 = .ok (.goto 7, 3) := by decide +kernel
theorem dX0_firstOf_13 : decode cX0_firstOf 13 = .ok (.aload_n 0, 1) := by decide +kernel
theorem dX0_firstOf_14 : decode cX0_firstOf 14 = .ok (.invokestatic 13, 3) := by decide +kernel
theorem dX0_firstOf_17 : decode cX0_firstOf 17 = .ok (.ireturn, 1) := by decide +kernel
theorem dX0_sortOf_0 : decode cX0_sortOf 0 = .ok (.iload_n 0, 1) := by decide +kernel
theorem dX0_sortOf_1 : decode cX0_sortOf 1 = .ok (.sipush 10000, 3) := by decide +kernel
theorem dX0_sortOf_4 : decode cX0_sortOf 4 = .ok (.idiv, 1) := by decide +kernel
theorem dX0_sortOf_5 : decode cX0_sortOf 5 = .ok (.ireturn, 1) := by decide +kernel
theorem dX0_placeIn_0 : decode cX0_placeIn 0 = .ok (.iload_n 0, 1) := by decide +kernel
theorem dX0_placeIn_1 : decode cX0_placeIn 1 = .ok (.sipush 10000, 3) := by decide +kernel
theorem dX0_placeIn_4 : decode cX0_placeIn 4 = .ok (.irem, 1) := by decide +kernel
theorem dX0_placeIn_5 : decode cX0_placeIn 5 = .ok (.ireturn, 1) := by decide +kernel
set_option maxRecDepth 20000 in
theorem ggX0_firstPair_J13_bitCount_95d88 : GoodIn wsX0_firstPair wsJ13_bitCount_95d88 := goodIn_r _ [4, 5, 6, 7] (by decide +kernel) (by decide +kernel)
set_option maxRecDepth 20000 in
theorem gX0_firstPair_J13_bitCount_95d88 : GoodIn wsX0_firstPair (va_wsS RX0 26 yJ13_bitCount_95d88 wsJ13_bitCount_95d88) := goodIn_app (goodIn_of _ (by decide +kernel)) ggX0_firstPair_J13_bitCount_95d88
theorem dX0_firstPair_0 : decode cX0_firstPair 0 = .ok (.iconst 0, 1) := by decide +kernel
theorem dX0_firstPair_1 : decode cX0_firstPair 1 = .ok (.istore_n 1, 1) := by decide +kernel
theorem dX0_firstPair_2 : decode cX0_firstPair 2 = .ok (.iload_n 1, 1) := by decide +kernel
theorem dX0_firstPair_3 : decode cX0_firstPair 3 = .ok (.aload_n 0, 1) := by decide +kernel
theorem dX0_firstPair_4 : decode cX0_firstPair 4 = .ok (.getfield 16, 3) := by decide +kernel
theorem dX0_firstPair_7 : decode cX0_firstPair 7 = .ok (.if_icmp .ge 58, 3) := by decide +kernel
theorem dX0_firstPair_10 : decode cX0_firstPair 10 = .ok (.iload_n 1, 1) := by decide +kernel
theorem dX0_firstPair_11 : decode cX0_firstPair 11 = .ok (.iconst 1, 1) := by decide +kernel
theorem dX0_firstPair_12 : decode cX0_firstPair 12 = .ok (.iadd, 1) := by decide +kernel
theorem dX0_firstPair_13 : decode cX0_firstPair 13 = .ok (.istore_n 2, 1) := by decide +kernel
theorem dX0_firstPair_14 : decode cX0_firstPair 14 = .ok (.iload_n 2, 1) := by decide +kernel
theorem dX0_firstPair_15 : decode cX0_firstPair 15 = .ok (.aload_n 0, 1) := by decide +kernel
theorem dX0_firstPair_16 : decode cX0_firstPair 16 = .ok (.getfield 16, 3) := by decide +kernel
theorem dX0_firstPair_19 : decode cX0_firstPair 19 = .ok (.if_icmp .ge 40, 3) := by decide +kernel
theorem dX0_firstPair_22 : decode cX0_firstPair 22 = .ok (.aload_n 0, 1) := by decide +kernel
theorem dX0_firstPair_23 : decode cX0_firstPair 23 = .ok (.getfield 22, 3) := by decide +kernel
theorem dX0_firstPair_26 : decode cX0_firstPair 26 = .ok (.iload_n 1, 1) := by decide +kernel
theorem dX0_firstPair_27 : decode cX0_firstPair 27 = .ok (.laload, 1) := by decide +kernel
theorem dX0_firstPair_28 : decode cX0_firstPair 28 = .ok (.aload_n 0, 1) := by decide +kernel
theorem dX0_firstPair_29 : decode cX0_firstPair 29 = .ok (.getfield 22, 3) := by decide +kernel
theorem dX0_firstPair_32 : decode cX0_firstPair 32 = .ok (.iload_n 2, 1) := by decide +kernel
theorem dX0_firstPair_33 : decode cX0_firstPair 33 = .ok (.laload, 1) := by decide +kernel
theorem dX0_firstPair_34 : decode cX0_firstPair 34 = .ok (.land, 1) := by decide +kernel
theorem dX0_firstPair_35 : decode cX0_firstPair 35 = .ok (.invokestatic 26, 3) := by decide +kernel
theorem dX0_firstPair_38 : decode cX0_firstPair 38 = .ok (.iconst 2, 1) := by decide +kernel
theorem dX0_firstPair_39 : decode cX0_firstPair 39 = .ok (.if_icmp .lt 14, 3) := by decide +kernel
theorem dX0_firstPair_42 : decode cX0_firstPair 42 = .ok (.sipush 10000, 3) := by decide +kernel
theorem dX0_firstPair_45 : decode cX0_firstPair 45 = .ok (.bipush 100, 2) := by decide +kernel
theorem dX0_firstPair_47 : decode cX0_firstPair 47 = .ok (.iload_n 1, 1) := by decide +kernel
theorem dX0_firstPair_48 : decode cX0_firstPair 48 = .ok (.imul, 1) := by decide +kernel
theorem dX0_firstPair_49 : decode cX0_firstPair 49 = .ok (.iadd, 1) := by decide +kernel
theorem dX0_firstPair_50 : decode cX0_firstPair 50 = .ok (.iload_n 2, 1) := by decide +kernel
theorem dX0_firstPair_51 : decode cX0_firstPair 51 = .ok (.iadd, 1) := by decide +kernel
theorem dX0_firstPair_52 : decode cX0_firstPair 52 = .ok (.ireturn, 1) := by decide +kernel
theorem dX0_firstPair_53 : decode cX0_firstPair 53 = .ok (.iinc 2 1, 3) := by decide +kernel
theorem dX0_firstPair_56 : decode cX0_firstPair 56 = .ok (.goto (-42), 3) := by decide +kernel
theorem dX0_firstPair_59 : decode cX0_firstPair 59 = .ok (.iinc 1 1, 3) := by decide +kernel
theorem dX0_firstPair_62 : decode cX0_firstPair 62 = .ok (.goto (-60), 3) := by decide +kernel
theorem dX0_firstPair_65 : decode cX0_firstPair 65 = .ok (.iconst 0, 1) := by decide +kernel
theorem dX0_firstPair_66 : decode cX0_firstPair 66 = .ok (.ireturn, 1) := by decide +kernel
set_option maxRecDepth 20000 in
theorem ggX0_firstMeeting_X5_linesMeeting : GoodIn wsX0_firstMeeting wsX5_linesMeeting := goodIn_r _ [5, 6, 7, 8, 9, 10, 18, 19, 20, 21, 22, 23, 24, 25] (by decide +kernel) (by decide +kernel)
set_option maxRecDepth 20000 in
theorem gX0_firstMeeting_X5_linesMeeting : GoodIn wsX0_firstMeeting (wsV RX0 32 RX5 yX5_linesMeeting wsX5_linesMeeting) := goodIn_app (goodIn_of _ (by decide +kernel)) ggX0_firstMeeting_X5_linesMeeting
set_option maxRecDepth 20000 in
theorem ggX0_firstMeeting_J13_bitCount_95d88 : GoodIn wsX0_firstMeeting wsJ13_bitCount_95d88 := goodIn_r _ [14, 15, 16, 17] (by decide +kernel) (by decide +kernel)
set_option maxRecDepth 20000 in
theorem gX0_firstMeeting_J13_bitCount_95d88 : GoodIn wsX0_firstMeeting (va_wsS RX0 26 yJ13_bitCount_95d88 wsJ13_bitCount_95d88) := goodIn_app (goodIn_of _ (by decide +kernel)) ggX0_firstMeeting_J13_bitCount_95d88
set_option maxRecDepth 20000 in
theorem ggX0_firstMeeting_X6_has : GoodIn wsX0_firstMeeting wsX6_has := goodIn_r _ [10] (by decide +kernel) (by decide +kernel)
set_option maxRecDepth 20000 in
theorem gX0_firstMeeting_X6_has_n42 : GoodIn wsX0_firstMeeting (wsX6_has) := ggX0_firstMeeting_X6_has
theorem dX0_firstMeeting_0 : decode cX0_firstMeeting 0 = .ok (.iconst 0, 1) := by decide +kernel
theorem dX0_firstMeeting_1 : decode cX0_firstMeeting 1 = .ok (.istore_n 1, 1) := by decide +kernel
theorem dX0_firstMeeting_2 : decode cX0_firstMeeting 2 = .ok (.iload_n 1, 1) := by decide +kernel
theorem dX0_firstMeeting_3 : decode cX0_firstMeeting 3 = .ok (.aload_n 0, 1) := by decide +kernel
theorem dX0_firstMeeting_4 : decode cX0_firstMeeting 4 = .ok (.getfield 16, 3) := by decide +kernel
theorem dX0_firstMeeting_7 : decode cX0_firstMeeting 7 = .ok (.if_icmp .ge 95, 3) := by decide +kernel
theorem dX0_firstMeeting_10 : decode cX0_firstMeeting 10 = .ok (.aload_n 0, 1) := by decide +kernel
theorem dX0_firstMeeting_11 : decode cX0_firstMeeting 11 = .ok (.aload_n 0, 1) := by decide +kernel
theorem dX0_firstMeeting_12 : decode cX0_firstMeeting 12 = .ok (.getfield 22, 3) := by decide +kernel
theorem dX0_firstMeeting_15 : decode cX0_firstMeeting 15 = .ok (.iload_n 1, 1) := by decide +kernel
theorem dX0_firstMeeting_16 : decode cX0_firstMeeting 16 = .ok (.laload, 1) := by decide +kernel
theorem dX0_firstMeeting_17 : decode cX0_firstMeeting 17 = .ok (.invokevirtual 32, 3) := by decide +kernel
theorem dX0_firstMeeting_20 : decode cX0_firstMeeting 20 = .ok (.lstore_n 2, 1) := by decide +kernel
theorem dX0_firstMeeting_21 : decode cX0_firstMeeting 21 = .ok (.iconst 0, 1) := by decide +kernel
theorem dX0_firstMeeting_22 : decode cX0_firstMeeting 22 = .ok (.istore 4, 2) := by decide +kernel
theorem dX0_firstMeeting_24 : decode cX0_firstMeeting 24 = .ok (.iload 4, 2) := by decide +kernel
theorem dX0_firstMeeting_26 : decode cX0_firstMeeting 26 = .ok (.aload_n 0, 1) := by decide +kernel
theorem dX0_firstMeeting_27 : decode cX0_firstMeeting 27 = .ok (.getfield 36, 3) := by decide +kernel
theorem dX0_firstMeeting_30 : decode cX0_firstMeeting 30 = .ok (.if_icmp .ge 66, 3) := by decide +kernel
theorem dX0_firstMeeting_33 : decode cX0_firstMeeting 33 = .ok (.aload_n 0, 1) := by decide +kernel
theorem dX0_firstMeeting_34 : decode cX0_firstMeeting 34 = .ok (.getfield 39, 3) := by decide +kernel
theorem dX0_firstMeeting_37 : decode cX0_firstMeeting 37 = .ok (.iload 4, 2) := by decide +kernel
theorem dX0_firstMeeting_39 : decode cX0_firstMeeting 39 = .ok (.laload, 1) := by decide +kernel
theorem dX0_firstMeeting_40 : decode cX0_firstMeeting 40 = .ok (.lload_n 2, 1) := by decide +kernel
theorem dX0_firstMeeting_41 : decode cX0_firstMeeting 41 = .ok (.land, 1) := by decide +kernel
theorem dX0_firstMeeting_42 : decode cX0_firstMeeting 42 = .ok (.invokestatic 26, 3) := by decide +kernel
theorem dX0_firstMeeting_45 : decode cX0_firstMeeting 45 = .ok (.istore 5, 2) := by decide +kernel
theorem dX0_firstMeeting_47 : decode cX0_firstMeeting 47 = .ok (.aload_n 0, 1) := by decide +kernel
theorem dX0_firstMeeting_48 : decode cX0_firstMeeting 48 = .ok (.getfield 22, 3) := by decide +kernel
theorem dX0_firstMeeting_51 : decode cX0_firstMeeting 51 = .ok (.iload_n 1, 1) := by decide +kernel
theorem dX0_firstMeeting_52 : decode cX0_firstMeeting 52 = .ok (.laload, 1) := by decide +kernel
theorem dX0_firstMeeting_53 : decode cX0_firstMeeting 53 = .ok (.iload 4, 2) := by decide +kernel
theorem dX0_firstMeeting_55 : decode cX0_firstMeeting 55 = .ok (.invokestatic 42, 3) := by decide +kernel
theorem dX0_firstMeeting_58 : decode cX0_firstMeeting 58 = .ok (.ifCond .ne 32, 3) := by decide +kernel
theorem dX0_firstMeeting_61 : decode cX0_firstMeeting 61 = .ok (.iload 5, 2) := by decide +kernel
theorem dX0_firstMeeting_63 : decode cX0_firstMeeting 63 = .ok (.iconst 1, 1) := by decide +kernel
theorem dX0_firstMeeting_64 : decode cX0_firstMeeting 64 = .ok (.if_icmp .eq 26, 3) := by decide +kernel
theorem dX0_firstMeeting_67 : decode cX0_firstMeeting 67 = .ok (.sipush 10000, 3) := by decide +kernel
theorem dX0_firstMeeting_70 : decode cX0_firstMeeting 70 = .ok (.iload 5, 2) := by decide +kernel
theorem dX0_firstMeeting_72 : decode cX0_firstMeeting 72 = .ok (.ifCond .ne 7, 3) := by decide +kernel
theorem dX0_firstMeeting_75 : decode cX0_firstMeeting 75 = .ok (.iconst 2, 1) := by decide +kernel
theorem dX0_firstMeeting_76 : decode cX0_firstMeeting 76 = .ok (.goto 4, 3) := by decide +kernel
theorem dX0_firstMeeting_79 : decode cX0_firstMeeting 79 = .ok (.iconst 3, 1) := by decide +kernel
theorem dX0_firstMeeting_80 : decode cX0_firstMeeting 80 = .ok (.imul, 1) := by decide +kernel
theorem dX0_firstMeeting_81 : decode cX0_firstMeeting 81 = .ok (.bipush 100, 2) := by decide +kernel
theorem dX0_firstMeeting_83 : decode cX0_firstMeeting 83 = .ok (.iload_n 1, 1) := by decide +kernel
theorem dX0_firstMeeting_84 : decode cX0_firstMeeting 84 = .ok (.imul, 1) := by decide +kernel
theorem dX0_firstMeeting_85 : decode cX0_firstMeeting 85 = .ok (.iadd, 1) := by decide +kernel
theorem dX0_firstMeeting_86 : decode cX0_firstMeeting 86 = .ok (.iload 4, 2) := by decide +kernel
theorem dX0_firstMeeting_88 : decode cX0_firstMeeting 88 = .ok (.iadd, 1) := by decide +kernel
theorem dX0_firstMeeting_89 : decode cX0_firstMeeting 89 = .ok (.ireturn, 1) := by decide +kernel
theorem dX0_firstMeeting_90 : decode cX0_firstMeeting 90 = .ok (.iinc 4 1, 3) := by decide +kernel
theorem dX0_firstMeeting_93 : decode cX0_firstMeeting 93 = .ok (.goto (-69), 3) := by decide +kernel
theorem dX0_firstMeeting_96 : decode cX0_firstMeeting 96 = .ok (.iinc 1 1, 3) := by decide +kernel
theorem dX0_firstMeeting_99 : decode cX0_firstMeeting 99 = .ok (.goto (-97), 3) := by decide +kernel
theorem dX0_firstMeeting_102 : decode cX0_firstMeeting 102 = .ok (.iconst 0, 1) := by decide +kernel
theorem dX0_firstMeeting_103 : decode cX0_firstMeeting 103 = .ok (.ireturn, 1) := by decide +kernel
set_option maxRecDepth 20000 in
theorem ggX1_makeGrid_X5_begin : GoodIn wsX1_makeGrid wsX5_begin := goodIn_r _ [5, 6, 7, 8, 9, 10, 11, 12, 23, 24, 25, 26, 27, 28, 29, 30] (by decide +kernel) (by decide +kernel)
set_option maxRecDepth 20000 in
theorem gX1_makeGrid_X5_begin : GoodIn wsX1_makeGrid (wsV RX1 9 RX5 yX5_begin wsX5_begin) := goodIn_app (goodIn_of _ (by decide +kernel)) ggX1_makeGrid_X5_begin
set_option maxRecDepth 20000 in
theorem ggX1_makeGrid_X6_below : GoodIn wsX1_makeGrid wsX6_below := goodIn_r _ [15] (by decide +kernel) (by decide +kernel)
set_option maxRecDepth 20000 in
theorem gX1_makeGrid_X6_below_n15 : GoodIn wsX1_makeGrid (wsX6_below) := ggX1_makeGrid_X6_below
set_option maxRecDepth 20000 in
theorem ggX1_makeGrid_X5_add : GoodIn wsX1_makeGrid wsX5_add := goodIn_r _ [19, 10, 20, 8, 11, 12, 21, 14, 22, 23, 24, 25, 26, 27, 28, 29, 30] (by decide +kernel) (by decide +kernel)
set_option maxRecDepth 20000 in
theorem gX1_makeGrid_X5_add : GoodIn wsX1_makeGrid (wsV RX1 19 RX5 yX5_add wsX5_add) := goodIn_app (goodIn_of _ (by decide +kernel)) ggX1_makeGrid_X5_add
theorem dX1_makeGrid_0 : decode cX1_makeGrid 0 = .ok (.aload_n 0, 1) := by decide +kernel
theorem dX1_makeGrid_1 : decode cX1_makeGrid 1 = .ok (.iconst 1, 1) := by decide +kernel
theorem dX1_makeGrid_2 : decode cX1_makeGrid 2 = .ok (.iload_n 1, 1) := by decide +kernel
theorem dX1_makeGrid_3 : decode cX1_makeGrid 3 = .ok (.iload_n 2, 1) := by decide +kernel
theorem dX1_makeGrid_4 : decode cX1_makeGrid 4 = .ok (.imul, 1) := by decide +kernel
theorem dX1_makeGrid_5 : decode cX1_makeGrid 5 = .ok (.iload_n 1, 1) := by decide +kernel
theorem dX1_makeGrid_6 : decode cX1_makeGrid 6 = .ok (.invokevirtual 9, 3) := by decide +kernel
theorem dX1_makeGrid_9 : decode cX1_makeGrid 9 = .ok (.iconst 0, 1) := by decide +kernel
theorem dX1_makeGrid_10 : decode cX1_makeGrid 10 = .ok (.istore_n 3, 1) := by decide +kernel
theorem dX1_makeGrid_11 : decode cX1_makeGrid 11 = .ok (.iload_n 3, 1) := by decide +kernel
theorem dX1_makeGrid_12 : decode cX1_makeGrid 12 = .ok (.iload_n 1, 1) := by decide +kernel
theorem dX1_makeGrid_13 : decode cX1_makeGrid 13 = .ok (.if_icmp .ge 22, 3) := by decide +kernel
theorem dX1_makeGrid_16 : decode cX1_makeGrid 16 = .ok (.aload_n 0, 1) := by decide +kernel
theorem dX1_makeGrid_17 : decode cX1_makeGrid 17 = .ok (.iload_n 2, 1) := by decide +kernel
theorem dX1_makeGrid_18 : decode cX1_makeGrid 18 = .ok (.invokestatic 15, 3) := by decide +kernel
theorem dX1_makeGrid_21 : decode cX1_makeGrid 21 = .ok (.iload_n 2, 1) := by decide +kernel
theorem dX1_makeGrid_22 : decode cX1_makeGrid 22 = .ok (.iload_n 3, 1) := by decide +kernel
theorem dX1_makeGrid_23 : decode cX1_makeGrid 23 = .ok (.imul, 1) := by decide +kernel
theorem dX1_makeGrid_24 : decode cX1_makeGrid 24 = .ok (.lshl, 1) := by decide +kernel
theorem dX1_makeGrid_25 : decode cX1_makeGrid 25 = .ok (.invokevirtual 19, 3) := by decide +kernel
theorem dX1_makeGrid_28 : decode cX1_makeGrid 28 = .ok (.pop, 1) := by decide +kernel
theorem dX1_makeGrid_29 : decode cX1_makeGrid 29 = .ok (.iinc 3 1, 3) := by decide +kernel
theorem dX1_makeGrid_32 : decode cX1_makeGrid 32 = .ok (.goto (-21), 3) := by decide +kernel
theorem dX1_makeGrid_35 : decode cX1_makeGrid 35 = .ok (.iconst 0, 1) := by decide +kernel
theorem dX1_makeGrid_36 : decode cX1_makeGrid 36 = .ok (.istore_n 3, 1) := by decide +kernel
theorem dX1_makeGrid_37 : decode cX1_makeGrid 37 = .ok (.iload_n 3, 1) := by decide +kernel
theorem dX1_makeGrid_38 : decode cX1_makeGrid 38 = .ok (.iload_n 2, 1) := by decide +kernel
theorem dX1_makeGrid_39 : decode cX1_makeGrid 39 = .ok (.if_icmp .ge 47, 3) := by decide +kernel
theorem dX1_makeGrid_42 : decode cX1_makeGrid 42 = .ok (.lconst 0, 1) := by decide +kernel
theorem dX1_makeGrid_43 : decode cX1_makeGrid 43 = .ok (.lstore 4, 2) := by decide +kernel
theorem dX1_makeGrid_45 : decode cX1_makeGrid 45 = .ok (.iconst 0, 1) := by decide +kernel
theorem dX1_makeGrid_46 : decode cX1_makeGrid 46 = .ok (.istore 6, 2) := by decide +kernel
theorem dX1_makeGrid_48 : decode cX1_makeGrid 48 = .ok (.iload 6, 2) := by decide +kernel
theorem dX1_makeGrid_50 : decode cX1_makeGrid 50 = .ok (.iload_n 1, 1) := by decide +kernel
theorem dX1_makeGrid_51 : decode cX1_makeGrid 51 = .ok (.if_icmp .ge 22, 3) := by decide +kernel
theorem dX1_makeGrid_54 : decode cX1_makeGrid 54 = .ok (.lload 4, 2) := by decide +kernel
theorem dX1_makeGrid_56 : decode cX1_makeGrid 56 = .ok (.lconst 1, 1) := by decide +kernel
theorem dX1_makeGrid_57 : decode cX1_makeGrid 57 = .ok (.iload_n 2, 1) := by decide +kernel
theorem dX1_makeGrid_58 : decode cX1_makeGrid 58 = .ok (.iload 6, 2) := by decide +kernel
theorem dX1_makeGrid_60 : decode cX1_makeGrid 60 = .ok (.imul, 1) := by decide +kernel
theorem dX1_makeGrid_61 : decode cX1_makeGrid 61 = .ok (.iload_n 3, 1) := by decide +kernel
theorem dX1_makeGrid_62 : decode cX1_makeGrid 62 = .ok (.iadd, 1) := by decide +kernel
theorem dX1_makeGrid_63 : decode cX1_makeGrid 63 = .ok (.lshl, 1) := by decide +kernel
theorem dX1_makeGrid_64 : decode cX1_makeGrid 64 = .ok (.lor, 1) := by decide +kernel
theorem dX1_makeGrid_65 : decode cX1_makeGrid 65 = .ok (.lstore 4, 2) := by decide +kernel
theorem dX1_makeGrid_67 : decode cX1_makeGrid 67 = .ok (.iinc 6 1, 3) := by decide +kernel
theorem dX1_makeGrid_70 : decode cX1_makeGrid 70 = .ok (.goto (-22), 3) := by decide +kernel
theorem dX1_makeGrid_73 : decode cX1_makeGrid 73 = .ok (.aload_n 0, 1) := by decide +kernel
theorem dX1_makeGrid_74 : decode cX1_makeGrid 74 = .ok (.lload 4, 2) := by decide +kernel
theorem dX1_makeGrid_76 : decode cX1_makeGrid 76 = .ok (.invokevirtual 19, 3) := by decide +kernel
theorem dX1_makeGrid_79 : decode cX1_makeGrid 79 = .ok (.pop, 1) := by decide +kernel
theorem dX1_makeGrid_80 : decode cX1_makeGrid 80 = .ok (.iinc 3 1, 3) := by decide +kernel
theorem dX1_makeGrid_83 : decode cX1_makeGrid 83 = .ok (.goto (-46), 3) := by decide +kernel
theorem dX1_makeGrid_86 : decode cX1_makeGrid 86 = .ok (.return_, 1) := by decide +kernel
set_option maxRecDepth 20000 in
theorem ggX1_makeForm_X5_begin : GoodIn wsX1_makeForm wsX5_begin := goodIn_r _ [5, 6, 7, 8, 9, 10, 11, 12, 37, 38, 39, 40, 41, 42, 43, 44] (by decide +kernel) (by decide +kernel)
set_option maxRecDepth 20000 in
theorem gX1_makeForm_X5_begin : GoodIn wsX1_makeForm (wsV RX1 9 RX5 yX5_begin wsX5_begin) := goodIn_app (goodIn_of _ (by decide +kernel)) ggX1_makeForm_X5_begin
set_option maxRecDepth 20000 in
theorem ggX1_makeForm_X1_isFormPoint : GoodIn wsX1_makeForm wsX1_isFormPoint := goodIn_r _ [16] (by decide +kernel) (by decide +kernel)
set_option maxRecDepth 20000 in
theorem gX1_makeForm_X1_isFormPoint : GoodIn wsX1_makeForm (va_wsS RX1 27 yX1_isFormPoint wsX1_isFormPoint) := goodIn_app (goodIn_of _ (by decide +kernel)) ggX1_makeForm_X1_isFormPoint
set_option maxRecDepth 20000 in
theorem ggX1_makeForm_X1_nearByForm : GoodIn wsX1_makeForm wsX1_nearByForm := goodIn_r _ [19, 13, 14, 15, 16, 20, 21, 22] (by decide +kernel) (by decide +kernel)
set_option maxRecDepth 20000 in
theorem gX1_makeForm_X1_nearByForm : GoodIn wsX1_makeForm (va_wsS RX1 37 yX1_nearByForm wsX1_nearByForm) := goodIn_app (goodIn_of _ (by decide +kernel)) ggX1_makeForm_X1_nearByForm
set_option maxRecDepth 20000 in
theorem ggX1_makeForm_X5_areNear : GoodIn wsX1_makeForm wsX5_areNear := goodIn_r _ [26, 12, 27, 28, 29, 37, 38, 39, 40, 41, 42, 43, 44] (by decide +kernel) (by decide +kernel)
set_option maxRecDepth 20000 in
theorem gX1_makeForm_X5_areNear : GoodIn wsX1_makeForm (wsV RX1 41 RX5 yX5_areNear wsX5_areNear) := goodIn_app (goodIn_of _ (by decide +kernel)) ggX1_makeForm_X5_areNear
set_option maxRecDepth 20000 in
theorem ggX1_makeForm_X6_below : GoodIn wsX1_makeForm wsX6_below := goodIn_r _ [31] (by decide +kernel) (by decide +kernel)
set_option maxRecDepth 20000 in
theorem gX1_makeForm_X6_below_n15 : GoodIn wsX1_makeForm (wsX6_below) := ggX1_makeForm_X6_below
set_option maxRecDepth 20000 in
theorem ggX1_makeForm_X5_add : GoodIn wsX1_makeForm wsX5_add := goodIn_r _ [35, 10, 36, 8, 11, 12, 27, 28, 29, 37, 38, 39, 40, 41, 42, 43, 44] (by decide +kernel) (by decide +kernel)
set_option maxRecDepth 20000 in
theorem gX1_makeForm_X5_add : GoodIn wsX1_makeForm (wsV RX1 19 RX5 yX5_add wsX5_add) := goodIn_app (goodIn_of _ (by decide +kernel)) ggX1_makeForm_X5_add
theorem dX1_makeForm_0 : decode cX1_makeForm 0 = .ok (.iload_n 1, 1) := by decide +kernel
theorem dX1_makeForm_1 : decode cX1_makeForm 1 = .ok (.iload_n 1, 1) := by decide +kernel
theorem dX1_makeForm_2 : decode cX1_makeForm 2 = .ok (.imul, 1) := by decide +kernel
theorem dX1_makeForm_3 : decode cX1_makeForm 3 = .ok (.iload_n 1, 1) := by decide +kernel
theorem dX1_makeForm_4 : decode cX1_makeForm 4 = .ok (.imul, 1) := by decide +kernel
theorem dX1_makeForm_5 : decode cX1_makeForm 5 = .ok (.iload_n 1, 1) := by decide +kernel
theorem dX1_makeForm_6 : decode cX1_makeForm 6 = .ok (.imul, 1) := by decide +kernel
theorem dX1_makeForm_7 : decode cX1_makeForm 7 = .ok (.istore_n 2, 1) := by decide +kernel
theorem dX1_makeForm_8 : decode cX1_makeForm 8 = .ok (.aload_n 0, 1) := by decide +kernel
theorem dX1_makeForm_9 : decode cX1_makeForm 9 = .ok (.iconst 2, 1) := by decide +kernel
theorem dX1_makeForm_10 : decode cX1_makeForm 10 = .ok (.iload_n 2, 1) := by decide +kernel
theorem dX1_makeForm_11 : decode cX1_makeForm 11 = .ok (.iconst 1, 1) := by decide +kernel
theorem dX1_makeForm_12 : decode cX1_makeForm 12 = .ok (.isub, 1) := by decide +kernel
theorem dX1_makeForm_13 : decode cX1_makeForm 13 = .ok (.iload_n 1, 1) := by decide +kernel
theorem dX1_makeForm_14 : decode cX1_makeForm 14 = .ok (.iconst 1, 1) := by decide +kernel
theorem dX1_makeForm_15 : decode cX1_makeForm 15 = .ok (.isub, 1) := by decide +kernel
theorem dX1_makeForm_16 : decode cX1_makeForm 16 = .ok (.idiv, 1) := by decide +kernel
theorem dX1_makeForm_17 : decode cX1_makeForm 17 = .ok (.iload_n 1, 1) := by decide +kernel
theorem dX1_makeForm_18 : decode cX1_makeForm 18 = .ok (.invokevirtual 9, 3) := by decide +kernel
theorem dX1_makeForm_21 : decode cX1_makeForm 21 = .ok (.iconst 0, 1) := by decide +kernel
theorem dX1_makeForm_22 : decode cX1_makeForm 22 = .ok (.istore_n 3, 1) := by decide +kernel
theorem dX1_makeForm_23 : decode cX1_makeForm 23 = .ok (.iconst 1, 1) := by decide +kernel
theorem dX1_makeForm_24 : decode cX1_makeForm 24 = .ok (.istore 4, 2) := by decide +kernel
theorem dX1_makeForm_26 : decode cX1_makeForm 26 = .ok (.iload 4, 2) := by decide +kernel
theorem dX1_makeForm_28 : decode cX1_makeForm 28 = .ok (.iload_n 2, 1) := by decide +kernel
theorem dX1_makeForm_29 : decode cX1_makeForm 29 = .ok (.if_icmp .ge 41, 3) := by decide +kernel
theorem dX1_makeForm_32 : decode cX1_makeForm 32 = .ok (.iload_n 3, 1) := by decide +kernel
theorem dX1_makeForm_33 : decode cX1_makeForm 33 = .ok (.aload_n 0, 1) := by decide +kernel
theorem dX1_makeForm_34 : decode cX1_makeForm 34 = .ok (.getfield 23, 3) := by decide +kernel
theorem dX1_makeForm_37 : decode cX1_makeForm 37 = .ok (.if_icmp .ge 33, 3) := by decide +kernel
theorem dX1_makeForm_40 : decode cX1_makeForm 40 = .ok (.iload 4, 2) := by decide +kernel
theorem dX1_makeForm_42 : decode cX1_makeForm 42 = .ok (.iload_n 1, 1) := by decide +kernel
theorem dX1_makeForm_43 : decode cX1_makeForm 43 = .ok (.invokestatic 27, 3) := by decide +kernel
theorem dX1_makeForm_46 : decode cX1_makeForm 46 = .ok (.ifCond .eq 18, 3) := by decide +kernel
theorem dX1_makeForm_49 : decode cX1_makeForm 49 = .ok (.aload_n 0, 1) := by decide +kernel
theorem dX1_makeForm_50 : decode cX1_makeForm 50 = .ok (.getfield 33, 3) := by decide +kernel
theorem dX1_makeForm_53 : decode cX1_makeForm 53 = .ok (.iload_n 3, 1) := by decide +kernel
theorem dX1_makeForm_54 : decode cX1_makeForm 54 = .ok (.iload 4, 2) := by decide +kernel
theorem dX1_makeForm_56 : decode cX1_makeForm 56 = .ok (.iload_n 1, 1) := by decide +kernel
theorem dX1_makeForm_57 : decode cX1_makeForm 57 = .ok (.invokestatic 37, 3) := by decide +kernel
theorem dX1_makeForm_60 : decode cX1_makeForm 60 = .ok (.lastore, 1) := by decide +kernel
theorem dX1_makeForm_61 : decode cX1_makeForm 61 = .ok (.iinc 3 1, 3) := by decide +kernel
theorem dX1_makeForm_64 : decode cX1_makeForm 64 = .ok (.iinc 4 1, 3) := by decide +kernel
theorem dX1_makeForm_67 : decode cX1_makeForm 67 = .ok (.goto (-41), 3) := by decide +kernel
theorem dX1_makeForm_70 : decode cX1_makeForm 70 = .ok (.iconst 0, 1) := by decide +kernel
theorem dX1_makeForm_71 : decode cX1_makeForm 71 = .ok (.istore 4, 2) := by decide +kernel
theorem dX1_makeForm_73 : decode cX1_makeForm 73 = .ok (.iload 4, 2) := by decide +kernel
theorem dX1_makeForm_75 : decode cX1_makeForm 75 = .ok (.aload_n 0, 1) := by decide +kernel
theorem dX1_makeForm_76 : decode cX1_makeForm 76 = .ok (.getfield 23, 3) := by decide +kernel
theorem dX1_makeForm_79 : decode cX1_makeForm 79 = .ok (.if_icmp .ge 81, 3) := by decide +kernel
theorem dX1_makeForm_82 : decode cX1_makeForm 82 = .ok (.iload 4, 2) := by decide +kernel
theorem dX1_makeForm_84 : decode cX1_makeForm 84 = .ok (.iconst 1, 1) := by decide +kernel
theorem dX1_makeForm_85 : decode cX1_makeForm 85 = .ok (.iadd, 1) := by decide +kernel
theorem dX1_makeForm_86 : decode cX1_makeForm 86 = .ok (.istore 5, 2) := by decide +kernel
theorem dX1_makeForm_88 : decode cX1_makeForm 88 = .ok (.iload 5, 2) := by decide +kernel
theorem dX1_makeForm_90 : decode cX1_makeForm 90 = .ok (.aload_n 0, 1) := by decide +kernel
theorem dX1_makeForm_91 : decode cX1_makeForm 91 = .ok (.getfield 23, 3) := by decide +kernel
theorem dX1_makeForm_94 : decode cX1_makeForm 94 = .ok (.if_icmp .ge 60, 3) := by decide +kernel
theorem dX1_makeForm_97 : decode cX1_makeForm 97 = .ok (.aload_n 0, 1) := by decide +kernel
theorem dX1_makeForm_98 : decode cX1_makeForm 98 = .ok (.getfield 33, 3) := by decide +kernel
theorem dX1_makeForm_101 : decode cX1_makeForm 101 = .ok (.iload 4, 2) := by decide +kernel
theorem dX1_makeForm_103 : decode cX1_makeForm 103 = .ok (.laload, 1) := by decide +kernel
theorem dX1_makeForm_104 : decode cX1_makeForm 104 = .ok (.aload_n 0, 1) := by decide +kernel
theorem dX1_makeForm_105 : decode cX1_makeForm 105 = .ok (.getfield 33, 3) := by decide +kernel
theorem dX1_makeForm_108 : decode cX1_makeForm 108 = .ok (.iload 5, 2) := by decide +kernel
theorem dX1_makeForm_110 : decode cX1_makeForm 110 = .ok (.laload, 1) := by decide +kernel
theorem dX1_makeForm_111 : decode cX1_makeForm 111 = .ok (.land, 1) := by decide +kernel
theorem dX1_makeForm_112 : decode cX1_makeForm 112 = .ok (.lstore 6, 2) := by decide +kernel
theorem dX1_makeForm_114 : decode cX1_makeForm 114 = .ok (.aload_n 0, 1) := by decide +kernel
theorem dX1_makeForm_115 : decode cX1_makeForm 115 = .ok (.iload 4, 2) := by decide +kernel
theorem dX1_makeForm_117 : decode cX1_makeForm 117 = .ok (.iload 5, 2) := by decide +kernel
theorem dX1_makeForm_119 : decode cX1_makeForm 119 = .ok (.invokevirtual 41, 3) := by decide +kernel
theorem dX1_makeForm_122 : decode cX1_makeForm 122 = .ok (.ifCond .eq 26, 3) := by decide +kernel
theorem dX1_makeForm_125 : decode cX1_makeForm 125 = .ok (.lload 6, 2) := by decide +kernel
theorem dX1_makeForm_127 : decode cX1_makeForm 127 = .ok (.iload 5, 2) := by decide +kernel
theorem dX1_makeForm_129 : decode cX1_makeForm 129 = .ok (.invokestatic 15, 3) := by decide +kernel
theorem dX1_makeForm_132 : decode cX1_makeForm 132 = .ok (.land, 1) := by decide +kernel
theorem dX1_makeForm_133 : decode cX1_makeForm 133 = .ok (.lconst 1, 1) := by decide +kernel
theorem dX1_makeForm_134 : decode cX1_makeForm 134 = .ok (.iload 4, 2) := by decide +kernel
theorem dX1_makeForm_136 : decode cX1_makeForm 136 = .ok (.lshl, 1) := by decide +kernel
theorem dX1_makeForm_137 : decode cX1_makeForm 137 = .ok (.lcmp, 1) := by decide +kernel
theorem dX1_makeForm_138 : decode cX1_makeForm 138 = .ok (.ifCond .ne 10, 3) := by decide +kernel
theorem dX1_makeForm_141 : decode cX1_makeForm 141 = .ok (.aload_n 0, 1) := by decide +kernel
theorem dX1_makeForm_142 : decode cX1_makeForm 142 = .ok (.lload 6, 2) := by decide +kernel
theorem dX1_makeForm_144 : decode cX1_makeForm 144 = .ok (.invokevirtual 19, 3) := by decide +kernel
theorem dX1_makeForm_147 : decode cX1_makeForm 147 = .ok (.pop, 1) := by decide +kernel
theorem dX1_makeForm_148 : decode cX1_makeForm 148 = .ok (.iinc 5 1, 3) := by decide +kernel
theorem dX1_makeForm_151 : decode cX1_makeForm 151 = .ok (.goto (-63), 3) := by decide +kernel
theorem dX1_makeForm_154 : decode cX1_makeForm 154 = .ok (.iinc 4 1, 3) := by decide +kernel
theorem dX1_makeForm_157 : decode cX1_makeForm 157 = .ok (.goto (-84), 3) := by decide +kernel
theorem dX1_makeForm_160 : decode cX1_makeForm 160 = .ok (.return_, 1) := by decide +kernel
set_option maxRecDepth 20000 in
theorem ggX1_nearByForm_X1_isFormPoint : GoodIn wsX1_nearByForm wsX1_isFormPoint := goodIn_r _ [4] (by decide +kernel) (by decide +kernel)
set_option maxRecDepth 20000 in
theorem gX1_nearByForm_X1_isFormPoint : GoodIn wsX1_nearByForm (va_wsS RX1 27 yX1_isFormPoint wsX1_isFormPoint) := goodIn_app (goodIn_of _ (by decide +kernel)) ggX1_nearByForm_X1_isFormPoint
set_option maxRecDepth 20000 in
theorem ggX1_nearByForm_X1_isZeroForm : GoodIn wsX1_nearByForm wsX1_isZeroForm := goodIn_r _ [7] (by decide +kernel) (by decide +kernel)
set_option maxRecDepth 20000 in
theorem gX1_nearByForm_X1_isZeroForm : GoodIn wsX1_nearByForm (va_wsS RX1 44 yX1_isZeroForm wsX1_isZeroForm) := goodIn_app (goodIn_of _ (by decide +kernel)) ggX1_nearByForm_X1_isZeroForm
theorem dX1_nearByForm_0 : decode cX1_nearByForm 0 = .ok (.iload_n 1, 1) := by decide +kernel
theorem dX1_nearByForm_1 : decode cX1_nearByForm 1 = .ok (.iload_n 1, 1) := by decide +kernel
theorem dX1_nearByForm_2 : decode cX1_nearByForm 2 = .ok (.imul, 1) := by decide +kernel
theorem dX1_nearByForm_3 : decode cX1_nearByForm 3 = .ok (.iload_n 1, 1) := by decide +kernel
theorem dX1_nearByForm_4 : decode cX1_nearByForm 4 = .ok (.imul, 1) := by decide +kernel
theorem dX1_nearByForm_5 : decode cX1_nearByForm 5 = .ok (.iload_n 1, 1) := by decide +kernel
theorem dX1_nearByForm_6 : decode cX1_nearByForm 6 = .ok (.imul, 1) := by decide +kernel
theorem dX1_nearByForm_7 : decode cX1_nearByForm 7 = .ok (.istore_n 2, 1) := by decide +kernel
theorem dX1_nearByForm_8 : decode cX1_nearByForm 8 = .ok (.lconst 0, 1) := by decide +kernel
theorem dX1_nearByForm_9 : decode cX1_nearByForm 9 = .ok (.lstore_n 3, 1) := by decide +kernel
theorem dX1_nearByForm_10 : decode cX1_nearByForm 10 = .ok (.iconst 0, 1) := by decide +kernel
theorem dX1_nearByForm_11 : decode cX1_nearByForm 11 = .ok (.istore 5, 2) := by decide +kernel
theorem dX1_nearByForm_13 : decode cX1_nearByForm 13 = .ok (.iconst 1, 1) := by decide +kernel
theorem dX1_nearByForm_14 : decode cX1_nearByForm 14 = .ok (.istore 6, 2) := by decide +kernel
theorem dX1_nearByForm_16 : decode cX1_nearByForm 16 = .ok (.iload 6, 2) := by decide +kernel
theorem dX1_nearByForm_18 : decode cX1_nearByForm 18 = .ok (.iload_n 2, 1) := by decide +kernel
theorem dX1_nearByForm_19 : decode cX1_nearByForm 19 = .ok (.if_icmp .ge 42, 3) := by decide +kernel
theorem dX1_nearByForm_22 : decode cX1_nearByForm 22 = .ok (.iload 6, 2) := by decide +kernel
theorem dX1_nearByForm_24 : decode cX1_nearByForm 24 = .ok (.iload_n 1, 1) := by decide +kernel
theorem dX1_nearByForm_25 : decode cX1_nearByForm 25 = .ok (.invokestatic 27, 3) := by decide +kernel
theorem dX1_nearByForm_28 : decode cX1_nearByForm 28 = .ok (.ifCond .eq 27, 3) := by decide +kernel
theorem dX1_nearByForm_31 : decode cX1_nearByForm 31 = .ok (.lload_n 3, 1) := by decide +kernel
theorem dX1_nearByForm_32 : decode cX1_nearByForm 32 = .ok (.iload_n 0, 1) := by decide +kernel
theorem dX1_nearByForm_33 : decode cX1_nearByForm 33 = .ok (.iload 6, 2) := by decide +kernel
theorem dX1_nearByForm_35 : decode cX1_nearByForm 35 = .ok (.iload_n 1, 1) := by decide +kernel
theorem dX1_nearByForm_36 : decode cX1_nearByForm 36 = .ok (.invokestatic 44, 3) := by decide +kernel
theorem dX1_nearByForm_39 : decode cX1_nearByForm 39 = .ok (.ifCond .eq 10, 3) := by decide +kernel
theorem dX1_nearByForm_42 : decode cX1_nearByForm 42 = .ok (.lconst 1, 1) := by decide +kernel
theorem dX1_nearByForm_43 : decode cX1_nearByForm 43 = .ok (.iload 5, 2) := by decide +kernel
theorem dX1_nearByForm_45 : decode cX1_nearByForm 45 = .ok (.lshl, 1) := by decide +kernel
theorem dX1_nearByForm_46 : decode cX1_nearByForm 46 = .ok (.goto 4, 3) := by decide +kernel
theorem dX1_nearByForm_49 : decode cX1_nearByForm 49 = .ok (.lconst 0, 1) := by decide +kernel
theorem dX1_nearByForm_50 : decode cX1_nearByForm 50 = .ok (.lor, 1) := by decide +kernel
theorem dX1_nearByForm_51 : decode cX1_nearByForm 51 = .ok (.lstore_n 3, 1) := by decide +kernel
theorem dX1_nearByForm_52 : decode cX1_nearByForm 52 = .ok (.iinc 5 1, 3) := by decide +kernel
theorem dX1_nearByForm_55 : decode cX1_nearByForm 55 = .ok (.iinc 6 1, 3) := by decide +kernel
theorem dX1_nearByForm_58 : decode cX1_nearByForm 58 = .ok (.goto (-42), 3) := by decide +kernel
theorem dX1_nearByForm_61 : decode cX1_nearByForm 61 = .ok (.lload_n 3, 1) := by decide +kernel
theorem dX1_nearByForm_62 : decode cX1_nearByForm 62 = .ok (.lreturn, 1) := by decide +kernel
theorem dX1_isFormPoint_0 : decode cX1_isFormPoint 0 = .ok (.iload_n 0, 1) := by decide +kernel
theorem dX1_isFormPoint_1 : decode cX1_isFormPoint 1 = .ok (.istore_n 2, 1) := by decide +kernel
theorem dX1_isFormPoint_2 : decode cX1_isFormPoint 2 = .ok (.iconst 0, 1) := by decide +kernel
theorem dX1_isFormPoint_3 : decode cX1_isFormPoint 3 = .ok (.istore_n 3, 1) := by decide +kernel
theorem dX1_isFormPoint_4 : decode cX1_isFormPoint 4 = .ok (.iconst 0, 1) := by decide +kernel
theorem dX1_isFormPoint_5 : decode cX1_isFormPoint 5 = .ok (.istore 4, 2) := by decide +kernel
theorem dX1_isFormPoint_7 : decode cX1_isFormPoint 7 = .ok (.iload 4, 2) := by decide +kernel
theorem dX1_isFormPoint_9 : decode cX1_isFormPoint 9 = .ok (.iconst 4, 1) := by decide +kernel
theorem dX1_isFormPoint_10 : decode cX1_isFormPoint 10 = .ok (.if_icmp .ge 27, 3) := by decide +kernel
theorem dX1_isFormPoint_13 : decode cX1_isFormPoint 13 = .ok (.iload_n 2, 1) := by decide +kernel
theorem dX1_isFormPoint_14 : decode cX1_isFormPoint 14 = .ok (.iload_n 1, 1) := by decide +kernel
theorem dX1_isFormPoint_15 : decode cX1_isFormPoint 15 = .ok (.irem, 1) := by decide +kernel
theorem dX1_isFormPoint_16 : decode cX1_isFormPoint 16 = .ok (.ifCond .eq 9, 3) := by decide +kernel
theorem dX1_isFormPoint_19 : decode cX1_isFormPoint 19 = .ok (.iload_n 2, 1) := by decide +kernel
theorem dX1_isFormPoint_20 : decode cX1_isFormPoint 20 = .ok (.iload_n 1, 1) := by decide +kernel
theorem dX1_isFormPoint_21 : decode cX1_isFormPoint 21 = .ok (.irem, 1) := by decide +kernel
theorem dX1_isFormPoint_22 : decode cX1_isFormPoint 22 = .ok (.goto 4, 3) := by decide +kernel
theorem dX1_isFormPoint_25 : decode cX1_isFormPoint 25 = .ok (.iload_n 3, 1) := by decide +kernel
theorem dX1_isFormPoint_26 : decode cX1_isFormPoint 26 = .ok (.istore_n 3, 1) := by decide +kernel
theorem dX1_isFormPoint_27 : decode cX1_isFormPoint 27 = .ok (.iload_n 2, 1) := by decide +kernel
theorem dX1_isFormPoint_28 : decode cX1_isFormPoint 28 = .ok (.iload_n 1, 1) := by decide +kernel
theorem dX1_isFormPoint_29 : decode cX1_isFormPoint 29 = .ok (.idiv, 1) := by decide +kernel
theorem dX1_isFormPoint_30 : decode cX1_isFormPoint 30 = .ok (.istore_n 2, 1) := by decide +kernel
theorem dX1_isFormPoint_31 : decode cX1_isFormPoint 31 = .ok (.iinc 4 1, 3) := by decide +kernel
theorem dX1_isFormPoint_34 : decode cX1_isFormPoint 34 = .ok (.goto (-27), 3) := by decide +kernel
theorem dX1_isFormPoint_37 : decode cX1_isFormPoint 37 = .ok (.iload_n 3, 1) := by decide +kernel
theorem dX1_isFormPoint_38 : decode cX1_isFormPoint 38 = .ok (.iconst 1, 1) := by decide +kernel
theorem dX1_isFormPoint_39 : decode cX1_isFormPoint 39 = .ok (.if_icmp .ne 7, 3) := by decide +kernel
theorem dX1_isFormPoint_42 : decode cX1_isFormPoint 42 = .ok (.iconst 1, 1) := by decide +kernel
theorem dX1_isFormPoint_43 : decode cX1_isFormPoint 43 = .ok (.goto 4, 3) := by decide +kernel
theorem dX1_isFormPoint_46 : decode cX1_isFormPoint 46 = .ok (.iconst 0, 1) := by decide +kernel
theorem dX1_isFormPoint_47 : decode cX1_isFormPoint 47 = .ok (.ireturn, 1) := by decide +kernel
theorem dX1_isZeroForm_0 : decode cX1_isZeroForm 0 = .ok (.iload_n 0, 1) := by decide +kernel
theorem dX1_isZeroForm_1 : decode cX1_isZeroForm 1 = .ok (.iload_n 2, 1) := by decide +kernel
theorem dX1_isZeroForm_2 : decode cX1_isZeroForm 2 = .ok (.iload_n 2, 1) := by decide +kernel
theorem dX1_isZeroForm_3 : decode cX1_isZeroForm 3 = .ok (.imul, 1) := by decide +kernel
theorem dX1_isZeroForm_4 : decode cX1_isZeroForm 4 = .ok (.iload_n 2, 1) := by decide +kernel
theorem dX1_isZeroForm_5 : decode cX1_isZeroForm 5 = .ok (.imul, 1) := by decide +kernel
theorem dX1_isZeroForm_6 : decode cX1_isZeroForm 6 = .ok (.idiv, 1) := by decide +kernel
theorem dX1_isZeroForm_7 : decode cX1_isZeroForm 7 = .ok (.istore_n 3, 1) := by decide +kernel
theorem dX1_isZeroForm_8 : decode cX1_isZeroForm 8 = .ok (.iload_n 0, 1) := by decide +kernel
theorem dX1_isZeroForm_9 : decode cX1_isZeroForm 9 = .ok (.iload_n 2, 1) := by decide +kernel
theorem dX1_isZeroForm_10 : decode cX1_isZeroForm 10 = .ok (.iload_n 2, 1) := by decide +kernel
theorem dX1_isZeroForm_11 : decode cX1_isZeroForm 11 = .ok (.imul, 1) := by decide +kernel
theorem dX1_isZeroForm_12 : decode cX1_isZeroForm 12 = .ok (.idiv, 1) := by decide +kernel
theorem dX1_isZeroForm_13 : decode cX1_isZeroForm 13 = .ok (.iload_n 2, 1) := by decide +kernel
theorem dX1_isZeroForm_14 : decode cX1_isZeroForm 14 = .ok (.irem, 1) := by decide +kernel
theorem dX1_isZeroForm_15 : decode cX1_isZeroForm 15 = .ok (.istore 4, 2) := by decide +kernel
theorem dX1_isZeroForm_17 : decode cX1_isZeroForm 17 = .ok (.iload_n 0, 1) := by decide +kernel
theorem dX1_isZeroForm_18 : decode cX1_isZeroForm 18 = .ok (.iload_n 2, 1) := by decide +kernel
theorem dX1_isZeroForm_19 : decode cX1_isZeroForm 19 = .ok (.idiv, 1) := by decide +kernel
theorem dX1_isZeroForm_20 : decode cX1_isZeroForm 20 = .ok (.iload_n 2, 1) := by decide +kernel
theorem dX1_isZeroForm_21 : decode cX1_isZeroForm 21 = .ok (.irem, 1) := by decide +kernel
theorem dX1_isZeroForm_22 : decode cX1_isZeroForm 22 = .ok (.istore 5, 2) := by decide +kernel
theorem dX1_isZeroForm_24 : decode cX1_isZeroForm 24 = .ok (.iload_n 0, 1) := by decide +kernel
theorem dX1_isZeroForm_25 : decode cX1_isZeroForm 25 = .ok (.iload_n 2, 1) := by decide +kernel
theorem dX1_isZeroForm_26 : decode cX1_isZeroForm 26 = .ok (.irem, 1) := by decide +kernel
theorem dX1_isZeroForm_27 : decode cX1_isZeroForm 27 = .ok (.istore 6, 2) := by decide +kernel
theorem dX1_isZeroForm_29 : decode cX1_isZeroForm 29 = .ok (.iload_n 1, 1) := by decide +kernel
theorem dX1_isZeroForm_30 : decode cX1_isZeroForm 30 = .ok (.iload_n 2, 1) := by decide +kernel
theorem dX1_isZeroForm_31 : decode cX1_isZeroForm 31 = .ok (.iload_n 2, 1) := by decide +kernel
theorem dX1_isZeroForm_32 : decode cX1_isZeroForm 32 = .ok (.imul, 1) := by decide +kernel
theorem dX1_isZeroForm_33 : decode cX1_isZeroForm 33 = .ok (.iload_n 2, 1) := by decide +kernel
theorem dX1_isZeroForm_34 : decode cX1_isZeroForm 34 = .ok (.imul, 1) := by decide +kernel
theorem dX1_isZeroForm_35 : decode cX1_isZeroForm 35 = .ok (.idiv, 1) := by decide +kernel
theorem dX1_isZeroForm_36 : decode cX1_isZeroForm 36 = .ok (.istore 7, 2) := by decide +kernel
theorem dX1_isZeroForm_38 : decode cX1_isZeroForm 38 = .ok (.iload_n 1, 1) := by decide +kernel
theorem dX1_isZeroForm_39 : decode cX1_isZeroForm 39 = .ok (.iload_n 2, 1) := by decide +kernel
theorem dX1_isZeroForm_40 : decode cX1_isZeroForm 40 = .ok (.iload_n 2, 1) := by decide +kernel
theorem dX1_isZeroForm_41 : decode cX1_isZeroForm 41 = .ok (.imul, 1) := by decide +kernel
theorem dX1_isZeroForm_42 : decode cX1_isZeroForm 42 = .ok (.idiv, 1) := by decide +kernel
theorem dX1_isZeroForm_43 : decode cX1_isZeroForm 43 = .ok (.iload_n 2, 1) := by decide +kernel
theorem dX1_isZeroForm_44 : decode cX1_isZeroForm 44 = .ok (.irem, 1) := by decide +kernel
theorem dX1_isZeroForm_45 : decode cX1_isZeroForm 45 = .ok (.istore 8, 2) := by decide +kernel
theorem dX1_isZeroForm_47 : decode cX1_isZeroForm 47 = .ok (.iload_n 1, 1) := by decide +kernel
theorem dX1_isZeroForm_48 : decode cX1_isZeroForm 48 = .ok (.iload_n 2, 1) := by decide +kernel
theorem dX1_isZeroForm_49 : decode cX1_isZeroForm 49 = .ok (.idiv, 1) := by decide +kernel
theorem dX1_isZeroForm_50 : decode cX1_isZeroForm 50 = .ok (.iload_n 2, 1) := by decide +kernel
theorem dX1_isZeroForm_51 : decode cX1_isZeroForm 51 = .ok (.irem, 1) := by decide +kernel
theorem dX1_isZeroForm_52 : decode cX1_isZeroForm 52 = .ok (.istore 9, 2) := by decide +kernel
theorem dX1_isZeroForm_54 : decode cX1_isZeroForm 54 = .ok (.iload_n 1, 1) := by decide +kernel
theorem dX1_isZeroForm_55 : decode cX1_isZeroForm 55 = .ok (.iload_n 2, 1) := by decide +kernel
theorem dX1_isZeroForm_56 : decode cX1_isZeroForm 56 = .ok (.irem, 1) := by decide +kernel
theorem dX1_isZeroForm_57 : decode cX1_isZeroForm 57 = .ok (.istore 10, 2) := by decide +kernel
theorem dX1_isZeroForm_59 : decode cX1_isZeroForm 59 = .ok (.iload_n 3, 1) := by decide +kernel
theorem dX1_isZeroForm_60 : decode cX1_isZeroForm 60 = .ok (.iload 8, 2) := by decide +kernel
theorem dX1_isZeroForm_62 : decode cX1_isZeroForm 62 = .ok (.imul, 1) := by decide +kernel
theorem dX1_isZeroForm_63 : decode cX1_isZeroForm 63 = .ok (.iload 4, 2) := by decide +kernel
theorem dX1_isZeroForm_65 : decode cX1_isZeroForm 65 = .ok (.iload 7, 2) := by decide +kernel
theorem dX1_isZeroForm_67 : decode cX1_isZeroForm 67 = .ok (.imul, 1) := by decide +kernel
theorem dX1_isZeroForm_68 : decode cX1_isZeroForm 68 = .ok (.isub, 1) := by decide +kernel
theorem dX1_isZeroForm_69 : decode cX1_isZeroForm 69 = .ok (.iload 5, 2) := by decide +kernel
theorem dX1_isZeroForm_71 : decode cX1_isZeroForm 71 = .ok (.iload 10, 2) := by decide +kernel
theorem dX1_isZeroForm_73 : decode cX1_isZeroForm 73 = .ok (.imul, 1) := by decide +kernel
theorem dX1_isZeroForm_74 : decode cX1_isZeroForm 74 = .ok (.iadd, 1) := by decide +kernel
theorem dX1_isZeroForm_75 : decode cX1_isZeroForm 75 = .ok (.iload 6, 2) := by decide +kernel
theorem dX1_isZeroForm_77 : decode cX1_isZeroForm 77 = .ok (.iload 9, 2) := by decide +kernel
theorem dX1_isZeroForm_79 : decode cX1_isZeroForm 79 = .ok (.imul, 1) := by decide +kernel
theorem dX1_isZeroForm_80 : decode cX1_isZeroForm 80 = .ok (.isub, 1) := by decide +kernel
theorem dX1_isZeroForm_81 : decode cX1_isZeroForm 81 = .ok (.iload_n 2, 1) := by decide +kernel
theorem dX1_isZeroForm_82 : decode cX1_isZeroForm 82 = .ok (.irem, 1) := by decide +kernel
theorem dX1_isZeroForm_83 : decode cX1_isZeroForm 83 = .ok (.ifCond .ne 7, 3) := by decide +kernel
theorem dX1_isZeroForm_86 : decode cX1_isZeroForm 86 = .ok (.iconst 1, 1) := by decide +kernel
theorem dX1_isZeroForm_87 : decode cX1_isZeroForm 87 = .ok (.goto 4, 3) := by decide +kernel
theorem dX1_isZeroForm_90 : decode cX1_isZeroForm 90 = .ok (.iconst 0, 1) := by decide +kernel
theorem dX1_isZeroForm_91 : decode cX1_isZeroForm 91 = .ok (.ireturn, 1) := by decide +kernel
set_option maxRecDepth 20000 in
theorem ggX1_makeTurned_X5_begin : GoodIn wsX1_makeTurned wsX5_begin := goodIn_r _ [5, 6, 7, 8, 9, 10, 11, 12, 21, 22, 23, 24, 25, 26, 27, 28] (by decide +kernel) (by decide +kernel)
set_option maxRecDepth 20000 in
theorem gX1_makeTurned_X5_begin : GoodIn wsX1_makeTurned (wsV RX1 9 RX5 yX5_begin wsX5_begin) := goodIn_app (goodIn_of _ (by decide +kernel)) ggX1_makeTurned_X5_begin
set_option maxRecDepth 20000 in
theorem ggX1_makeTurned_X5_add : GoodIn wsX1_makeTurned wsX5_add := goodIn_r _ [16, 10, 17, 8, 11, 12, 18, 19, 20, 21, 22, 23, 24, 25, 26, 27, 28] (by decide +kernel) (by decide +kernel)
set_option maxRecDepth 20000 in
theorem gX1_makeTurned_X5_add : GoodIn wsX1_makeTurned (wsV RX1 19 RX5 yX5_add wsX5_add) := goodIn_app (goodIn_of _ (by decide +kernel)) ggX1_makeTurned_X5_add
theorem dX1_makeTurned_0 : decode cX1_makeTurned 0 = .ok (.aload_n 1, 1) := by decide +kernel
theorem dX1_makeTurned_1 : decode cX1_makeTurned 1 = .ok (.iconst 3, 1) := by decide +kernel
theorem dX1_makeTurned_2 : decode cX1_makeTurned 2 = .ok (.aload_n 0, 1) := by decide +kernel
theorem dX1_makeTurned_3 : decode cX1_makeTurned 3 = .ok (.getfield 48, 3) := by decide +kernel
theorem dX1_makeTurned_6 : decode cX1_makeTurned 6 = .ok (.iconst 0, 1) := by decide +kernel
theorem dX1_makeTurned_7 : decode cX1_makeTurned 7 = .ok (.invokevirtual 9, 3) := by decide +kernel
theorem dX1_makeTurned_10 : decode cX1_makeTurned 10 = .ok (.iconst 0, 1) := by decide +kernel
theorem dX1_makeTurned_11 : decode cX1_makeTurned 11 = .ok (.istore_n 2, 1) := by decide +kernel
theorem dX1_makeTurned_12 : decode cX1_makeTurned 12 = .ok (.iload_n 2, 1) := by decide +kernel
theorem dX1_makeTurned_13 : decode cX1_makeTurned 13 = .ok (.aload_n 0, 1) := by decide +kernel
theorem dX1_makeTurned_14 : decode cX1_makeTurned 14 = .ok (.getfield 23, 3) := by decide +kernel
theorem dX1_makeTurned_17 : decode cX1_makeTurned 17 = .ok (.if_icmp .ge 20, 3) := by decide +kernel
theorem dX1_makeTurned_20 : decode cX1_makeTurned 20 = .ok (.aload_n 1, 1) := by decide +kernel
theorem dX1_makeTurned_21 : decode cX1_makeTurned 21 = .ok (.aload_n 0, 1) := by decide +kernel
theorem dX1_makeTurned_22 : decode cX1_makeTurned 22 = .ok (.getfield 51, 3) := by decide +kernel
theorem dX1_makeTurned_25 : decode cX1_makeTurned 25 = .ok (.iload_n 2, 1) := by decide +kernel
theorem dX1_makeTurned_26 : decode cX1_makeTurned 26 = .ok (.laload, 1) := by decide +kernel
theorem dX1_makeTurned_27 : decode cX1_makeTurned 27 = .ok (.invokevirtual 19, 3) := by decide +kernel
theorem dX1_makeTurned_30 : decode cX1_makeTurned 30 = .ok (.pop, 1) := by decide +kernel
theorem dX1_makeTurned_31 : decode cX1_makeTurned 31 = .ok (.iinc 2 1, 3) := by decide +kernel
theorem dX1_makeTurned_34 : decode cX1_makeTurned 34 = .ok (.goto (-22), 3) := by decide +kernel
theorem dX1_makeTurned_37 : decode cX1_makeTurned 37 = .ok (.return_, 1) := by decide +kernel
set_option maxRecDepth 20000 in
theorem ggX1_makeAbout_X6_below : GoodIn wsX1_makeAbout wsX6_below := goodIn_r _ [4] (by decide +kernel) (by decide +kernel)
set_option maxRecDepth 20000 in
theorem gX1_makeAbout_X6_below_n15 : GoodIn wsX1_makeAbout (wsX6_below) := ggX1_makeAbout_X6_below
set_option maxRecDepth 20000 in
theorem ggX1_makeAbout_J13_bitCount_95d88 : GoodIn wsX1_makeAbout wsJ13_bitCount_95d88 := goodIn_r _ [8, 9, 10, 11] (by decide +kernel) (by decide +kernel)
set_option maxRecDepth 20000 in
theorem gX1_makeAbout_J13_bitCount_95d88 : GoodIn wsX1_makeAbout (va_wsS RX1 56 yJ13_bitCount_95d88 wsJ13_bitCount_95d88) := goodIn_app (goodIn_of _ (by decide +kernel)) ggX1_makeAbout_J13_bitCount_95d88
set_option maxRecDepth 20000 in
theorem ggX1_makeAbout_X5_begin : GoodIn wsX1_makeAbout wsX5_begin := goodIn_r _ [16, 17, 18, 19, 20, 21, 22, 23, 43, 44, 45, 46, 47, 48, 49, 50] (by decide +kernel) (by decide +kernel)
set_option maxRecDepth 20000 in
theorem gX1_makeAbout_X5_begin : GoodIn wsX1_makeAbout (wsV RX1 9 RX5 yX5_begin wsX5_begin) := goodIn_app (goodIn_of _ (by decide +kernel)) ggX1_makeAbout_X5_begin
set_option maxRecDepth 20000 in
theorem ggX1_makeAbout_X6_has : GoodIn wsX1_makeAbout wsX6_has := goodIn_r _ [25] (by decide +kernel) (by decide +kernel)
set_option maxRecDepth 20000 in
theorem gX1_makeAbout_X6_has_n65 : GoodIn wsX1_makeAbout (wsX6_has) := ggX1_makeAbout_X6_has
set_option maxRecDepth 20000 in
theorem ggX1_makeAbout_X1_renumbered : GoodIn wsX1_makeAbout wsX1_renumbered := goodIn_r _ [29, 24, 3, 25] (by decide +kernel) (by decide +kernel)
set_option maxRecDepth 20000 in
theorem gX1_makeAbout_X1_renumbered : GoodIn wsX1_makeAbout (va_wsS RX1 69 yX1_renumbered wsX1_renumbered) := goodIn_app (goodIn_of _ (by decide +kernel)) ggX1_makeAbout_X1_renumbered
set_option maxRecDepth 20000 in
theorem ggX1_makeAbout_X5_add : GoodIn wsX1_makeAbout wsX5_add := goodIn_r _ [33, 21, 34, 19, 22, 23, 24, 3, 25, 43, 44, 45, 46, 47, 48, 49, 50] (by decide +kernel) (by decide +kernel)
set_option maxRecDepth 20000 in
theorem gX1_makeAbout_X5_add : GoodIn wsX1_makeAbout (wsV RX1 19 RX5 yX5_add wsX5_add) := goodIn_app (goodIn_of _ (by decide +kernel)) ggX1_makeAbout_X5_add
set_option maxRecDepth 20000 in
theorem ggX1_makeAbout_X5_spanSet : GoodIn wsX1_makeAbout wsX5_spanSet := goodIn_r _ [38, 23, 39, 40, 41, 15, 42, 19, 2, 3, 4, 24, 25, 43, 44, 45, 46, 47, 48, 49, 50] (by decide +kernel) (by decide +kernel)
set_option maxRecDepth 20000 in
theorem gX1_makeAbout_X5_spanSet : GoodIn wsX1_makeAbout (wsV RX1 73 RX5 yX5_spanSet wsX5_spanSet) := goodIn_app (goodIn_of _ (by decide +kernel)) ggX1_makeAbout_X5_spanSet
theorem dX1_makeAbout_0 : decode cX1_makeAbout 0 = .ok (.aload_n 0, 1) := by decide +kernel
theorem dX1_makeAbout_1 : decode cX1_makeAbout 1 = .ok (.getfield 23, 3) := by decide +kernel
theorem dX1_makeAbout_4 : decode cX1_makeAbout 4 = .ok (.invokestatic 15, 3) := by decide +kernel
theorem dX1_makeAbout_7 : decode cX1_makeAbout 7 = .ok (.aload_n 0, 1) := by decide +kernel
theorem dX1_makeAbout_8 : decode cX1_makeAbout 8 = .ok (.getfield 33, 3) := by decide +kernel
theorem dX1_makeAbout_11 : decode cX1_makeAbout 11 = .ok (.iload_n 1, 1) := by decide +kernel
theorem dX1_makeAbout_12 : decode cX1_makeAbout 12 = .ok (.laload, 1) := by decide +kernel
theorem dX1_makeAbout_13 : decode cX1_makeAbout 13 = .ok (.ldc2_w 54, 3) := by decide +kernel
theorem dX1_makeAbout_16 : decode cX1_makeAbout 16 = .ok (.lxor, 1) := by decide +kernel
theorem dX1_makeAbout_17 : decode cX1_makeAbout 17 = .ok (.land, 1) := by decide +kernel
theorem dX1_makeAbout_18 : decode cX1_makeAbout 18 = .ok (.lstore_n 3, 1) := by decide +kernel
theorem dX1_makeAbout_19 : decode cX1_makeAbout 19 = .ok (.aload_n 2, 1) := by decide +kernel
theorem dX1_makeAbout_20 : decode cX1_makeAbout 20 = .ok (.iconst 3, 1) := by decide +kernel
theorem dX1_makeAbout_21 : decode cX1_makeAbout 21 = .ok (.lload_n 3, 1) := by decide +kernel
theorem dX1_makeAbout_22 : decode cX1_makeAbout 22 = .ok (.invokestatic 56, 3) := by decide +kernel
theorem dX1_makeAbout_25 : decode cX1_makeAbout 25 = .ok (.iconst 0, 1) := by decide +kernel
theorem dX1_makeAbout_26 : decode cX1_makeAbout 26 = .ok (.invokevirtual 9, 3) := by decide +kernel
theorem dX1_makeAbout_29 : decode cX1_makeAbout 29 = .ok (.iconst 0, 1) := by decide +kernel
theorem dX1_makeAbout_30 : decode cX1_makeAbout 30 = .ok (.istore 5, 2) := by decide +kernel
theorem dX1_makeAbout_32 : decode cX1_makeAbout 32 = .ok (.iload 5, 2) := by decide +kernel
theorem dX1_makeAbout_34 : decode cX1_makeAbout 34 = .ok (.aload_n 0, 1) := by decide +kernel
theorem dX1_makeAbout_35 : decode cX1_makeAbout 35 = .ok (.getfield 48, 3) := by decide +kernel
theorem dX1_makeAbout_38 : decode cX1_makeAbout 38 = .ok (.if_icmp .ge 43, 3) := by decide +kernel
theorem dX1_makeAbout_41 : decode cX1_makeAbout 41 = .ok (.aload_n 0, 1) := by decide +kernel
theorem dX1_makeAbout_42 : decode cX1_makeAbout 42 = .ok (.getfield 62, 3) := by decide +kernel
theorem dX1_makeAbout_45 : decode cX1_makeAbout 45 = .ok (.iload 5, 2) := by decide +kernel
theorem dX1_makeAbout_47 : decode cX1_makeAbout 47 = .ok (.laload, 1) := by decide +kernel
theorem dX1_makeAbout_48 : decode cX1_makeAbout 48 = .ok (.iload_n 1, 1) := by decide +kernel
theorem dX1_makeAbout_49 : decode cX1_makeAbout 49 = .ok (.invokestatic 65, 3) := by decide +kernel
theorem dX1_makeAbout_52 : decode cX1_makeAbout 52 = .ok (.ifCond .ne 23, 3) := by decide +kernel
theorem dX1_makeAbout_55 : decode cX1_makeAbout 55 = .ok (.aload_n 2, 1) := by decide +kernel
theorem dX1_makeAbout_56 : decode cX1_makeAbout 56 = .ok (.aload_n 0, 1) := by decide +kernel
theorem dX1_makeAbout_57 : decode cX1_makeAbout 57 = .ok (.getfield 62, 3) := by decide +kernel
theorem dX1_makeAbout_60 : decode cX1_makeAbout 60 = .ok (.iload 5, 2) := by decide +kernel
theorem dX1_makeAbout_62 : decode cX1_makeAbout 62 = .ok (.laload, 1) := by decide +kernel
theorem dX1_makeAbout_63 : decode cX1_makeAbout 63 = .ok (.lload_n 3, 1) := by decide +kernel
theorem dX1_makeAbout_64 : decode cX1_makeAbout 64 = .ok (.invokestatic 69, 3) := by decide +kernel
theorem dX1_makeAbout_67 : decode cX1_makeAbout 67 = .ok (.invokevirtual 19, 3) := by decide +kernel
theorem dX1_makeAbout_70 : decode cX1_makeAbout 70 = .ok (.ifCond .ne 5, 3) := by decide +kernel
theorem dX1_makeAbout_73 : decode cX1_makeAbout 73 = .ok (.iconst 0, 1) := by decide +kernel
theorem dX1_makeAbout_74 : decode cX1_makeAbout 74 = .ok (.ireturn, 1) := by decide +kernel
theorem dX1_makeAbout_75 : decode cX1_makeAbout 75 = .ok (.iinc 5 1, 3) := by decide +kernel
theorem dX1_makeAbout_78 : decode cX1_makeAbout 78 = .ok (.goto (-46), 3) := by decide +kernel
theorem dX1_makeAbout_81 : decode cX1_makeAbout 81 = .ok (.iconst 0, 1) := by decide +kernel
theorem dX1_makeAbout_82 : decode cX1_makeAbout 82 = .ok (.istore 5, 2) := by decide +kernel
theorem dX1_makeAbout_84 : decode cX1_makeAbout 84 = .ok (.iload 5, 2) := by decide +kernel
theorem dX1_makeAbout_86 : decode cX1_makeAbout 86 = .ok (.aload_n 0, 1) := by decide +kernel
theorem dX1_makeAbout_87 : decode cX1_makeAbout 87 = .ok (.getfield 23, 3) := by decide +kernel
theorem dX1_makeAbout_90 : decode cX1_makeAbout 90 = .ok (.if_icmp .ge 63, 3) := by decide +kernel
theorem dX1_makeAbout_93 : decode cX1_makeAbout 93 = .ok (.lload_n 3, 1) := by decide +kernel
theorem dX1_makeAbout_94 : decode cX1_makeAbout 94 = .ok (.iload 5, 2) := by decide +kernel
theorem dX1_makeAbout_96 : decode cX1_makeAbout 96 = .ok (.invokestatic 65, 3) := by decide +kernel
theorem dX1_makeAbout_99 : decode cX1_makeAbout 99 = .ok (.ifCond .eq 48, 3) := by decide +kernel
theorem dX1_makeAbout_102 : decode cX1_makeAbout 102 = .ok (.aload_n 0, 1) := by decide +kernel
theorem dX1_makeAbout_103 : decode cX1_makeAbout 103 = .ok (.iload_n 1, 1) := by decide +kernel
theorem dX1_makeAbout_104 : decode cX1_makeAbout 104 = .ok (.iload 5, 2) := by decide +kernel
theorem dX1_makeAbout_106 : decode cX1_makeAbout 106 = .ok (.invokevirtual 73, 3) := by decide +kernel
theorem dX1_makeAbout_109 : decode cX1_makeAbout 109 = .ok (.lconst 1, 1) := by decide +kernel
theorem dX1_makeAbout_110 : decode cX1_makeAbout 110 = .ok (.iload_n 1, 1) := by decide +kernel
theorem dX1_makeAbout_111 : decode cX1_makeAbout 111 = .ok (.lshl, 1) := by decide +kernel
theorem dX1_makeAbout_112 : decode cX1_makeAbout 112 = .ok (.ldc2_w 54, 3) := by decide +kernel
theorem dX1_makeAbout_115 : decode cX1_makeAbout 115 = .ok (.lxor, 1) := by decide +kernel
theorem dX1_makeAbout_116 : decode cX1_makeAbout 116 = .ok (.land, 1) := by decide +kernel
theorem dX1_makeAbout_117 : decode cX1_makeAbout 117 = .ok (.lstore 6, 2) := by decide +kernel
theorem dX1_makeAbout_119 : decode cX1_makeAbout 119 = .ok (.lload 6, 2) := by decide +kernel
theorem dX1_makeAbout_121 : decode cX1_makeAbout 121 = .ok (.iload 5, 2) := by decide +kernel
theorem dX1_makeAbout_123 : decode cX1_makeAbout 123 = .ok (.invokestatic 15, 3) := by decide +kernel
theorem dX1_makeAbout_126 : decode cX1_makeAbout 126 = .ok (.land, 1) := by decide +kernel
theorem dX1_makeAbout_127 : decode cX1_makeAbout 127 = .ok (.lconst 0, 1) := by decide +kernel
theorem dX1_makeAbout_128 : decode cX1_makeAbout 128 = .ok (.lcmp, 1) := by decide +kernel
theorem dX1_makeAbout_129 : decode cX1_makeAbout 129 = .ok (.ifCond .ne 18, 3) := by decide +kernel
theorem dX1_makeAbout_132 : decode cX1_makeAbout 132 = .ok (.aload_n 2, 1) := by decide +kernel
theorem dX1_makeAbout_133 : decode cX1_makeAbout 133 = .ok (.lload 6, 2) := by decide +kernel
theorem dX1_makeAbout_135 : decode cX1_makeAbout 135 = .ok (.lload_n 3, 1) := by decide +kernel
theorem dX1_makeAbout_136 : decode cX1_makeAbout 136 = .ok (.invokestatic 69, 3) := by decide +kernel
theorem dX1_makeAbout_139 : decode cX1_makeAbout 139 = .ok (.invokevirtual 19, 3) := by decide +kernel
theorem dX1_makeAbout_142 : decode cX1_makeAbout 142 = .ok (.ifCond .ne 5, 3) := by decide +kernel
theorem dX1_makeAbout_145 : decode cX1_makeAbout 145 = .ok (.iconst 0, 1) := by decide +kernel
theorem dX1_makeAbout_146 : decode cX1_makeAbout 146 = .ok (.ireturn, 1) := by decide +kernel
theorem dX1_makeAbout_147 : decode cX1_makeAbout 147 = .ok (.iinc 5 1, 3) := by decide +kernel
theorem dX1_makeAbout_150 : decode cX1_makeAbout 150 = .ok (.goto (-66), 3) := by decide +kernel
theorem dX1_makeAbout_153 : decode cX1_makeAbout 153 = .ok (.iconst 1, 1) := by decide +kernel
theorem dX1_makeAbout_154 : decode cX1_makeAbout 154 = .ok (.ireturn, 1) := by decide +kernel
set_option maxRecDepth 20000 in
theorem ggX1_makePart_J13_bitCount_95d88 : GoodIn wsX1_makePart wsJ13_bitCount_95d88 := goodIn_r _ [4, 5, 6, 7] (by decide +kernel) (by decide +kernel)
set_option maxRecDepth 20000 in
theorem gX1_makePart_J13_bitCount_95d88 : GoodIn wsX1_makePart (va_wsS RX1 56 yJ13_bitCount_95d88 wsJ13_bitCount_95d88) := goodIn_app (goodIn_of _ (by decide +kernel)) ggX1_makePart_J13_bitCount_95d88
set_option maxRecDepth 20000 in
theorem ggX1_makePart_X5_begin : GoodIn wsX1_makePart wsX5_begin := goodIn_r _ [12, 13, 14, 15, 16, 17, 18, 19, 32, 33, 34, 35, 36, 37, 38, 39] (by decide +kernel) (by decide +kernel)
set_option maxRecDepth 20000 in
theorem gX1_makePart_X5_begin : GoodIn wsX1_makePart (wsV RX1 9 RX5 yX5_begin wsX5_begin) := goodIn_app (goodIn_of _ (by decide +kernel)) ggX1_makePart_X5_begin
set_option maxRecDepth 20000 in
theorem ggX1_makePart_X1_renumbered : GoodIn wsX1_makePart wsX1_renumbered := goodIn_r _ [23, 24, 25, 26] (by decide +kernel) (by decide +kernel)
set_option maxRecDepth 20000 in
theorem gX1_makePart_X1_renumbered : GoodIn wsX1_makePart (va_wsS RX1 69 yX1_renumbered wsX1_renumbered) := goodIn_app (goodIn_of _ (by decide +kernel)) ggX1_makePart_X1_renumbered
set_option maxRecDepth 20000 in
theorem ggX1_makePart_X5_add : GoodIn wsX1_makePart wsX5_add := goodIn_r _ [30, 17, 31, 15, 18, 19, 24, 25, 26, 32, 33, 34, 35, 36, 37, 38, 39] (by decide +kernel) (by decide +kernel)
set_option maxRecDepth 20000 in
theorem gX1_makePart_X5_add : GoodIn wsX1_makePart (wsV RX1 19 RX5 yX5_add wsX5_add) := goodIn_app (goodIn_of _ (by decide +kernel)) ggX1_makePart_X5_add
theorem dX1_makePart_0 : decode cX1_makePart 0 = .ok (.aload_n 3, 1) := by decide +kernel
theorem dX1_makePart_1 : decode cX1_makePart 1 = .ok (.iconst 3, 1) := by decide +kernel
theorem dX1_makePart_2 : decode cX1_makePart 2 = .ok (.lload_n 1, 1) := by decide +kernel
theorem dX1_makePart_3 : decode cX1_makePart 3 = .ok (.invokestatic 56, 3) := by decide +kernel
theorem dX1_makePart_6 : decode cX1_makePart 6 = .ok (.iconst 0, 1) := by decide +kernel
theorem dX1_makePart_7 : decode cX1_makePart 7 = .ok (.invokevirtual 9, 3) := by decide +kernel
theorem dX1_makePart_10 : decode cX1_makePart 10 = .ok (.iconst 0, 1) := by decide +kernel
theorem dX1_makePart_11 : decode cX1_makePart 11 = .ok (.istore 4, 2) := by decide +kernel
theorem dX1_makePart_13 : decode cX1_makePart 13 = .ok (.iload 4, 2) := by decide +kernel
theorem dX1_makePart_15 : decode cX1_makePart 15 = .ok (.aload_n 0, 1) := by decide +kernel
theorem dX1_makePart_16 : decode cX1_makePart 16 = .ok (.getfield 48, 3) := by decide +kernel
theorem dX1_makePart_19 : decode cX1_makePart 19 = .ok (.if_icmp .ge 41, 3) := by decide +kernel
theorem dX1_makePart_22 : decode cX1_makePart 22 = .ok (.aload_n 0, 1) := by decide +kernel
theorem dX1_makePart_23 : decode cX1_makePart 23 = .ok (.getfield 62, 3) := by decide +kernel
theorem dX1_makePart_26 : decode cX1_makePart 26 = .ok (.iload 4, 2) := by decide +kernel
theorem dX1_makePart_28 : decode cX1_makePart 28 = .ok (.laload, 1) := by decide +kernel
theorem dX1_makePart_29 : decode cX1_makePart 29 = .ok (.lload_n 1, 1) := by decide +kernel
theorem dX1_makePart_30 : decode cX1_makePart 30 = .ok (.land, 1) := by decide +kernel
theorem dX1_makePart_31 : decode cX1_makePart 31 = .ok (.invokestatic 56, 3) := by decide +kernel
theorem dX1_makePart_34 : decode cX1_makePart 34 = .ok (.iconst 2, 1) := by decide +kernel
theorem dX1_makePart_35 : decode cX1_makePart 35 = .ok (.if_icmp .lt 19, 3) := by decide +kernel
theorem dX1_makePart_38 : decode cX1_makePart 38 = .ok (.aload_n 3, 1) := by decide +kernel
theorem dX1_makePart_39 : decode cX1_makePart 39 = .ok (.aload_n 0, 1) := by decide +kernel
theorem dX1_makePart_40 : decode cX1_makePart 40 = .ok (.getfield 62, 3) := by decide +kernel
theorem dX1_makePart_43 : decode cX1_makePart 43 = .ok (.iload 4, 2) := by decide +kernel
theorem dX1_makePart_45 : decode cX1_makePart 45 = .ok (.laload, 1) := by decide +kernel
theorem dX1_makePart_46 : decode cX1_makePart 46 = .ok (.lload_n 1, 1) := by decide +kernel
theorem dX1_makePart_47 : decode cX1_makePart 47 = .ok (.invokestatic 69, 3) := by decide +kernel
theorem dX1_makePart_50 : decode cX1_makePart 50 = .ok (.invokevirtual 19, 3) := by decide +kernel
theorem dX1_makePart_53 : decode cX1_makePart 53 = .ok (.pop, 1) := by decide +kernel
theorem dX1_makePart_54 : decode cX1_makePart 54 = .ok (.iinc 4 1, 3) := by decide +kernel
theorem dX1_makePart_57 : decode cX1_makePart 57 = .ok (.goto (-44), 3) := by decide +kernel
theorem dX1_makePart_60 : decode cX1_makePart 60 = .ok (.return_, 1) := by decide +kernel
set_option maxRecDepth 20000 in
theorem ggX1_renumbered_X6_has : GoodIn wsX1_renumbered wsX6_has := goodIn_r _ [3] (by decide +kernel) (by decide +kernel)
set_option maxRecDepth 20000 in
theorem gX1_renumbered_X6_has_n65 : GoodIn wsX1_renumbered (wsX6_has) := ggX1_renumbered_X6_has
theorem dX1_renumbered_0 : decode cX1_renumbered 0 = .ok (.lconst 0, 1) := by decide +kernel
theorem dX1_renumbered_1 : decode cX1_renumbered 1 = .ok (.lstore 4, 2) := by decide +kernel
theorem dX1_renumbered_3 : decode cX1_renumbered 3 = .ok (.iconst 0, 1) := by decide +kernel
theorem dX1_renumbered_4 : decode cX1_renumbered 4 = .ok (.istore 6, 2) := by decide +kernel
theorem dX1_renumbered_6 : decode cX1_renumbered 6 = .ok (.iconst 0, 1) := by decide +kernel
theorem dX1_renumbered_7 : decode cX1_renumbered 7 = .ok (.istore 7, 2) := by decide +kernel
theorem dX1_renumbered_9 : decode cX1_renumbered 9 = .ok (.iload 7, 2) := by decide +kernel
theorem dX1_renumbered_11 : decode cX1_renumbered 11 = .ok (.bipush 45, 2) := by decide +kernel
theorem dX1_renumbered_13 : decode cX1_renumbered 13 = .ok (.if_icmp .ge 39, 3) := by decide +kernel
theorem dX1_renumbered_16 : decode cX1_renumbered 16 = .ok (.lload_n 2, 1) := by decide +kernel
theorem dX1_renumbered_17 : decode cX1_renumbered 17 = .ok (.iload 7, 2) := by decide +kernel
theorem dX1_renumbered_19 : decode cX1_renumbered 19 = .ok (.invokestatic 65, 3) := by decide +kernel
theorem dX1_renumbered_22 : decode cX1_renumbered 22 = .ok (.ifCond .eq 24, 3) := by decide +kernel
theorem dX1_renumbered_25 : decode cX1_renumbered 25 = .ok (.lload_n 0, 1) := by decide +kernel
theorem dX1_renumbered_26 : decode cX1_renumbered 26 = .ok (.iload 7, 2) := by decide +kernel
theorem dX1_renumbered_28 : decode cX1_renumbered 28 = .ok (.invokestatic 65, 3) := by decide +kernel
theorem dX1_renumbered_31 : decode cX1_renumbered 31 = .ok (.ifCond .eq 12, 3) := by decide +kernel
theorem dX1_renumbered_34 : decode cX1_renumbered 34 = .ok (.lload 4, 2) := by decide +kernel
theorem dX1_renumbered_36 : decode cX1_renumbered 36 = .ok (.lconst 1, 1) := by decide +kernel
theorem dX1_renumbered_37 : decode cX1_renumbered 37 = .ok (.iload 6, 2) := by decide +kernel
theorem dX1_renumbered_39 : decode cX1_renumbered 39 = .ok (.lshl, 1) := by decide +kernel
theorem dX1_renumbered_40 : decode cX1_renumbered 40 = .ok (.lor, 1) := by decide +kernel
theorem dX1_renumbered_41 : decode cX1_renumbered 41 = .ok (.lstore 4, 2) := by decide +kernel
theorem dX1_renumbered_43 : decode cX1_renumbered 43 = .ok (.iinc 6 1, 3) := by decide +kernel
theorem dX1_renumbered_46 : decode cX1_renumbered 46 = .ok (.iinc 7 1, 3) := by decide +kernel
theorem dX1_renumbered_49 : decode cX1_renumbered 49 = .ok (.goto (-40), 3) := by decide +kernel
theorem dX1_renumbered_52 : decode cX1_renumbered 52 = .ok (.lload 4, 2) := by decide +kernel
theorem dX1_renumbered_54 : decode cX1_renumbered 54 = .ok (.lreturn, 1) := by decide +kernel
theorem dX2_init_0 : decode cX2_init 0 = .ok (.aload_n 0, 1) := by decide +kernel
theorem dX2_init_1 : decode cX2_init 1 = .ok (.invokespecial 3, 3) := by decide +kernel
theorem dX2_init_4 : decode cX2_init 4 = .ok (.aload_n 0, 1) := by decide +kernel
theorem dX2_init_5 : decode cX2_init 5 = .ok (.bipush 45, 2) := by decide +kernel
theorem dX2_init_7 : decode cX2_init 7 = .ok (.newarray .int, 2) := by decide +kernel
theorem dX2_init_9 : decode cX2_init 9 = .ok (.putfield 9, 3) := by decide +kernel
theorem dX2_init_12 : decode cX2_init 12 = .ok (.aload_n 0, 1) := by decide +kernel
theorem dX2_init_13 : decode cX2_init 13 = .ok (.bipush 46, 2) := by decide +kernel
theorem dX2_init_15 : decode cX2_init 15 = .ok (.newarray .long, 2) := by decide +kernel
theorem dX2_init_17 : decode cX2_init 17 = .ok (.putfield 15, 3) := by decide +kernel
theorem dX2_init_20 : decode cX2_init 20 = .ok (.aload_n 0, 1) := by decide +kernel
theorem dX2_init_21 : decode cX2_init 21 = .ok (.bipush 46, 2) := by decide +kernel
theorem dX2_init_23 : decode cX2_init 23 = .ok (.newarray .long, 2) := by decide +kernel
theorem dX2_init_25 : decode cX2_init 25 = .ok (.putfield 19, 3) := by decide +kernel
theorem dX2_init_28 : decode cX2_init 28 = .ok (.return_, 1) := by decide +kernel
set_option maxRecDepth 20000 in
theorem ggX2_match_X2_open : GoodIn wsX2_match wsX2_open := goodIn_r _ [12, 7, 4, 3, 5, 13, 14, 15, 11, 16, 17, 18, 19, 20, 21, 22, 23, 24, 25, 26, 27, 28, 29, 30, 31, 32, 33, 34, 35, 36, 37, 45, 46, 47, 48, 49, 50, 51, 52, 53, 54, 55, 56, 57, 58, 59] (by decide +kernel) (by decide +kernel)
set_option maxRecDepth 20000 in
theorem gX2_match_X2_open : GoodIn wsX2_match (wsV RX2 44 RX2 yX2_open wsX2_open) := goodIn_app (goodIn_of _ (by decide +kernel)) ggX2_match_X2_open
set_option maxRecDepth 20000 in
theorem ggX2_match_X2_take : GoodIn wsX2_match wsX2_take := goodIn_r _ [41, 7, 4, 17, 1, 25, 5, 42, 19, 43, 44, 32, 33, 34, 35, 36, 37, 8, 9, 10, 11, 12, 3, 13, 14, 15, 16, 18, 20, 21, 22, 23, 24, 26, 27, 28, 29, 30, 31, 45, 46, 47, 48, 49, 50, 51, 52, 53, 54, 55, 56, 57, 58, 59] (by decide +kernel) (by decide +kernel)
set_option maxRecDepth 20000 in
theorem gX2_match_X2_take : GoodIn wsX2_match (wsV RX2 49 RX2 yX2_take wsX2_take) := goodIn_app (goodIn_of _ (by decide +kernel)) ggX2_match_X2_take
theorem dX2_match_0 : decode cX2_match 0 = .ok (.aload_n 0, 1) := by decide +kernel
theorem dX2_match_1 : decode cX2_match 1 = .ok (.iconst 0, 1) := by decide +kernel
theorem dX2_match_2 : decode cX2_match 2 = .ok (.putfield 22, 3) := by decide +kernel
theorem dX2_match_5 : decode cX2_match 5 = .ok (.aload_n 0, 1) := by decide +kernel
theorem dX2_match_6 : decode cX2_match 6 = .ok (.iconst 0, 1) := by decide +kernel
theorem dX2_match_7 : decode cX2_match 7 = .ok (.putfield 26, 3) := by decide +kernel
theorem dX2_match_10 : decode cX2_match 10 = .ok (.aload_n 0, 1) := by decide +kernel
theorem dX2_match_11 : decode cX2_match 11 = .ok (.iconst 0, 1) := by decide +kernel
theorem dX2_match_12 : decode cX2_match 12 = .ok (.putfield 30, 3) := by decide +kernel
theorem dX2_match_15 : decode cX2_match 15 = .ok (.aload_n 1, 1) := by decide +kernel
theorem dX2_match_16 : decode cX2_match 16 = .ok (.getfield 33, 3) := by decide +kernel
theorem dX2_match_19 : decode cX2_match 19 = .ok (.aload_n 2, 1) := by decide +kernel
theorem dX2_match_20 : decode cX2_match 20 = .ok (.getfield 33, 3) := by decide +kernel
theorem dX2_match_23 : decode cX2_match 23 = .ok (.if_icmp .ne 14, 3) := by decide +kernel
theorem dX2_match_26 : decode cX2_match 26 = .ok (.aload_n 1, 1) := by decide +kernel
theorem dX2_match_27 : decode cX2_match 27 = .ok (.getfield 38, 3) := by decide +kernel
theorem dX2_match_30 : decode cX2_match 30 = .ok (.aload_n 2, 1) := by decide +kernel
theorem dX2_match_31 : decode cX2_match 31 = .ok (.getfield 38, 3) := by decide +kernel
theorem dX2_match_34 : decode cX2_match 34 = .ok (.if_icmp .eq 4, 3) := by decide +kernel
theorem dX2_match_37 : decode cX2_match 37 = .ok (.return_, 1) := by decide +kernel
theorem dX2_match_38 : decode cX2_match 38 = .ok (.aload_n 0, 1) := by decide +kernel
theorem dX2_match_39 : decode cX2_match 39 = .ok (.iconst 0, 1) := by decide +kernel
theorem dX2_match_40 : decode cX2_match 40 = .ok (.putfield 41, 3) := by decide +kernel
theorem dX2_match_43 : decode cX2_match 43 = .ok (.aload_n 0, 1) := by decide +kernel
theorem dX2_match_44 : decode cX2_match 44 = .ok (.getfield 15, 3) := by decide +kernel
theorem dX2_match_47 : decode cX2_match 47 = .ok (.iconst 0, 1) := by decide +kernel
theorem dX2_match_48 : decode cX2_match 48 = .ok (.lconst 0, 1) := by decide +kernel
theorem dX2_match_49 : decode cX2_match 49 = .ok (.lastore, 1) := by decide +kernel
theorem dX2_match_50 : decode cX2_match 50 = .ok (.aload_n 0, 1) := by decide +kernel
theorem dX2_match_51 : decode cX2_match 51 = .ok (.aload_n 1, 1) := by decide +kernel
theorem dX2_match_52 : decode cX2_match 52 = .ok (.aload_n 2, 1) := by decide +kernel
theorem dX2_match_53 : decode cX2_match 53 = .ok (.invokevirtual 44, 3) := by decide +kernel
theorem dX2_match_56 : decode cX2_match 56 = .ok (.iconst 0, 1) := by decide +kernel
theorem dX2_match_57 : decode cX2_match 57 = .ok (.istore 4, 2) := by decide +kernel
theorem dX2_match_59 : decode cX2_match 59 = .ok (.iload 4, 2) := by decide +kernel
theorem dX2_match_61 : decode cX2_match 61 = .ok (.ldc 48, 2) := by decide +kernel
theorem dX2_match_63 : decode cX2_match 63 = .ok (.if_icmp .ge 70, 3) := by decide +kernel
theorem dX2_match_66 : decode cX2_match 66 = .ok (.aload_n 0, 1) := by decide +kernel
theorem dX2_match_67 : decode cX2_match 67 = .ok (.getfield 41, 3) := by decide +kernel
theorem dX2_match_70 : decode cX2_match 70 = .ok (.ifCond .lt 63, 3) := by decide +kernel
theorem dX2_match_73 : decode cX2_match 73 = .ok (.aload_n 0, 1) := by decide +kernel
theorem dX2_match_74 : decode cX2_match 74 = .ok (.getfield 30, 3) := by decide +kernel
theorem dX2_match_77 : decode cX2_match 77 = .ok (.ifCond .ne 56, 3) := by decide +kernel
theorem dX2_match_80 : decode cX2_match 80 = .ok (.aload_n 0, 1) := by decide +kernel
theorem dX2_match_81 : decode cX2_match 81 = .ok (.getfield 19, 3) := by decide +kernel
theorem dX2_match_84 : decode cX2_match 84 = .ok (.aload_n 0, 1) := by decide +kernel
theorem dX2_match_85 : decode cX2_match 85 = .ok (.getfield 41, 3) := by decide +kernel
theorem dX2_match_88 : decode cX2_match 88 = .ok (.laload, 1) := by decide +kernel
theorem dX2_match_89 : decode cX2_match 89 = .ok (.lconst 0, 1) := by decide +kernel
theorem dX2_match_90 : decode cX2_match 90 = .ok (.lcmp, 1) := by decide +kernel
theorem dX2_match_91 : decode cX2_match 91 = .ok (.ifCond .ne 16, 3) := by decide +kernel
theorem dX2_match_94 : decode cX2_match 94 = .ok (.aload_n 0, 1) := by decide +kernel
theorem dX2_match_95 : decode cX2_match 95 = .ok (.dup, 1) := by decide +kernel
theorem dX2_match_96 : decode cX2_match 96 = .ok (.getfield 41, 3) := by decide +kernel
theorem dX2_match_99 : decode cX2_match 99 = .ok (.iconst 1, 1) := by decide +kernel
theorem dX2_match_100 : decode cX2_match 100 = .ok (.isub, 1) := by decide +kernel
theorem dX2_match_101 : decode cX2_match 101 = .ok (.putfield 41, 3) := by decide +kernel
theorem dX2_match_104 : decode cX2_match 104 = .ok (.goto 23, 3) := by decide +kernel
theorem dX2_match_107 : decode cX2_match 107 = .ok (.aload_n 0, 1) := by decide +kernel
theorem dX2_match_108 : decode cX2_match 108 = .ok (.getfield 22, 3) := by decide +kernel
theorem dX2_match_111 : decode cX2_match 111 = .ok (.iload_n 3, 1) := by decide +kernel
theorem dX2_match_112 : decode cX2_match 112 = .ok (.if_icmp .ne 9, 3) := by decide +kernel
theorem dX2_match_115 : decode cX2_match 115 = .ok (.aload_n 0, 1) := by decide +kernel
theorem dX2_match_116 : decode cX2_match 116 = .ok (.iconst 1, 1) := by decide +kernel
theorem dX2_match_117 : decode cX2_match 117 = .ok (.putfield 26, 3) := by decide +kernel
theorem dX2_match_120 : decode cX2_match 120 = .ok (.return_, 1) := by decide +kernel
theorem dX2_match_121 : decode cX2_match 121 = .ok (.aload_n 0, 1) := by decide +kernel
theorem dX2_match_122 : decode cX2_match 122 = .ok (.aload_n 1, 1) := by decide +kernel
theorem dX2_match_123 : decode cX2_match 123 = .ok (.aload_n 2, 1) := by decide +kernel
theorem dX2_match_124 : decode cX2_match 124 = .ok (.invokevirtual 49, 3) := by decide +kernel
theorem dX2_match_127 : decode cX2_match 127 = .ok (.iinc 4 1, 3) := by decide +kernel
theorem dX2_match_130 : decode cX2_match 130 = .ok (.goto (-71), 3) := by decide +kernel
theorem dX2_match_133 : decode cX2_match 133 = .ok (.return_, 1) := by decide +kernel
set_option maxRecDepth 20000 in
theorem ggX2_take_X6_leastOf : GoodIn wsX2_take wsX6_leastOf := goodIn_r _ [9, 10, 11, 12, 13, 14, 15, 16] (by decide +kernel) (by decide +kernel)
set_option maxRecDepth 20000 in
theorem gX2_take_X6_leastOf_n52 : GoodIn wsX2_take (wsX6_leastOf) := ggX2_take_X6_leastOf
set_option maxRecDepth 20000 in
theorem ggX2_take_X2_open : GoodIn wsX2_take wsX2_open := goodIn_r _ [21, 1, 2, 22, 6, 23, 24, 25, 20, 26, 3, 27, 8, 28, 29, 30, 31, 32, 5, 33, 34, 35, 36, 37, 38, 11, 12, 13, 14, 15, 16, 39, 40, 41, 42, 43, 44, 45, 46, 47, 48, 49, 50, 51, 52, 53] (by decide +kernel) (by decide +kernel)
set_option maxRecDepth 20000 in
theorem gX2_take_X2_open : GoodIn wsX2_take (wsV RX2 44 RX2 yX2_open wsX2_open) := goodIn_app (goodIn_of _ (by decide +kernel)) ggX2_take_X2_open
theorem dX2_take_0 : decode cX2_take 0 = .ok (.aload_n 0, 1) := by decide +kernel
theorem dX2_take_1 : decode cX2_take 1 = .ok (.getfield 19, 3) := by decide +kernel
theorem dX2_take_4 : decode cX2_take 4 = .ok (.aload_n 0, 1) := by decide +kernel
theorem dX2_take_5 : decode cX2_take 5 = .ok (.getfield 41, 3) := by decide +kernel
theorem dX2_take_8 : decode cX2_take 8 = .ok (.laload, 1) := by decide +kernel
theorem dX2_take_9 : decode cX2_take 9 = .ok (.invokestatic 52, 3) := by decide +kernel
theorem dX2_take_12 : decode cX2_take 12 = .ok (.istore_n 3, 1) := by decide +kernel
theorem dX2_take_13 : decode cX2_take 13 = .ok (.aload_n 0, 1) := by decide +kernel
theorem dX2_take_14 : decode cX2_take 14 = .ok (.getfield 19, 3) := by decide +kernel
theorem dX2_take_17 : decode cX2_take 17 = .ok (.aload_n 0, 1) := by decide +kernel
theorem dX2_take_18 : decode cX2_take 18 = .ok (.getfield 41, 3) := by decide +kernel
theorem dX2_take_21 : decode cX2_take 21 = .ok (.dup2, 1) := by decide +kernel
theorem dX2_take_22 : decode cX2_take 22 = .ok (.laload, 1) := by decide +kernel
theorem dX2_take_23 : decode cX2_take 23 = .ok (.lconst 1, 1) := by decide +kernel
theorem dX2_take_24 : decode cX2_take 24 = .ok (.iload_n 3, 1) := by decide +kernel
theorem dX2_take_25 : decode cX2_take 25 = .ok (.lshl, 1) := by decide +kernel
theorem dX2_take_26 : decode cX2_take 26 = .ok (.ldc2_w 56, 3) := by decide +kernel
theorem dX2_take_29 : decode cX2_take 29 = .ok (.lxor, 1) := by decide +kernel
theorem dX2_take_30 : decode cX2_take 30 = .ok (.land, 1) := by decide +kernel
theorem dX2_take_31 : decode cX2_take 31 = .ok (.lastore, 1) := by decide +kernel
theorem dX2_take_32 : decode cX2_take 32 = .ok (.aload_n 0, 1) := by decide +kernel
theorem dX2_take_33 : decode cX2_take 33 = .ok (.dup, 1) := by decide +kernel
theorem dX2_take_34 : decode cX2_take 34 = .ok (.getfield 22, 3) := by decide +kernel
theorem dX2_take_37 : decode cX2_take 37 = .ok (.iconst 1, 1) := by decide +kernel
theorem dX2_take_38 : decode cX2_take 38 = .ok (.iadd, 1) := by decide +kernel
theorem dX2_take_39 : decode cX2_take 39 = .ok (.putfield 22, 3) := by decide +kernel
theorem dX2_take_42 : decode cX2_take 42 = .ok (.iload_n 3, 1) := by decide +kernel
theorem dX2_take_43 : decode cX2_take 43 = .ok (.bipush 45, 2) := by decide +kernel
theorem dX2_take_45 : decode cX2_take 45 = .ok (.if_icmp .ge 64, 3) := by decide +kernel
theorem dX2_take_48 : decode cX2_take 48 = .ok (.aload_n 0, 1) := by decide +kernel
theorem dX2_take_49 : decode cX2_take 49 = .ok (.getfield 41, 3) := by decide +kernel
theorem dX2_take_52 : decode cX2_take 52 = .ok (.aload_n 1, 1) := by decide +kernel
theorem dX2_take_53 : decode cX2_take 53 = .ok (.getfield 33, 3) := by decide +kernel
theorem dX2_take_56 : decode cX2_take 56 = .ok (.if_icmp .ge 53, 3) := by decide +kernel
theorem dX2_take_59 : decode cX2_take 59 = .ok (.aload_n 0, 1) := by decide +kernel
theorem dX2_take_60 : decode cX2_take 60 = .ok (.getfield 9, 3) := by decide +kernel
theorem dX2_take_63 : decode cX2_take 63 = .ok (.aload_n 0, 1) := by decide +kernel
theorem dX2_take_64 : decode cX2_take 64 = .ok (.getfield 41, 3) := by decide +kernel
theorem dX2_take_67 : decode cX2_take 67 = .ok (.iload_n 3, 1) := by decide +kernel
theorem dX2_take_68 : decode cX2_take 68 = .ok (.iastore, 1) := by decide +kernel
theorem dX2_take_69 : decode cX2_take 69 = .ok (.aload_n 0, 1) := by decide +kernel
theorem dX2_take_70 : decode cX2_take 70 = .ok (.getfield 15, 3) := by decide +kernel
theorem dX2_take_73 : decode cX2_take 73 = .ok (.aload_n 0, 1) := by decide +kernel
theorem dX2_take_74 : decode cX2_take 74 = .ok (.getfield 41, 3) := by decide +kernel
theorem dX2_take_77 : decode cX2_take 77 = .ok (.iconst 1, 1) := by decide +kernel
theorem dX2_take_78 : decode cX2_take 78 = .ok (.iadd, 1) := by decide +kernel
theorem dX2_take_79 : decode cX2_take 79 = .ok (.aload_n 0, 1) := by decide +kernel
theorem dX2_take_80 : decode cX2_take 80 = .ok (.getfield 15, 3) := by decide +kernel
theorem dX2_take_83 : decode cX2_take 83 = .ok (.aload_n 0, 1) := by decide +kernel
theorem dX2_take_84 : decode cX2_take 84 = .ok (.getfield 41, 3) := by decide +kernel
theorem dX2_take_87 : decode cX2_take 87 = .ok (.laload, 1) := by decide +kernel
theorem dX2_take_88 : decode cX2_take 88 = .ok (.lconst 1, 1) := by decide +kernel
theorem dX2_take_89 : decode cX2_take 89 = .ok (.iload_n 3, 1) := by decide +kernel
theorem dX2_take_90 : decode cX2_take 90 = .ok (.lshl, 1) := by decide +kernel
theorem dX2_take_91 : decode cX2_take 91 = .ok (.lor, 1) := by decide +kernel
theorem dX2_take_92 : decode cX2_take 92 = .ok (.lastore, 1) := by decide +kernel
theorem dX2_take_93 : decode cX2_take 93 = .ok (.aload_n 0, 1) := by decide +kernel
theorem dX2_take_94 : decode cX2_take 94 = .ok (.dup, 1) := by decide +kernel
theorem dX2_take_95 : decode cX2_take 95 = .ok (.getfield 41, 3) := by decide +kernel
theorem dX2_take_98 : decode cX2_take 98 = .ok (.iconst 1, 1) := by decide +kernel
theorem dX2_take_99 : decode cX2_take 99 = .ok (.iadd, 1) := by decide +kernel
theorem dX2_take_100 : decode cX2_take 100 = .ok (.putfield 41, 3) := by decide +kernel
theorem dX2_take_103 : decode cX2_take 103 = .ok (.aload_n 0, 1) := by decide +kernel
theorem dX2_take_104 : decode cX2_take 104 = .ok (.aload_n 1, 1) := by decide +kernel
theorem dX2_take_105 : decode cX2_take 105 = .ok (.aload_n 2, 1) := by decide +kernel
theorem dX2_take_106 : decode cX2_take 106 = .ok (.invokevirtual 44, 3) := by decide +kernel
theorem dX2_take_109 : decode cX2_take 109 = .ok (.return_, 1) := by decide +kernel
set_option maxRecDepth 20000 in
theorem ggX2_open_X2_linesFit : GoodIn wsX2_open wsX2_linesFit := goodIn_r _ [9, 10, 11, 12, 13, 14, 15, 16, 8, 17, 18, 19, 20, 21, 22, 23, 38, 39, 40, 41, 42, 43, 44, 45, 31, 32, 33, 34, 35, 36, 37] (by decide +kernel) (by decide +kernel)
set_option maxRecDepth 20000 in
theorem gX2_open_X2_linesFit : GoodIn wsX2_open (wsV RX2 58 RX2 yX2_linesFit wsX2_linesFit) := goodIn_app (goodIn_of _ (by decide +kernel)) ggX2_open_X2_linesFit
set_option maxRecDepth 20000 in
theorem ggX2_open_X6_below : GoodIn wsX2_open wsX6_below := goodIn_r _ [13] (by decide +kernel) (by decide +kernel)
set_option maxRecDepth 20000 in
theorem gX2_open_X6_below_n65 : GoodIn wsX2_open (wsX6_below) := ggX2_open_X6_below
set_option maxRecDepth 20000 in
theorem ggX2_open_X2_imageOf : GoodIn wsX2_open wsX2_imageOf := goodIn_r _ [17, 18, 19, 12, 20, 31, 32, 33, 34, 35, 36, 37] (by decide +kernel) (by decide +kernel)
set_option maxRecDepth 20000 in
theorem gX2_open_X2_imageOf : GoodIn wsX2_open (wsV RX2 69 RX2 yX2_imageOf wsX2_imageOf) := goodIn_app (goodIn_of _ (by decide +kernel)) ggX2_open_X2_imageOf
set_option maxRecDepth 20000 in
theorem ggX2_open_J13_bitCount_95d88 : GoodIn wsX2_open wsJ13_bitCount_95d88 := goodIn_r _ [27, 28, 29, 30] (by decide +kernel) (by decide +kernel)
set_option maxRecDepth 20000 in
theorem gX2_open_J13_bitCount_95d88 : GoodIn wsX2_open (va_wsS RX2 76 yJ13_bitCount_95d88 wsJ13_bitCount_95d88) := goodIn_app (goodIn_of _ (by decide +kernel)) ggX2_open_J13_bitCount_95d88
set_option maxRecDepth 20000 in
theorem ggX2_open_X6_has : GoodIn wsX2_open wsX6_has := goodIn_r _ [20] (by decide +kernel) (by decide +kernel)
set_option maxRecDepth 20000 in
theorem gX2_open_X6_has_n81 : GoodIn wsX2_open (wsX6_has) := ggX2_open_X6_has
theorem dX2_open_0 : decode cX2_open 0 = .ok (.aload_n 0, 1) := by decide +kernel
theorem dX2_open_1 : decode cX2_open 1 = .ok (.getfield 19, 3) := by decide +kernel
theorem dX2_open_4 : decode cX2_open 4 = .ok (.aload_n 0, 1) := by decide +kernel
theorem dX2_open_5 : decode cX2_open 5 = .ok (.getfield 41, 3) := by decide +kernel
theorem dX2_open_8 : decode cX2_open 8 = .ok (.lconst 0, 1) := by decide +kernel
theorem dX2_open_9 : decode cX2_open 9 = .ok (.lastore, 1) := by decide +kernel
theorem dX2_open_10 : decode cX2_open 10 = .ok (.aload_n 0, 1) := by decide +kernel
theorem dX2_open_11 : decode cX2_open 11 = .ok (.getfield 41, 3) := by decide +kernel
theorem dX2_open_14 : decode cX2_open 14 = .ok (.aload_n 1, 1) := by decide +kernel
theorem dX2_open_15 : decode cX2_open 15 = .ok (.getfield 33, 3) := by decide +kernel
theorem dX2_open_18 : decode cX2_open 18 = .ok (.if_icmp .ne 14, 3) := by decide +kernel
theorem dX2_open_21 : decode cX2_open 21 = .ok (.aload_n 0, 1) := by decide +kernel
theorem dX2_open_22 : decode cX2_open 22 = .ok (.aload_n 0, 1) := by decide +kernel
theorem dX2_open_23 : decode cX2_open 23 = .ok (.aload_n 1, 1) := by decide +kernel
theorem dX2_open_24 : decode cX2_open 24 = .ok (.aload_n 2, 1) := by decide +kernel
theorem dX2_open_25 : decode cX2_open 25 = .ok (.invokevirtual 58, 3) := by decide +kernel
theorem dX2_open_28 : decode cX2_open 28 = .ok (.putfield 30, 3) := by decide +kernel
theorem dX2_open_31 : decode cX2_open 31 = .ok (.return_, 1) := by decide +kernel
theorem dX2_open_32 : decode cX2_open 32 = .ok (.aload_n 0, 1) := by decide +kernel
theorem dX2_open_33 : decode cX2_open 33 = .ok (.aload_n 1, 1) := by decide +kernel
theorem dX2_open_34 : decode cX2_open 34 = .ok (.getfield 62, 3) := by decide +kernel
theorem dX2_open_37 : decode cX2_open 37 = .ok (.aload_n 0, 1) := by decide +kernel
theorem dX2_open_38 : decode cX2_open 38 = .ok (.getfield 41, 3) := by decide +kernel
theorem dX2_open_41 : decode cX2_open 41 = .ok (.laload, 1) := by decide +kernel
theorem dX2_open_42 : decode cX2_open 42 = .ok (.aload_n 0, 1) := by decide +kernel
theorem dX2_open_43 : decode cX2_open 43 = .ok (.getfield 41, 3) := by decide +kernel
theorem dX2_open_46 : decode cX2_open 46 = .ok (.invokestatic 65, 3) := by decide +kernel
theorem dX2_open_49 : decode cX2_open 49 = .ok (.land, 1) := by decide +kernel
theorem dX2_open_50 : decode cX2_open 50 = .ok (.aload_n 0, 1) := by decide +kernel
theorem dX2_open_51 : decode cX2_open 51 = .ok (.getfield 41, 3) := by decide +kernel
theorem dX2_open_54 : decode cX2_open 54 = .ok (.invokevirtual 69, 3) := by decide +kernel
theorem dX2_open_57 : decode cX2_open 57 = .ok (.lstore_n 3, 1) := by decide +kernel
theorem dX2_open_58 : decode cX2_open 58 = .ok (.aload_n 1, 1) := by decide +kernel
theorem dX2_open_59 : decode cX2_open 59 = .ok (.getfield 73, 3) := by decide +kernel
theorem dX2_open_62 : decode cX2_open 62 = .ok (.aload_n 0, 1) := by decide +kernel
theorem dX2_open_63 : decode cX2_open 63 = .ok (.getfield 41, 3) := by decide +kernel
theorem dX2_open_66 : decode cX2_open 66 = .ok (.laload, 1) := by decide +kernel
theorem dX2_open_67 : decode cX2_open 67 = .ok (.invokestatic 76, 3) := by decide +kernel
theorem dX2_open_70 : decode cX2_open 70 = .ok (.istore 5, 2) := by decide +kernel
theorem dX2_open_72 : decode cX2_open 72 = .ok (.iconst 0, 1) := by decide +kernel
theorem dX2_open_73 : decode cX2_open 73 = .ok (.istore 6, 2) := by decide +kernel
theorem dX2_open_75 : decode cX2_open 75 = .ok (.iload 6, 2) := by decide +kernel
theorem dX2_open_77 : decode cX2_open 77 = .ok (.aload_n 2, 1) := by decide +kernel
theorem dX2_open_78 : decode cX2_open 78 = .ok (.getfield 33, 3) := by decide +kernel
theorem dX2_open_81 : decode cX2_open 81 = .ok (.if_icmp .ge 79, 3) := by decide +kernel
theorem dX2_open_84 : decode cX2_open 84 = .ok (.aload_n 0, 1) := by decide +kernel
theorem dX2_open_85 : decode cX2_open 85 = .ok (.getfield 15, 3) := by decide +kernel
theorem dX2_open_88 : decode cX2_open 88 = .ok (.aload_n 0, 1) := by decide +kernel
theorem dX2_open_89 : decode cX2_open 89 = .ok (.getfield 41, 3) := by decide +kernel
theorem dX2_open_92 : decode cX2_open 92 = .ok (.laload, 1) := by decide +kernel
theorem dX2_open_93 : decode cX2_open 93 = .ok (.iload 6, 2) := by decide +kernel
theorem dX2_open_95 : decode cX2_open 95 = .ok (.invokestatic 81, 3) := by decide +kernel
theorem dX2_open_98 : decode cX2_open 98 = .ok (.ifCond .ne 56, 3) := by decide +kernel
theorem dX2_open_101 : decode cX2_open 101 = .ok (.aload_n 2, 1) := by decide +kernel
theorem dX2_open_102 : decode cX2_open 102 = .ok (.getfield 73, 3) := by decide +kernel
theorem dX2_open_105 : decode cX2_open 105 = .ok (.iload 6, 2) := by decide +kernel
theorem dX2_open_107 : decode cX2_open 107 = .ok (.laload, 1) := by decide +kernel
theorem dX2_open_108 : decode cX2_open 108 = .ok (.invokestatic 76, 3) := by decide +kernel
theorem dX2_open_111 : decode cX2_open 111 = .ok (.iload 5, 2) := by decide +kernel
theorem dX2_open_113 : decode cX2_open 113 = .ok (.if_icmp .ne 41, 3) := by decide +kernel
theorem dX2_open_116 : decode cX2_open 116 = .ok (.aload_n 2, 1) := by decide +kernel
theorem dX2_open_117 : decode cX2_open 117 = .ok (.getfield 62, 3) := by decide +kernel
theorem dX2_open_120 : decode cX2_open 120 = .ok (.iload 6, 2) := by decide +kernel
theorem dX2_open_122 : decode cX2_open 122 = .ok (.laload, 1) := by decide +kernel
theorem dX2_open_123 : decode cX2_open 123 = .ok (.aload_n 0, 1) := by decide +kernel
theorem dX2_open_124 : decode cX2_open 124 = .ok (.getfield 15, 3) := by decide +kernel
theorem dX2_open_127 : decode cX2_open 127 = .ok (.aload_n 0, 1) := by decide +kernel
theorem dX2_open_128 : decode cX2_open 128 = .ok (.getfield 41, 3) := by decide +kernel
theorem dX2_open_131 : decode cX2_open 131 = .ok (.laload, 1) := by decide +kernel
theorem dX2_open_132 : decode cX2_open 132 = .ok (.land, 1) := by decide +kernel
theorem dX2_open_133 : decode cX2_open 133 = .ok (.lload_n 3, 1) := by decide +kernel
theorem dX2_open_134 : decode cX2_open 134 = .ok (.lcmp, 1) := by decide +kernel
theorem dX2_open_135 : decode cX2_open 135 = .ok (.ifCond .ne 19, 3) := by decide +kernel
theorem dX2_open_138 : decode cX2_open 138 = .ok (.aload_n 0, 1) := by decide +kernel
theorem dX2_open_139 : decode cX2_open 139 = .ok (.getfield 19, 3) := by decide +kernel
theorem dX2_open_142 : decode cX2_open 142 = .ok (.aload_n 0, 1) := by decide +kernel
theorem dX2_open_143 : decode cX2_open 143 = .ok (.getfield 41, 3) := by decide +kernel
theorem dX2_open_146 : decode cX2_open 146 = .ok (.dup2, 1) := by decide +kernel
theorem dX2_open_147 : decode cX2_open 147 = .ok (.laload, 1) := by decide +kernel
theorem dX2_open_148 : decode cX2_open 148 = .ok (.lconst 1, 1) := by decide +kernel
theorem dX2_open_149 : decode cX2_open 149 = .ok (.iload 6, 2) := by decide +kernel
theorem dX2_open_151 : decode cX2_open 151 = .ok (.lshl, 1) := by decide +kernel
theorem dX2_open_152 : decode cX2_open 152 = .ok (.lor, 1) := by decide +kernel
theorem dX2_open_153 : decode cX2_open 153 = .ok (.lastore, 1) := by decide +kernel
theorem dX2_open_154 : decode cX2_open 154 = .ok (.iinc 6 1, 3) := by decide +kernel
theorem dX2_open_157 : decode cX2_open 157 = .ok (.goto (-82), 3) := by decide +kernel
theorem dX2_open_160 : decode cX2_open 160 = .ok (.return_, 1) := by decide +kernel
set_option maxRecDepth 20000 in
theorem ggX2_imageOf_X6_has : GoodIn wsX2_imageOf wsX6_has := goodIn_r _ [4] (by decide +kernel) (by decide +kernel)
set_option maxRecDepth 20000 in
theorem gX2_imageOf_X6_has_n81 : GoodIn wsX2_imageOf (wsX6_has) := ggX2_imageOf_X6_has
theorem dX2_imageOf_0 : decode cX2_imageOf 0 = .ok (.lconst 0, 1) := by decide +kernel
theorem dX2_imageOf_1 : decode cX2_imageOf 1 = .ok (.lstore 4, 2) := by decide +kernel
theorem dX2_imageOf_3 : decode cX2_imageOf 3 = .ok (.iconst 0, 1) := by decide +kernel
theorem dX2_imageOf_4 : decode cX2_imageOf 4 = .ok (.istore 6, 2) := by decide +kernel
theorem dX2_imageOf_6 : decode cX2_imageOf 6 = .ok (.iload 6, 2) := by decide +kernel
theorem dX2_imageOf_8 : decode cX2_imageOf 8 = .ok (.iload_n 3, 1) := by decide +kernel
theorem dX2_imageOf_9 : decode cX2_imageOf 9 = .ok (.if_icmp .ge 32, 3) := by decide +kernel
theorem dX2_imageOf_12 : decode cX2_imageOf 12 = .ok (.lload_n 1, 1) := by decide +kernel
theorem dX2_imageOf_13 : decode cX2_imageOf 13 = .ok (.iload 6, 2) := by decide +kernel
theorem dX2_imageOf_15 : decode cX2_imageOf 15 = .ok (.invokestatic 81, 3) := by decide +kernel
theorem dX2_imageOf_18 : decode cX2_imageOf 18 = .ok (.ifCond .eq 17, 3) := by decide +kernel
theorem dX2_imageOf_21 : decode cX2_imageOf 21 = .ok (.lload 4, 2) := by decide +kernel
theorem dX2_imageOf_23 : decode cX2_imageOf 23 = .ok (.lconst 1, 1) := by decide +kernel
theorem dX2_imageOf_24 : decode cX2_imageOf 24 = .ok (.aload_n 0, 1) := by decide +kernel
theorem dX2_imageOf_25 : decode cX2_imageOf 25 = .ok (.getfield 9, 3) := by decide +kernel
theorem dX2_imageOf_28 : decode cX2_imageOf 28 = .ok (.iload 6, 2) := by decide +kernel
theorem dX2_imageOf_30 : decode cX2_imageOf 30 = .ok (.iaload, 1) := by decide +kernel
theorem dX2_imageOf_31 : decode cX2_imageOf 31 = .ok (.lshl, 1) := by decide +kernel
theorem dX2_imageOf_32 : decode cX2_imageOf 32 = .ok (.lor, 1) := by decide +kernel
theorem dX2_imageOf_33 : decode cX2_imageOf 33 = .ok (.lstore 4, 2) := by decide +kernel
theorem dX2_imageOf_35 : decode cX2_imageOf 35 = .ok (.iinc 6 1, 3) := by decide +kernel
theorem dX2_imageOf_38 : decode cX2_imageOf 38 = .ok (.goto (-32), 3) := by decide +kernel
theorem dX2_imageOf_41 : decode cX2_imageOf 41 = .ok (.lload 4, 2) := by decide +kernel
theorem dX2_imageOf_43 : decode cX2_imageOf 43 = .ok (.lreturn, 1) := by decide +kernel
set_option maxRecDepth 20000 in
theorem ggX2_linesFit_X6_below : GoodIn wsX2_linesFit wsX6_below := goodIn_r _ [4] (by decide +kernel) (by decide +kernel)
set_option maxRecDepth 20000 in
theorem gX2_linesFit_X6_below_n65 : GoodIn wsX2_linesFit (wsX6_below) := ggX2_linesFit_X6_below
set_option maxRecDepth 20000 in
theorem ggX2_linesFit_X2_imageOf : GoodIn wsX2_linesFit wsX2_imageOf := goodIn_r _ [9, 10, 11, 3, 12, 24, 25, 26, 27, 28, 29, 30] (by decide +kernel) (by decide +kernel)
set_option maxRecDepth 20000 in
theorem gX2_linesFit_X2_imageOf : GoodIn wsX2_linesFit (wsV RX2 69 RX2 yX2_imageOf wsX2_imageOf) := goodIn_app (goodIn_of _ (by decide +kernel)) ggX2_linesFit_X2_imageOf
set_option maxRecDepth 20000 in
theorem ggX2_linesFit_X2_lineWith : GoodIn wsX2_linesFit wsX2_lineWith := goodIn_r _ [15, 11, 3, 12, 16, 17, 18, 19, 20, 21, 22, 23] (by decide +kernel) (by decide +kernel)
set_option maxRecDepth 20000 in
theorem gX2_linesFit_X2_lineWith : GoodIn wsX2_linesFit (va_wsS RX2 88 yX2_lineWith wsX2_lineWith) := goodIn_app (goodIn_of _ (by decide +kernel)) ggX2_linesFit_X2_lineWith
theorem dX2_linesFit_0 : decode cX2_linesFit 0 = .ok (.aload_n 2, 1) := by decide +kernel
theorem dX2_linesFit_1 : decode cX2_linesFit 1 = .ok (.getfield 38, 3) := by decide +kernel
theorem dX2_linesFit_4 : decode cX2_linesFit 4 = .ok (.invokestatic 65, 3) := by decide +kernel
theorem dX2_linesFit_7 : decode cX2_linesFit 7 = .ok (.lstore_n 3, 1) := by decide +kernel
theorem dX2_linesFit_8 : decode cX2_linesFit 8 = .ok (.iconst 0, 1) := by decide +kernel
theorem dX2_linesFit_9 : decode cX2_linesFit 9 = .ok (.istore 5, 2) := by decide +kernel
theorem dX2_linesFit_11 : decode cX2_linesFit 11 = .ok (.iload 5, 2) := by decide +kernel
theorem dX2_linesFit_13 : decode cX2_linesFit 13 = .ok (.aload_n 1, 1) := by decide +kernel
theorem dX2_linesFit_14 : decode cX2_linesFit 14 = .ok (.getfield 38, 3) := by decide +kernel
theorem dX2_linesFit_17 : decode cX2_linesFit 17 = .ok (.if_icmp .ge 51, 3) := by decide +kernel
theorem dX2_linesFit_20 : decode cX2_linesFit 20 = .ok (.aload_n 2, 1) := by decide +kernel
theorem dX2_linesFit_21 : decode cX2_linesFit 21 = .ok (.aload_n 0, 1) := by decide +kernel
theorem dX2_linesFit_22 : decode cX2_linesFit 22 = .ok (.aload_n 1, 1) := by decide +kernel
theorem dX2_linesFit_23 : decode cX2_linesFit 23 = .ok (.getfield 85, 3) := by decide +kernel
theorem dX2_linesFit_26 : decode cX2_linesFit 26 = .ok (.iload 5, 2) := by decide +kernel
theorem dX2_linesFit_28 : decode cX2_linesFit 28 = .ok (.laload, 1) := by decide +kernel
theorem dX2_linesFit_29 : decode cX2_linesFit 29 = .ok (.aload_n 1, 1) := by decide +kernel
theorem dX2_linesFit_30 : decode cX2_linesFit 30 = .ok (.getfield 33, 3) := by decide +kernel
theorem dX2_linesFit_33 : decode cX2_linesFit 33 = .ok (.invokevirtual 69, 3) := by decide +kernel
theorem dX2_linesFit_36 : decode cX2_linesFit 36 = .ok (.lload_n 3, 1) := by decide +kernel
theorem dX2_linesFit_37 : decode cX2_linesFit 37 = .ok (.invokestatic 88, 3) := by decide +kernel
theorem dX2_linesFit_40 : decode cX2_linesFit 40 = .ok (.istore 6, 2) := by decide +kernel
theorem dX2_linesFit_42 : decode cX2_linesFit 42 = .ok (.iload 6, 2) := by decide +kernel
theorem dX2_linesFit_44 : decode cX2_linesFit 44 = .ok (.bipush (-9), 2) := by decide +kernel
theorem dX2_linesFit_46 : decode cX2_linesFit 46 = .ok (.if_icmp .ne 5, 3) := by decide +kernel
theorem dX2_linesFit_49 : decode cX2_linesFit 49 = .ok (.iconst 0, 1) := by decide +kernel
theorem dX2_linesFit_50 : decode cX2_linesFit 50 = .ok (.ireturn, 1) := by decide +kernel
theorem dX2_linesFit_51 : decode cX2_linesFit 51 = .ok (.lload_n 3, 1) := by decide +kernel
theorem dX2_linesFit_52 : decode cX2_linesFit 52 = .ok (.lconst 1, 1) := by decide +kernel
theorem dX2_linesFit_53 : decode cX2_linesFit 53 = .ok (.iload 6, 2) := by decide +kernel
theorem dX2_linesFit_55 : decode cX2_linesFit 55 = .ok (.lshl, 1) := by decide +kernel
theorem dX2_linesFit_56 : decode cX2_linesFit 56 = .ok (.ldc2_w 56, 3) := by decide +kernel
theorem dX2_linesFit_59 : decode cX2_linesFit 59 = .ok (.lxor, 1) := by decide +kernel
theorem dX2_linesFit_60 : decode cX2_linesFit 60 = .ok (.land, 1) := by decide +kernel
theorem dX2_linesFit_61 : decode cX2_linesFit 61 = .ok (.lstore_n 3, 1) := by decide +kernel
theorem dX2_linesFit_62 : decode cX2_linesFit 62 = .ok (.iinc 5 1, 3) := by decide +kernel
theorem dX2_linesFit_65 : decode cX2_linesFit 65 = .ok (.goto (-54), 3) := by decide +kernel
theorem dX2_linesFit_68 : decode cX2_linesFit 68 = .ok (.iconst 1, 1) := by decide +kernel
theorem dX2_linesFit_69 : decode cX2_linesFit 69 = .ok (.ireturn, 1) := by decide +kernel
set_option maxRecDepth 20000 in
theorem ggX2_lineWith_X6_has : GoodIn wsX2_lineWith wsX6_has := goodIn_r _ [3] (by decide +kernel) (by decide +kernel)
set_option maxRecDepth 20000 in
theorem gX2_lineWith_X6_has_n81 : GoodIn wsX2_lineWith (wsX6_has) := ggX2_lineWith_X6_has
theorem dX2_lineWith_0 : decode cX2_lineWith 0 = .ok (.iconst 0, 1) := by decide +kernel
theorem dX2_lineWith_1 : decode cX2_lineWith 1 = .ok (.istore 5, 2) := by decide +kernel
theorem dX2_lineWith_3 : decode cX2_lineWith 3 = .ok (.iload 5, 2) := by decide +kernel
theorem dX2_lineWith_5 : decode cX2_lineWith 5 = .ok (.aload_n 0, 1) := by decide +kernel
theorem dX2_lineWith_6 : decode cX2_lineWith 6 = .ok (.getfield 38, 3) := by decide +kernel
theorem dX2_lineWith_9 : decode cX2_lineWith 9 = .ok (.if_icmp .ge 33, 3) := by decide +kernel
theorem dX2_lineWith_12 : decode cX2_lineWith 12 = .ok (.lload_n 3, 1) := by decide +kernel
theorem dX2_lineWith_13 : decode cX2_lineWith 13 = .ok (.iload 5, 2) := by decide +kernel
theorem dX2_lineWith_15 : decode cX2_lineWith 15 = .ok (.invokestatic 81, 3) := by decide +kernel
theorem dX2_lineWith_18 : decode cX2_lineWith 18 = .ok (.ifCond .eq 18, 3) := by decide +kernel
theorem dX2_lineWith_21 : decode cX2_lineWith 21 = .ok (.aload_n 0, 1) := by decide +kernel
theorem dX2_lineWith_22 : decode cX2_lineWith 22 = .ok (.getfield 85, 3) := by decide +kernel
theorem dX2_lineWith_25 : decode cX2_lineWith 25 = .ok (.iload 5, 2) := by decide +kernel
theorem dX2_lineWith_27 : decode cX2_lineWith 27 = .ok (.laload, 1) := by decide +kernel
theorem dX2_lineWith_28 : decode cX2_lineWith 28 = .ok (.lload_n 1, 1) := by decide +kernel
theorem dX2_lineWith_29 : decode cX2_lineWith 29 = .ok (.lcmp, 1) := by decide +kernel
theorem dX2_lineWith_30 : decode cX2_lineWith 30 = .ok (.ifCond .ne 6, 3) := by decide +kernel
theorem dX2_lineWith_33 : decode cX2_lineWith 33 = .ok (.iload 5, 2) := by decide +kernel
theorem dX2_lineWith_35 : decode cX2_lineWith 35 = .ok (.ireturn, 1) := by decide +kernel
theorem dX2_lineWith_36 : decode cX2_lineWith 36 = .ok (.iinc 5 1, 3) := by decide +kernel
theorem dX2_lineWith_39 : decode cX2_lineWith 39 = .ok (.goto (-36), 3) := by decide +kernel
theorem dX2_lineWith_42 : decode cX2_lineWith 42 = .ok (.bipush (-9), 2) := by decide +kernel
theorem dX2_lineWith_44 : decode cX2_lineWith 44 = .ok (.ireturn, 1) := by decide +kernel
set_option maxRecDepth 20000 in
theorem ggX3_rankOf_X6_has : GoodIn wsX3_rankOf wsX6_has := goodIn_r _ [3] (by decide +kernel) (by decide +kernel)
set_option maxRecDepth 20000 in
theorem gX3_rankOf_X6_has_n22 : GoodIn wsX3_rankOf (wsX6_has) := ggX3_rankOf_X6_has
set_option maxRecDepth 20000 in
theorem ggX3_rankOf_X3_firstWith : GoodIn wsX3_rankOf wsX3_firstWith := goodIn_r _ [7] (by decide +kernel) (by decide +kernel)
set_option maxRecDepth 20000 in
theorem gX3_rankOf_X3_firstWith : GoodIn wsX3_rankOf (va_wsS RX3 26 yX3_firstWith wsX3_firstWith) := goodIn_app (goodIn_of _ (by decide +kernel)) ggX3_rankOf_X3_firstWith
set_option maxRecDepth 20000 in
theorem ggX3_rankOf_X3_swapRows : GoodIn wsX3_rankOf wsX3_swapRows := goodIn_r _ [10] (by decide +kernel) (by decide +kernel)
set_option maxRecDepth 20000 in
theorem gX3_rankOf_X3_swapRows : GoodIn wsX3_rankOf (va_wsS RX3 32 yX3_swapRows wsX3_swapRows) := goodIn_app (goodIn_of _ (by decide +kernel)) ggX3_rankOf_X3_swapRows
set_option maxRecDepth 20000 in
theorem ggX3_rankOf_X3_clearBelow : GoodIn wsX3_rankOf wsX3_clearBelow := goodIn_r _ [13, 14, 15, 6, 16, 17, 18, 19, 20, 21, 22, 23, 24, 25, 26, 27, 28] (by decide +kernel) (by decide +kernel)
set_option maxRecDepth 20000 in
theorem gX3_rankOf_X3_clearBelow : GoodIn wsX3_rankOf (va_wsS RX3 36 yX3_clearBelow wsX3_clearBelow) := goodIn_app (goodIn_of _ (by decide +kernel)) ggX3_rankOf_X3_clearBelow
theorem dX3_rankOf_0 : decode cX3_rankOf 0 = .ok (.iconst 0, 1) := by decide +kernel
theorem dX3_rankOf_1 : decode cX3_rankOf 1 = .ok (.istore_n 3, 1) := by decide +kernel
theorem dX3_rankOf_2 : decode cX3_rankOf 2 = .ok (.iload_n 3, 1) := by decide +kernel
theorem dX3_rankOf_3 : decode cX3_rankOf 3 = .ok (.aload_n 0, 1) := by decide +kernel
theorem dX3_rankOf_4 : decode cX3_rankOf 4 = .ok (.getfield 9, 3) := by decide +kernel
theorem dX3_rankOf_7 : decode cX3_rankOf 7 = .ok (.if_icmp .ge 55, 3) := by decide +kernel
theorem dX3_rankOf_10 : decode cX3_rankOf 10 = .ok (.iconst 0, 1) := by decide +kernel
theorem dX3_rankOf_11 : decode cX3_rankOf 11 = .ok (.istore 4, 2) := by decide +kernel
theorem dX3_rankOf_13 : decode cX3_rankOf 13 = .ok (.iload 4, 2) := by decide +kernel
theorem dX3_rankOf_15 : decode cX3_rankOf 15 = .ok (.aload_n 0, 1) := by decide +kernel
theorem dX3_rankOf_16 : decode cX3_rankOf 16 = .ok (.getfield 15, 3) := by decide +kernel
theorem dX3_rankOf_19 : decode cX3_rankOf 19 = .ok (.if_icmp .ge 37, 3) := by decide +kernel
theorem dX3_rankOf_22 : decode cX3_rankOf 22 = .ok (.aload_n 2, 1) := by decide +kernel
theorem dX3_rankOf_23 : decode cX3_rankOf 23 = .ok (.bipush 45, 2) := by decide +kernel
theorem dX3_rankOf_25 : decode cX3_rankOf 25 = .ok (.iload_n 3, 1) := by decide +kernel
theorem dX3_rankOf_26 : decode cX3_rankOf 26 = .ok (.imul, 1) := by decide +kernel
theorem dX3_rankOf_27 : decode cX3_rankOf 27 = .ok (.iload 4, 2) := by decide +kernel
theorem dX3_rankOf_29 : decode cX3_rankOf 29 = .ok (.iadd, 1) := by decide +kernel
theorem dX3_rankOf_30 : decode cX3_rankOf 30 = .ok (.aload_n 0, 1) := by decide +kernel
theorem dX3_rankOf_31 : decode cX3_rankOf 31 = .ok (.getfield 18, 3) := by decide +kernel
theorem dX3_rankOf_34 : decode cX3_rankOf 34 = .ok (.iload_n 3, 1) := by decide +kernel
theorem dX3_rankOf_35 : decode cX3_rankOf 35 = .ok (.laload, 1) := by decide +kernel
theorem dX3_rankOf_36 : decode cX3_rankOf 36 = .ok (.iload 4, 2) := by decide +kernel
theorem dX3_rankOf_38 : decode cX3_rankOf 38 = .ok (.invokestatic 22, 3) := by decide +kernel
theorem dX3_rankOf_41 : decode cX3_rankOf 41 = .ok (.ifCond .eq 7, 3) := by decide +kernel
theorem dX3_rankOf_44 : decode cX3_rankOf 44 = .ok (.iconst 1, 1) := by decide +kernel
theorem dX3_rankOf_45 : decode cX3_rankOf 45 = .ok (.goto 4, 3) := by decide +kernel
theorem dX3_rankOf_48 : decode cX3_rankOf 48 = .ok (.iconst 0, 1) := by decide +kernel
theorem dX3_rankOf_49 : decode cX3_rankOf 49 = .ok (.iastore, 1) := by decide +kernel
theorem dX3_rankOf_50 : decode cX3_rankOf 50 = .ok (.iinc 4 1, 3) := by decide +kernel
theorem dX3_rankOf_53 : decode cX3_rankOf 53 = .ok (.goto (-40), 3) := by decide +kernel
theorem dX3_rankOf_56 : decode cX3_rankOf 56 = .ok (.iinc 3 1, 3) := by decide +kernel
theorem dX3_rankOf_59 : decode cX3_rankOf 59 = .ok (.goto (-57), 3) := by decide +kernel
theorem dX3_rankOf_62 : decode cX3_rankOf 62 = .ok (.iconst 0, 1) := by decide +kernel
theorem dX3_rankOf_63 : decode cX3_rankOf 63 = .ok (.istore_n 3, 1) := by decide +kernel
theorem dX3_rankOf_64 : decode cX3_rankOf 64 = .ok (.iconst 0, 1) := by decide +kernel
theorem dX3_rankOf_65 : decode cX3_rankOf 65 = .ok (.istore 4, 2) := by decide +kernel
theorem dX3_rankOf_67 : decode cX3_rankOf 67 = .ok (.iload 4, 2) := by decide +kernel
theorem dX3_rankOf_69 : decode cX3_rankOf 69 = .ok (.aload_n 0, 1) := by decide +kernel
theorem dX3_rankOf_70 : decode cX3_rankOf 70 = .ok (.getfield 15, 3) := by decide +kernel
theorem dX3_rankOf_73 : decode cX3_rankOf 73 = .ok (.if_icmp .ge 62, 3) := by decide +kernel
theorem dX3_rankOf_76 : decode cX3_rankOf 76 = .ok (.iload_n 3, 1) := by decide +kernel
theorem dX3_rankOf_77 : decode cX3_rankOf 77 = .ok (.aload_n 0, 1) := by decide +kernel
theorem dX3_rankOf_78 : decode cX3_rankOf 78 = .ok (.getfield 9, 3) := by decide +kernel
theorem dX3_rankOf_81 : decode cX3_rankOf 81 = .ok (.if_icmp .ge 54, 3) := by decide +kernel
theorem dX3_rankOf_84 : decode cX3_rankOf 84 = .ok (.aload_n 2, 1) := by decide +kernel
theorem dX3_rankOf_85 : decode cX3_rankOf 85 = .ok (.iload 4, 2) := by decide +kernel
theorem dX3_rankOf_87 : decode cX3_rankOf 87 = .ok (.iload_n 3, 1) := by decide +kernel
theorem dX3_rankOf_88 : decode cX3_rankOf 88 = .ok (.aload_n 0, 1) := by decide +kernel
theorem dX3_rankOf_89 : decode cX3_rankOf 89 = .ok (.getfield 9, 3) := by decide +kernel
theorem dX3_rankOf_92 : decode cX3_rankOf 92 = .ok (.invokestatic 26, 3) := by decide +kernel
theorem dX3_rankOf_95 : decode cX3_rankOf 95 = .ok (.istore 5, 2) := by decide +kernel
theorem dX3_rankOf_97 : decode cX3_rankOf 97 = .ok (.iload 5, 2) := by decide +kernel
theorem dX3_rankOf_99 : decode cX3_rankOf 99 = .ok (.aload_n 0, 1) := by decide +kernel
theorem dX3_rankOf_100 : decode cX3_rankOf 100 = .ok (.getfield 9, 3) := by decide +kernel
theorem dX3_rankOf_103 : decode cX3_rankOf 103 = .ok (.if_icmp .ge 26, 3) := by decide +kernel
theorem dX3_rankOf_106 : decode cX3_rankOf 106 = .ok (.aload_n 2, 1) := by decide +kernel
theorem dX3_rankOf_107 : decode cX3_rankOf 107 = .ok (.iload 5, 2) := by decide +kernel
theorem dX3_rankOf_109 : decode cX3_rankOf 109 = .ok (.iload_n 3, 1) := by decide +kernel
theorem dX3_rankOf_110 : decode cX3_rankOf 110 = .ok (.aload_n 0, 1) := by decide +kernel
theorem dX3_rankOf_111 : decode cX3_rankOf 111 = .ok (.getfield 15, 3) := by decide +kernel
theorem dX3_rankOf_114 : decode cX3_rankOf 114 = .ok (.invokestatic 32, 3) := by decide +kernel
theorem dX3_rankOf_117 : decode cX3_rankOf 117 = .ok (.aload_n 2, 1) := by decide +kernel
theorem dX3_rankOf_118 : decode cX3_rankOf 118 = .ok (.iload 4, 2) := by decide +kernel
theorem dX3_rankOf_120 : decode cX3_rankOf 120 = .ok (.iload_n 3, 1) := by decide +kernel
theorem dX3_rankOf_121 : decode cX3_rankOf 121 = .ok (.aload_n 0, 1) := by decide +kernel
theorem dX3_rankOf_122 : decode cX3_rankOf 122 = .ok (.iload_n 1, 1) := by decide +kernel
theorem dX3_rankOf_123 : decode cX3_rankOf 123 = .ok (.invokestatic 36, 3) := by decide +kernel
theorem dX3_rankOf_126 : decode cX3_rankOf 126 = .ok (.iinc 3 1, 3) := by decide +kernel
theorem dX3_rankOf_129 : decode cX3_rankOf 129 = .ok (.iinc 4 1, 3) := by decide +kernel
theorem dX3_rankOf_132 : decode cX3_rankOf 132 = .ok (.goto (-65), 3) := by decide +kernel
theorem dX3_rankOf_135 : decode cX3_rankOf 135 = .ok (.iload_n 3, 1) := by decide +kernel
theorem dX3_rankOf_136 : decode cX3_rankOf 136 = .ok (.ireturn, 1) := by decide +kernel
theorem dX3_firstWith_0 : decode cX3_firstWith 0 = .ok (.iload_n 2, 1) := by decide +kernel
theorem dX3_firstWith_1 : decode cX3_firstWith 1 = .ok (.istore 4, 2) := by decide +kernel
theorem dX3_firstWith_3 : decode cX3_firstWith 3 = .ok (.iload 4, 2) := by decide +kernel
theorem dX3_firstWith_5 : decode cX3_firstWith 5 = .ok (.iload_n 3, 1) := by decide +kernel
theorem dX3_firstWith_6 : decode cX3_firstWith 6 = .ok (.if_icmp .ge 24, 3) := by decide +kernel
theorem dX3_firstWith_9 : decode cX3_firstWith 9 = .ok (.aload_n 0, 1) := by decide +kernel
theorem dX3_firstWith_10 : decode cX3_firstWith 10 = .ok (.bipush 45, 2) := by decide +kernel
theorem dX3_firstWith_12 : decode cX3_firstWith 12 = .ok (.iload 4, 2) := by decide +kernel
theorem dX3_firstWith_14 : decode cX3_firstWith 14 = .ok (.imul, 1) := by decide +kernel
theorem dX3_firstWith_15 : decode cX3_firstWith 15 = .ok (.iload_n 1, 1) := by decide +kernel
theorem dX3_firstWith_16 : decode cX3_firstWith 16 = .ok (.iadd, 1) := by decide +kernel
theorem dX3_firstWith_17 : decode cX3_firstWith 17 = .ok (.iaload, 1) := by decide +kernel
theorem dX3_firstWith_18 : decode cX3_firstWith 18 = .ok (.ifCond .eq 6, 3) := by decide +kernel
theorem dX3_firstWith_21 : decode cX3_firstWith 21 = .ok (.iload 4, 2) := by decide +kernel
theorem dX3_firstWith_23 : decode cX3_firstWith 23 = .ok (.ireturn, 1) := by decide +kernel
theorem dX3_firstWith_24 : decode cX3_firstWith 24 = .ok (.iinc 4 1, 3) := by decide +kernel
theorem dX3_firstWith_27 : decode cX3_firstWith 27 = .ok (.goto (-24), 3) := by decide +kernel
theorem dX3_firstWith_30 : decode cX3_firstWith 30 = .ok (.iload_n 3, 1) := by decide +kernel
theorem dX3_firstWith_31 : decode cX3_firstWith 31 = .ok (.ireturn, 1) := by decide +kernel
theorem dX3_swapRows_0 : decode cX3_swapRows 0 = .ok (.iconst 0, 1) := by decide +kernel
theorem dX3_swapRows_1 : decode cX3_swapRows 1 = .ok (.istore 4, 2) := by decide +kernel
theorem dX3_swapRows_3 : decode cX3_swapRows 3 = .ok (.iload 4, 2) := by decide +kernel
theorem dX3_swapRows_5 : decode cX3_swapRows 5 = .ok (.iload_n 3, 1) := by decide +kernel
theorem dX3_swapRows_6 : decode cX3_swapRows 6 = .ok (.if_icmp .ge 49, 3) := by decide +kernel
theorem dX3_swapRows_9 : decode cX3_swapRows 9 = .ok (.aload_n 0, 1) := by decide +kernel
theorem dX3_swapRows_10 : decode cX3_swapRows 10 = .ok (.bipush 45, 2) := by decide +kernel
theorem dX3_swapRows_12 : decode cX3_swapRows 12 = .ok (.iload_n 1, 1) := by decide +kernel
theorem dX3_swapRows_13 : decode cX3_swapRows 13 = .ok (.imul, 1) := by decide +kernel
theorem dX3_swapRows_14 : decode cX3_swapRows 14 = .ok (.iload 4, 2) := by decide +kernel
theorem dX3_swapRows_16 : decode cX3_swapRows 16 = .ok (.iadd, 1) := by decide +kernel
theorem dX3_swapRows_17 : decode cX3_swapRows 17 = .ok (.iaload, 1) := by decide +kernel
theorem dX3_swapRows_18 : decode cX3_swapRows 18 = .ok (.istore 5, 2) := by decide +kernel
theorem dX3_swapRows_20 : decode cX3_swapRows 20 = .ok (.aload_n 0, 1) := by decide +kernel
theorem dX3_swapRows_21 : decode cX3_swapRows 21 = .ok (.bipush 45, 2) := by decide +kernel
theorem dX3_swapRows_23 : decode cX3_swapRows 23 = .ok (.iload_n 1, 1) := by decide +kernel
theorem dX3_swapRows_24 : decode cX3_swapRows 24 = .ok (.imul, 1) := by decide +kernel
theorem dX3_swapRows_25 : decode cX3_swapRows 25 = .ok (.iload 4, 2) := by decide +kernel
theorem dX3_swapRows_27 : decode cX3_swapRows 27 = .ok (.iadd, 1) := by decide +kernel
theorem dX3_swapRows_28 : decode cX3_swapRows 28 = .ok (.aload_n 0, 1) := by decide +kernel
theorem dX3_swapRows_29 : decode cX3_swapRows 29 = .ok (.bipush 45, 2) := by decide +kernel
theorem dX3_swapRows_31 : decode cX3_swapRows 31 = .ok (.iload_n 2, 1) := by decide +kernel
theorem dX3_swapRows_32 : decode cX3_swapRows 32 = .ok (.imul, 1) := by decide +kernel
theorem dX3_swapRows_33 : decode cX3_swapRows 33 = .ok (.iload 4, 2) := by decide +kernel
theorem dX3_swapRows_35 : decode cX3_swapRows 35 = .ok (.iadd, 1) := by decide +kernel
theorem dX3_swapRows_36 : decode cX3_swapRows 36 = .ok (.iaload, 1) := by decide +kernel
theorem dX3_swapRows_37 : decode cX3_swapRows 37 = .ok (.iastore, 1) := by decide +kernel
theorem dX3_swapRows_38 : decode cX3_swapRows 38 = .ok (.aload_n 0, 1) := by decide +kernel
theorem dX3_swapRows_39 : decode cX3_swapRows 39 = .ok (.bipush 45, 2) := by decide +kernel
theorem dX3_swapRows_41 : decode cX3_swapRows 41 = .ok (.iload_n 2, 1) := by decide +kernel
theorem dX3_swapRows_42 : decode cX3_swapRows 42 = .ok (.imul, 1) := by decide +kernel
theorem dX3_swapRows_43 : decode cX3_swapRows 43 = .ok (.iload 4, 2) := by decide +kernel
theorem dX3_swapRows_45 : decode cX3_swapRows 45 = .ok (.iadd, 1) := by decide +kernel
theorem dX3_swapRows_46 : decode cX3_swapRows 46 = .ok (.iload 5, 2) := by decide +kernel
theorem dX3_swapRows_48 : decode cX3_swapRows 48 = .ok (.iastore, 1) := by decide +kernel
theorem dX3_swapRows_49 : decode cX3_swapRows 49 = .ok (.iinc 4 1, 3) := by decide +kernel
theorem dX3_swapRows_52 : decode cX3_swapRows 52 = .ok (.goto (-49), 3) := by decide +kernel
theorem dX3_swapRows_55 : decode cX3_swapRows 55 = .ok (.return_, 1) := by decide +kernel
set_option maxRecDepth 20000 in
theorem ggX3_clearBelow_X3_inverseOf : GoodIn wsX3_clearBelow wsX3_inverseOf := goodIn_r _ [4] (by decide +kernel) (by decide +kernel)
set_option maxRecDepth 20000 in
theorem gX3_clearBelow_X3_inverseOf : GoodIn wsX3_clearBelow (va_wsS RX3 40 yX3_inverseOf wsX3_inverseOf) := goodIn_app (goodIn_of _ (by decide +kernel)) ggX3_clearBelow_X3_inverseOf
set_option maxRecDepth 20000 in
theorem ggX3_clearBelow_J9_floorMod_7cf53 : GoodIn wsX3_clearBelow wsJ9_floorMod_7cf53 := goodIn_r _ [8] (by decide +kernel) (by decide +kernel)
set_option maxRecDepth 20000 in
theorem gX3_clearBelow_J9_floorMod_7cf53 : GoodIn wsX3_clearBelow (va_wsS RX3 44 yJ9_floorMod_7cf53 wsJ9_floorMod_7cf53) := goodIn_app (goodIn_of _ (by decide +kernel)) ggX3_clearBelow_J9_floorMod_7cf53
theorem dX3_clearBelow_0 : decode cX3_clearBelow 0 = .ok (.aload_n 0, 1) := by decide +kernel
theorem dX3_clearBelow_1 : decode cX3_clearBelow 1 = .ok (.bipush 45, 2) := by decide +kernel
theorem dX3_clearBelow_3 : decode cX3_clearBelow 3 = .ok (.iload_n 2, 1) := by decide +kernel
theorem dX3_clearBelow_4 : decode cX3_clearBelow 4 = .ok (.imul, 1) := by decide +kernel
theorem dX3_clearBelow_5 : decode cX3_clearBelow 5 = .ok (.iload_n 1, 1) := by decide +kernel
theorem dX3_clearBelow_6 : decode cX3_clearBelow 6 = .ok (.iadd, 1) := by decide +kernel
theorem dX3_clearBelow_7 : decode cX3_clearBelow 7 = .ok (.iaload, 1) := by decide +kernel
theorem dX3_clearBelow_8 : decode cX3_clearBelow 8 = .ok (.iload 4, 2) := by decide +kernel
theorem dX3_clearBelow_10 : decode cX3_clearBelow 10 = .ok (.invokestatic 40, 3) := by decide +kernel
theorem dX3_clearBelow_13 : decode cX3_clearBelow 13 = .ok (.istore 5, 2) := by decide +kernel
theorem dX3_clearBelow_15 : decode cX3_clearBelow 15 = .ok (.iload_n 2, 1) := by decide +kernel
theorem dX3_clearBelow_16 : decode cX3_clearBelow 16 = .ok (.iconst 1, 1) := by decide +kernel
theorem dX3_clearBelow_17 : decode cX3_clearBelow 17 = .ok (.iadd, 1) := by decide +kernel
theorem dX3_clearBelow_18 : decode cX3_clearBelow 18 = .ok (.istore 6, 2) := by decide +kernel
theorem dX3_clearBelow_20 : decode cX3_clearBelow 20 = .ok (.iload 6, 2) := by decide +kernel
theorem dX3_clearBelow_22 : decode cX3_clearBelow 22 = .ok (.aload_n 3, 1) := by decide +kernel
theorem dX3_clearBelow_23 : decode cX3_clearBelow 23 = .ok (.getfield 9, 3) := by decide +kernel
theorem dX3_clearBelow_26 : decode cX3_clearBelow 26 = .ok (.if_icmp .ge 91, 3) := by decide +kernel
theorem dX3_clearBelow_29 : decode cX3_clearBelow 29 = .ok (.aload_n 0, 1) := by decide +kernel
theorem dX3_clearBelow_30 : decode cX3_clearBelow 30 = .ok (.bipush 45, 2) := by decide +kernel
theorem dX3_clearBelow_32 : decode cX3_clearBelow 32 = .ok (.iload 6, 2) := by decide +kernel
theorem dX3_clearBelow_34 : decode cX3_clearBelow 34 = .ok (.imul, 1) := by decide +kernel
theorem dX3_clearBelow_35 : decode cX3_clearBelow 35 = .ok (.iload_n 1, 1) := by decide +kernel
theorem dX3_clearBelow_36 : decode cX3_clearBelow 36 = .ok (.iadd, 1) := by decide +kernel
theorem dX3_clearBelow_37 : decode cX3_clearBelow 37 = .ok (.iaload, 1) := by decide +kernel
theorem dX3_clearBelow_38 : decode cX3_clearBelow 38 = .ok (.iload 5, 2) := by decide +kernel
theorem dX3_clearBelow_40 : decode cX3_clearBelow 40 = .ok (.imul, 1) := by decide +kernel
theorem dX3_clearBelow_41 : decode cX3_clearBelow 41 = .ok (.iload 4, 2) := by decide +kernel
theorem dX3_clearBelow_43 : decode cX3_clearBelow 43 = .ok (.irem, 1) := by decide +kernel
theorem dX3_clearBelow_44 : decode cX3_clearBelow 44 = .ok (.istore 7, 2) := by decide +kernel
theorem dX3_clearBelow_46 : decode cX3_clearBelow 46 = .ok (.iload_n 1, 1) := by decide +kernel
theorem dX3_clearBelow_47 : decode cX3_clearBelow 47 = .ok (.istore 8, 2) := by decide +kernel
theorem dX3_clearBelow_49 : decode cX3_clearBelow 49 = .ok (.iload 7, 2) := by decide +kernel
theorem dX3_clearBelow_51 : decode cX3_clearBelow 51 = .ok (.ifCond .eq 60, 3) := by decide +kernel
theorem dX3_clearBelow_54 : decode cX3_clearBelow 54 = .ok (.iload 8, 2) := by decide +kernel
theorem dX3_clearBelow_56 : decode cX3_clearBelow 56 = .ok (.aload_n 3, 1) := by decide +kernel
theorem dX3_clearBelow_57 : decode cX3_clearBelow 57 = .ok (.getfield 15, 3) := by decide +kernel
theorem dX3_clearBelow_60 : decode cX3_clearBelow 60 = .ok (.if_icmp .ge 51, 3) := by decide +kernel
theorem dX3_clearBelow_63 : decode cX3_clearBelow 63 = .ok (.iload 7, 2) := by decide +kernel
theorem dX3_clearBelow_65 : decode cX3_clearBelow 65 = .ok (.aload_n 0, 1) := by decide +kernel
theorem dX3_clearBelow_66 : decode cX3_clearBelow 66 = .ok (.bipush 45, 2) := by decide +kernel
theorem dX3_clearBelow_68 : decode cX3_clearBelow 68 = .ok (.iload_n 2, 1) := by decide +kernel
theorem dX3_clearBelow_69 : decode cX3_clearBelow 69 = .ok (.imul, 1) := by decide +kernel
theorem dX3_clearBelow_70 : decode cX3_clearBelow 70 = .ok (.iload 8, 2) := by decide +kernel
theorem dX3_clearBelow_72 : decode cX3_clearBelow 72 = .ok (.iadd, 1) := by decide +kernel
theorem dX3_clearBelow_73 : decode cX3_clearBelow 73 = .ok (.iaload, 1) := by decide +kernel
theorem dX3_clearBelow_74 : decode cX3_clearBelow 74 = .ok (.imul, 1) := by decide +kernel
theorem dX3_clearBelow_75 : decode cX3_clearBelow 75 = .ok (.istore 9, 2) := by decide +kernel
theorem dX3_clearBelow_77 : decode cX3_clearBelow 77 = .ok (.aload_n 0, 1) := by decide +kernel
theorem dX3_clearBelow_78 : decode cX3_clearBelow 78 = .ok (.bipush 45, 2) := by decide +kernel
theorem dX3_clearBelow_80 : decode cX3_clearBelow 80 = .ok (.iload 6, 2) := by decide +kernel
theorem dX3_clearBelow_82 : decode cX3_clearBelow 82 = .ok (.imul, 1) := by decide +kernel
theorem dX3_clearBelow_83 : decode cX3_clearBelow 83 = .ok (.iload 8, 2) := by decide +kernel
theorem dX3_clearBelow_85 : decode cX3_clearBelow 85 = .ok (.iadd, 1) := by decide +kernel
theorem dX3_clearBelow_86 : decode cX3_clearBelow 86 = .ok (.aload_n 0, 1) := by decide +kernel
theorem dX3_clearBelow_87 : decode cX3_clearBelow 87 = .ok (.bipush 45, 2) := by decide +kernel
theorem dX3_clearBelow_89 : decode cX3_clearBelow 89 = .ok (.iload 6, 2) := by decide +kernel
theorem dX3_clearBelow_91 : decode cX3_clearBelow 91 = .ok (.imul, 1) := by decide +kernel
theorem dX3_clearBelow_92 : decode cX3_clearBelow 92 = .ok (.iload 8, 2) := by decide +kernel
theorem dX3_clearBelow_94 : decode cX3_clearBelow 94 = .ok (.iadd, 1) := by decide +kernel
theorem dX3_clearBelow_95 : decode cX3_clearBelow 95 = .ok (.iaload, 1) := by decide +kernel
theorem dX3_clearBelow_96 : decode cX3_clearBelow 96 = .ok (.iload 9, 2) := by decide +kernel
theorem dX3_clearBelow_98 : decode cX3_clearBelow 98 = .ok (.isub, 1) := by decide +kernel
theorem dX3_clearBelow_99 : decode cX3_clearBelow 99 = .ok (.iload 4, 2) := by decide +kernel
theorem dX3_clearBelow_101 : decode cX3_clearBelow 101 = .ok (.invokestatic 44, 3) := by decide +kernel
theorem dX3_clearBelow_104 : decode cX3_clearBelow 104 = .ok (.iastore, 1) := by decide +kernel
theorem dX3_clearBelow_105 : decode cX3_clearBelow 105 = .ok (.iinc 8 1, 3) := by decide +kernel
theorem dX3_clearBelow_108 : decode cX3_clearBelow 108 = .ok (.goto (-59), 3) := by decide +kernel
theorem dX3_clearBelow_111 : decode cX3_clearBelow 111 = .ok (.iinc 6 1, 3) := by decide +kernel
theorem dX3_clearBelow_114 : decode cX3_clearBelow 114 = .ok (.goto (-94), 3) := by decide +kernel
theorem dX3_clearBelow_117 : decode cX3_clearBelow 117 = .ok (.return_, 1) := by decide +kernel
theorem dX3_inverseOf_0 : decode cX3_inverseOf 0 = .ok (.iconst 1, 1) := by decide +kernel
theorem dX3_inverseOf_1 : decode cX3_inverseOf 1 = .ok (.istore_n 2, 1) := by decide +kernel
theorem dX3_inverseOf_2 : decode cX3_inverseOf 2 = .ok (.iload_n 2, 1) := by decide +kernel
theorem dX3_inverseOf_3 : decode cX3_inverseOf 3 = .ok (.iload_n 1, 1) := by decide +kernel
theorem dX3_inverseOf_4 : decode cX3_inverseOf 4 = .ok (.if_icmp .ge 20, 3) := by decide +kernel
theorem dX3_inverseOf_7 : decode cX3_inverseOf 7 = .ok (.iload_n 0, 1) := by decide +kernel
theorem dX3_inverseOf_8 : decode cX3_inverseOf 8 = .ok (.iload_n 2, 1) := by decide +kernel
theorem dX3_inverseOf_9 : decode cX3_inverseOf 9 = .ok (.imul, 1) := by decide +kernel
theorem dX3_inverseOf_10 : decode cX3_inverseOf 10 = .ok (.iload_n 1, 1) := by decide +kernel
theorem dX3_inverseOf_11 : decode cX3_inverseOf 11 = .ok (.irem, 1) := by decide +kernel
theorem dX3_inverseOf_12 : decode cX3_inverseOf 12 = .ok (.iconst 1, 1) := by decide +kernel
theorem dX3_inverseOf_13 : decode cX3_inverseOf 13 = .ok (.if_icmp .ne 5, 3) := by decide +kernel
theorem dX3_inverseOf_16 : decode cX3_inverseOf 16 = .ok (.iload_n 2, 1) := by decide +kernel
theorem dX3_inverseOf_17 : decode cX3_inverseOf 17 = .ok (.ireturn, 1) := by decide +kernel
theorem dX3_inverseOf_18 : decode cX3_inverseOf 18 = .ok (.iinc 2 1, 3) := by decide +kernel
theorem dX3_inverseOf_21 : decode cX3_inverseOf 21 = .ok (.goto (-19), 3) := by decide +kernel
theorem dX3_inverseOf_24 : decode cX3_inverseOf 24 = .ok (.iconst 1, 1) := by decide +kernel
theorem dX3_inverseOf_25 : decode cX3_inverseOf 25 = .ok (.ireturn, 1) := by decide +kernel
theorem dX4_init_0 : decode cX4_init 0 = .ok (.aload_n 0, 1) := by decide +kernel
theorem dX4_init_1 : decode cX4_init 1 = .ok (.invokespecial 3, 3) := by decide +kernel
theorem dX4_init_4 : decode cX4_init 4 = .ok (.aload_n 0, 1) := by decide +kernel
theorem dX4_init_5 : decode cX4_init 5 = .ok (.bipush 46, 2) := by decide +kernel
theorem dX4_init_7 : decode cX4_init 7 = .ok (.newarray .long, 2) := by decide +kernel
theorem dX4_init_9 : decode cX4_init 9 = .ok (.putfield 9, 3) := by decide +kernel
theorem dX4_init_12 : decode cX4_init 12 = .ok (.aload_n 0, 1) := by decide +kernel
theorem dX4_init_13 : decode cX4_init 13 = .ok (.bipush 46, 2) := by decide +kernel
theorem dX4_init_15 : decode cX4_init 15 = .ok (.newarray .long, 2) := by decide +kernel
theorem dX4_init_17 : decode cX4_init 17 = .ok (.putfield 15, 3) := by decide +kernel
theorem dX4_init_20 : decode cX4_init 20 = .ok (.aload_n 0, 1) := by decide +kernel
theorem dX4_init_21 : decode cX4_init 21 = .ok (.bipush 46, 2) := by decide +kernel
theorem dX4_init_23 : decode cX4_init 23 = .ok (.newarray .long, 2) := by decide +kernel
theorem dX4_init_25 : decode cX4_init 25 = .ok (.putfield 18, 3) := by decide +kernel
theorem dX4_init_28 : decode cX4_init 28 = .ok (.return_, 1) := by decide +kernel
set_option maxRecDepth 20000 in
theorem ggX4_seek_X6_below : GoodIn wsX4_seek wsX6_below := goodIn_r _ [12] (by decide +kernel) (by decide +kernel)
set_option maxRecDepth 20000 in
theorem gX4_seek_X6_below_n21 : GoodIn wsX4_seek (wsX6_below) := ggX4_seek_X6_below
set_option maxRecDepth 20000 in
theorem ggX4_seek_X4_open : GoodIn wsX4_seek wsX4_open := goodIn_r _ [17, 9, 5, 6, 1, 4, 7, 18, 19, 20, 11, 21, 22, 23, 24, 25, 26, 27, 28, 29, 30, 35, 36, 37, 38, 39, 40, 41, 42, 43] (by decide +kernel) (by decide +kernel)
set_option maxRecDepth 20000 in
theorem gX4_seek_X4_open : GoodIn wsX4_seek (wsV RX4 43 RX4 yX4_open wsX4_open) := goodIn_app (goodIn_of _ (by decide +kernel)) ggX4_seek_X4_open
set_option maxRecDepth 20000 in
theorem ggX4_seek_X4_take : GoodIn wsX4_seek wsX4_take := goodIn_r _ [34, 9, 5, 19, 2, 6, 7, 20, 11, 21, 22, 23, 24, 25, 26, 27, 28, 13, 14, 15, 16, 17, 1, 4, 18, 29, 30, 35, 36, 37, 38, 39, 40, 41, 42, 43] (by decide +kernel) (by decide +kernel)
set_option maxRecDepth 20000 in
theorem gX4_seek_X4_take : GoodIn wsX4_seek (wsV RX4 48 RX4 yX4_take wsX4_take) := goodIn_app (goodIn_of _ (by decide +kernel)) ggX4_seek_X4_take
theorem dX4_seek_0 : decode cX4_seek 0 = .ok (.aload_n 0, 1) := by decide +kernel
theorem dX4_seek_1 : decode cX4_seek 1 = .ok (.iload_n 1, 1) := by decide +kernel
theorem dX4_seek_2 : decode cX4_seek 2 = .ok (.invokestatic 21, 3) := by decide +kernel
theorem dX4_seek_5 : decode cX4_seek 5 = .ok (.putfield 25, 3) := by decide +kernel
theorem dX4_seek_8 : decode cX4_seek 8 = .ok (.aload_n 0, 1) := by decide +kernel
theorem dX4_seek_9 : decode cX4_seek 9 = .ok (.iconst 0, 1) := by decide +kernel
theorem dX4_seek_10 : decode cX4_seek 10 = .ok (.putfield 29, 3) := by decide +kernel
theorem dX4_seek_13 : decode cX4_seek 13 = .ok (.aload_n 0, 1) := by decide +kernel
theorem dX4_seek_14 : decode cX4_seek 14 = .ok (.iconst 0, 1) := by decide +kernel
theorem dX4_seek_15 : decode cX4_seek 15 = .ok (.putfield 33, 3) := by decide +kernel
theorem dX4_seek_18 : decode cX4_seek 18 = .ok (.aload_n 0, 1) := by decide +kernel
theorem dX4_seek_19 : decode cX4_seek 19 = .ok (.iconst 0, 1) := by decide +kernel
theorem dX4_seek_20 : decode cX4_seek 20 = .ok (.putfield 37, 3) := by decide +kernel
theorem dX4_seek_23 : decode cX4_seek 23 = .ok (.aload_n 0, 1) := by decide +kernel
theorem dX4_seek_24 : decode cX4_seek 24 = .ok (.iconst 0, 1) := by decide +kernel
theorem dX4_seek_25 : decode cX4_seek 25 = .ok (.putfield 40, 3) := by decide +kernel
theorem dX4_seek_28 : decode cX4_seek 28 = .ok (.aload_n 0, 1) := by decide +kernel
theorem dX4_seek_29 : decode cX4_seek 29 = .ok (.getfield 9, 3) := by decide +kernel
theorem dX4_seek_32 : decode cX4_seek 32 = .ok (.iconst 0, 1) := by decide +kernel
theorem dX4_seek_33 : decode cX4_seek 33 = .ok (.lconst 0, 1) := by decide +kernel
theorem dX4_seek_34 : decode cX4_seek 34 = .ok (.lastore, 1) := by decide +kernel
theorem dX4_seek_35 : decode cX4_seek 35 = .ok (.aload_n 0, 1) := by decide +kernel
theorem dX4_seek_36 : decode cX4_seek 36 = .ok (.getfield 15, 3) := by decide +kernel
theorem dX4_seek_39 : decode cX4_seek 39 = .ok (.iconst 0, 1) := by decide +kernel
theorem dX4_seek_40 : decode cX4_seek 40 = .ok (.lconst 0, 1) := by decide +kernel
theorem dX4_seek_41 : decode cX4_seek 41 = .ok (.lastore, 1) := by decide +kernel
theorem dX4_seek_42 : decode cX4_seek 42 = .ok (.aload_n 0, 1) := by decide +kernel
theorem dX4_seek_43 : decode cX4_seek 43 = .ok (.aload_n 2, 1) := by decide +kernel
theorem dX4_seek_44 : decode cX4_seek 44 = .ok (.aload_n 3, 1) := by decide +kernel
theorem dX4_seek_45 : decode cX4_seek 45 = .ok (.invokevirtual 43, 3) := by decide +kernel
theorem dX4_seek_48 : decode cX4_seek 48 = .ok (.iconst 0, 1) := by decide +kernel
theorem dX4_seek_49 : decode cX4_seek 49 = .ok (.istore 6, 2) := by decide +kernel
theorem dX4_seek_51 : decode cX4_seek 51 = .ok (.iload 6, 2) := by decide +kernel
theorem dX4_seek_53 : decode cX4_seek 53 = .ok (.ldc 47, 2) := by decide +kernel
theorem dX4_seek_55 : decode cX4_seek 55 = .ok (.if_icmp .ge 77, 3) := by decide +kernel
theorem dX4_seek_58 : decode cX4_seek 58 = .ok (.aload_n 0, 1) := by decide +kernel
theorem dX4_seek_59 : decode cX4_seek 59 = .ok (.getfield 40, 3) := by decide +kernel
theorem dX4_seek_62 : decode cX4_seek 62 = .ok (.ifCond .lt 70, 3) := by decide +kernel
theorem dX4_seek_65 : decode cX4_seek 65 = .ok (.aload_n 0, 1) := by decide +kernel
theorem dX4_seek_66 : decode cX4_seek 66 = .ok (.getfield 37, 3) := by decide +kernel
theorem dX4_seek_69 : decode cX4_seek 69 = .ok (.ifCond .le 9, 3) := by decide +kernel
theorem dX4_seek_72 : decode cX4_seek 72 = .ok (.iload 5, 2) := by decide +kernel
theorem dX4_seek_74 : decode cX4_seek 74 = .ok (.ifCond .ne 4, 3) := by decide +kernel
theorem dX4_seek_77 : decode cX4_seek 77 = .ok (.return_, 1) := by decide +kernel
theorem dX4_seek_78 : decode cX4_seek 78 = .ok (.aload_n 0, 1) := by decide +kernel
theorem dX4_seek_79 : decode cX4_seek 79 = .ok (.getfield 18, 3) := by decide +kernel
theorem dX4_seek_82 : decode cX4_seek 82 = .ok (.aload_n 0, 1) := by decide +kernel
theorem dX4_seek_83 : decode cX4_seek 83 = .ok (.getfield 40, 3) := by decide +kernel
theorem dX4_seek_86 : decode cX4_seek 86 = .ok (.laload, 1) := by decide +kernel
theorem dX4_seek_87 : decode cX4_seek 87 = .ok (.lconst 0, 1) := by decide +kernel
theorem dX4_seek_88 : decode cX4_seek 88 = .ok (.lcmp, 1) := by decide +kernel
theorem dX4_seek_89 : decode cX4_seek 89 = .ok (.ifCond .ne 16, 3) := by decide +kernel
theorem dX4_seek_92 : decode cX4_seek 92 = .ok (.aload_n 0, 1) := by decide +kernel
theorem dX4_seek_93 : decode cX4_seek 93 = .ok (.dup, 1) := by decide +kernel
theorem dX4_seek_94 : decode cX4_seek 94 = .ok (.getfield 40, 3) := by decide +kernel
theorem dX4_seek_97 : decode cX4_seek 97 = .ok (.iconst 1, 1) := by decide +kernel
theorem dX4_seek_98 : decode cX4_seek 98 = .ok (.isub, 1) := by decide +kernel
theorem dX4_seek_99 : decode cX4_seek 99 = .ok (.putfield 40, 3) := by decide +kernel
theorem dX4_seek_102 : decode cX4_seek 102 = .ok (.goto 24, 3) := by decide +kernel
theorem dX4_seek_105 : decode cX4_seek 105 = .ok (.aload_n 0, 1) := by decide +kernel
theorem dX4_seek_106 : decode cX4_seek 106 = .ok (.getfield 29, 3) := by decide +kernel
theorem dX4_seek_109 : decode cX4_seek 109 = .ok (.iload 4, 2) := by decide +kernel
theorem dX4_seek_111 : decode cX4_seek 111 = .ok (.if_icmp .ne 9, 3) := by decide +kernel
theorem dX4_seek_114 : decode cX4_seek 114 = .ok (.aload_n 0, 1) := by decide +kernel
theorem dX4_seek_115 : decode cX4_seek 115 = .ok (.iconst 1, 1) := by decide +kernel
theorem dX4_seek_116 : decode cX4_seek 116 = .ok (.putfield 33, 3) := by decide +kernel
theorem dX4_seek_119 : decode cX4_seek 119 = .ok (.return_, 1) := by decide +kernel
theorem dX4_seek_120 : decode cX4_seek 120 = .ok (.aload_n 0, 1) := by decide +kernel
theorem dX4_seek_121 : decode cX4_seek 121 = .ok (.aload_n 2, 1) := by decide +kernel
theorem dX4_seek_122 : decode cX4_seek 122 = .ok (.aload_n 3, 1) := by decide +kernel
theorem dX4_seek_123 : decode cX4_seek 123 = .ok (.invokevirtual 48, 3) := by decide +kernel
theorem dX4_seek_126 : decode cX4_seek 126 = .ok (.iinc 6 1, 3) := by decide +kernel
theorem dX4_seek_129 : decode cX4_seek 129 = .ok (.goto (-78), 3) := by decide +kernel
theorem dX4_seek_132 : decode cX4_seek 132 = .ok (.return_, 1) := by decide +kernel
set_option maxRecDepth 20000 in
theorem ggX4_take_X6_leastOf : GoodIn wsX4_take wsX6_leastOf := goodIn_r _ [9, 10, 11, 12, 13, 14, 15, 16] (by decide +kernel) (by decide +kernel)
set_option maxRecDepth 20000 in
theorem gX4_take_X6_leastOf_n51 : GoodIn wsX4_take (wsX6_leastOf) := ggX4_take_X6_leastOf
set_option maxRecDepth 20000 in
theorem ggX4_take_X4_open : GoodIn wsX4_take wsX4_open := goodIn_r _ [21, 1, 2, 5, 22, 23, 6, 24, 3, 7, 8, 9, 10, 11, 12, 13, 14, 15, 16, 25, 26, 27, 28, 29, 30, 31, 32, 33, 34, 35] (by decide +kernel) (by decide +kernel)
set_option maxRecDepth 20000 in
theorem gX4_take_X4_open : GoodIn wsX4_take (wsV RX4 43 RX4 yX4_open wsX4_open) := goodIn_app (goodIn_of _ (by decide +kernel)) ggX4_take_X4_open
theorem dX4_take_0 : decode cX4_take 0 = .ok (.aload_n 0, 1) := by decide +kernel
theorem dX4_take_1 : decode cX4_take 1 = .ok (.getfield 18, 3) := by decide +kernel
theorem dX4_take_4 : decode cX4_take 4 = .ok (.aload_n 0, 1) := by decide +kernel
theorem dX4_take_5 : decode cX4_take 5 = .ok (.getfield 40, 3) := by decide +kernel
theorem dX4_take_8 : decode cX4_take 8 = .ok (.laload, 1) := by decide +kernel
theorem dX4_take_9 : decode cX4_take 9 = .ok (.invokestatic 51, 3) := by decide +kernel
theorem dX4_take_12 : decode cX4_take 12 = .ok (.istore_n 3, 1) := by decide +kernel
theorem dX4_take_13 : decode cX4_take 13 = .ok (.aload_n 0, 1) := by decide +kernel
theorem dX4_take_14 : decode cX4_take 14 = .ok (.getfield 18, 3) := by decide +kernel
theorem dX4_take_17 : decode cX4_take 17 = .ok (.aload_n 0, 1) := by decide +kernel
theorem dX4_take_18 : decode cX4_take 18 = .ok (.getfield 40, 3) := by decide +kernel
theorem dX4_take_21 : decode cX4_take 21 = .ok (.dup2, 1) := by decide +kernel
theorem dX4_take_22 : decode cX4_take 22 = .ok (.laload, 1) := by decide +kernel
theorem dX4_take_23 : decode cX4_take 23 = .ok (.lconst 1, 1) := by decide +kernel
theorem dX4_take_24 : decode cX4_take 24 = .ok (.iload_n 3, 1) := by decide +kernel
theorem dX4_take_25 : decode cX4_take 25 = .ok (.lshl, 1) := by decide +kernel
theorem dX4_take_26 : decode cX4_take 26 = .ok (.ldc2_w 55, 3) := by decide +kernel
theorem dX4_take_29 : decode cX4_take 29 = .ok (.lxor, 1) := by decide +kernel
theorem dX4_take_30 : decode cX4_take 30 = .ok (.land, 1) := by decide +kernel
theorem dX4_take_31 : decode cX4_take 31 = .ok (.lastore, 1) := by decide +kernel
theorem dX4_take_32 : decode cX4_take 32 = .ok (.aload_n 0, 1) := by decide +kernel
theorem dX4_take_33 : decode cX4_take 33 = .ok (.dup, 1) := by decide +kernel
theorem dX4_take_34 : decode cX4_take 34 = .ok (.getfield 29, 3) := by decide +kernel
theorem dX4_take_37 : decode cX4_take 37 = .ok (.iconst 1, 1) := by decide +kernel
theorem dX4_take_38 : decode cX4_take 38 = .ok (.iadd, 1) := by decide +kernel
theorem dX4_take_39 : decode cX4_take 39 = .ok (.putfield 29, 3) := by decide +kernel
theorem dX4_take_42 : decode cX4_take 42 = .ok (.iload_n 3, 1) := by decide +kernel
theorem dX4_take_43 : decode cX4_take 43 = .ok (.bipush 45, 2) := by decide +kernel
theorem dX4_take_45 : decode cX4_take 45 = .ok (.if_icmp .ge 76, 3) := by decide +kernel
theorem dX4_take_48 : decode cX4_take 48 = .ok (.aload_n 0, 1) := by decide +kernel
theorem dX4_take_49 : decode cX4_take 49 = .ok (.getfield 40, 3) := by decide +kernel
theorem dX4_take_52 : decode cX4_take 52 = .ok (.bipush 45, 2) := by decide +kernel
theorem dX4_take_54 : decode cX4_take 54 = .ok (.if_icmp .ge 67, 3) := by decide +kernel
theorem dX4_take_57 : decode cX4_take 57 = .ok (.aload_n 0, 1) := by decide +kernel
theorem dX4_take_58 : decode cX4_take 58 = .ok (.getfield 9, 3) := by decide +kernel
theorem dX4_take_61 : decode cX4_take 61 = .ok (.aload_n 0, 1) := by decide +kernel
theorem dX4_take_62 : decode cX4_take 62 = .ok (.getfield 40, 3) := by decide +kernel
theorem dX4_take_65 : decode cX4_take 65 = .ok (.iconst 1, 1) := by decide +kernel
theorem dX4_take_66 : decode cX4_take 66 = .ok (.iadd, 1) := by decide +kernel
theorem dX4_take_67 : decode cX4_take 67 = .ok (.aload_n 0, 1) := by decide +kernel
theorem dX4_take_68 : decode cX4_take 68 = .ok (.getfield 9, 3) := by decide +kernel
theorem dX4_take_71 : decode cX4_take 71 = .ok (.aload_n 0, 1) := by decide +kernel
theorem dX4_take_72 : decode cX4_take 72 = .ok (.getfield 40, 3) := by decide +kernel
theorem dX4_take_75 : decode cX4_take 75 = .ok (.laload, 1) := by decide +kernel
theorem dX4_take_76 : decode cX4_take 76 = .ok (.aload_n 2, 1) := by decide +kernel
theorem dX4_take_77 : decode cX4_take 77 = .ok (.iload_n 3, 1) := by decide +kernel
theorem dX4_take_78 : decode cX4_take 78 = .ok (.laload, 1) := by decide +kernel
theorem dX4_take_79 : decode cX4_take 79 = .ok (.lor, 1) := by decide +kernel
theorem dX4_take_80 : decode cX4_take 80 = .ok (.lastore, 1) := by decide +kernel
theorem dX4_take_81 : decode cX4_take 81 = .ok (.aload_n 0, 1) := by decide +kernel
theorem dX4_take_82 : decode cX4_take 82 = .ok (.getfield 15, 3) := by decide +kernel
theorem dX4_take_85 : decode cX4_take 85 = .ok (.aload_n 0, 1) := by decide +kernel
theorem dX4_take_86 : decode cX4_take 86 = .ok (.getfield 40, 3) := by decide +kernel
theorem dX4_take_89 : decode cX4_take 89 = .ok (.iconst 1, 1) := by decide +kernel
theorem dX4_take_90 : decode cX4_take 90 = .ok (.iadd, 1) := by decide +kernel
theorem dX4_take_91 : decode cX4_take 91 = .ok (.aload_n 0, 1) := by decide +kernel
theorem dX4_take_92 : decode cX4_take 92 = .ok (.getfield 15, 3) := by decide +kernel
theorem dX4_take_95 : decode cX4_take 95 = .ok (.aload_n 0, 1) := by decide +kernel
theorem dX4_take_96 : decode cX4_take 96 = .ok (.getfield 40, 3) := by decide +kernel
theorem dX4_take_99 : decode cX4_take 99 = .ok (.laload, 1) := by decide +kernel
theorem dX4_take_100 : decode cX4_take 100 = .ok (.lconst 1, 1) := by decide +kernel
theorem dX4_take_101 : decode cX4_take 101 = .ok (.iload_n 3, 1) := by decide +kernel
theorem dX4_take_102 : decode cX4_take 102 = .ok (.lshl, 1) := by decide +kernel
theorem dX4_take_103 : decode cX4_take 103 = .ok (.lor, 1) := by decide +kernel
theorem dX4_take_104 : decode cX4_take 104 = .ok (.lastore, 1) := by decide +kernel
theorem dX4_take_105 : decode cX4_take 105 = .ok (.aload_n 0, 1) := by decide +kernel
theorem dX4_take_106 : decode cX4_take 106 = .ok (.dup, 1) := by decide +kernel
theorem dX4_take_107 : decode cX4_take 107 = .ok (.getfield 40, 3) := by decide +kernel
theorem dX4_take_110 : decode cX4_take 110 = .ok (.iconst 1, 1) := by decide +kernel
theorem dX4_take_111 : decode cX4_take 111 = .ok (.iadd, 1) := by decide +kernel
theorem dX4_take_112 : decode cX4_take 112 = .ok (.putfield 40, 3) := by decide +kernel
theorem dX4_take_115 : decode cX4_take 115 = .ok (.aload_n 0, 1) := by decide +kernel
theorem dX4_take_116 : decode cX4_take 116 = .ok (.aload_n 1, 1) := by decide +kernel
theorem dX4_take_117 : decode cX4_take 117 = .ok (.aload_n 2, 1) := by decide +kernel
theorem dX4_take_118 : decode cX4_take 118 = .ok (.invokevirtual 43, 3) := by decide +kernel
theorem dX4_take_121 : decode cX4_take 121 = .ok (.return_, 1) := by decide +kernel
set_option maxRecDepth 20000 in
theorem ggX4_open_X6_leastOf : GoodIn wsX4_open wsX6_leastOf := goodIn_r _ [11, 12, 13, 14, 15, 16, 17, 18] (by decide +kernel) (by decide +kernel)
set_option maxRecDepth 20000 in
theorem gX4_open_X6_leastOf_n51 : GoodIn wsX4_open (wsX6_leastOf) := ggX4_open_X6_leastOf
set_option maxRecDepth 20000 in
theorem ggX4_open_X6_has : GoodIn wsX4_open wsX6_has := goodIn_r _ [20] (by decide +kernel) (by decide +kernel)
set_option maxRecDepth 20000 in
theorem gX4_open_X6_has_n60 : GoodIn wsX4_open (wsX6_has) := ggX4_open_X6_has
theorem dX4_open_0 : decode cX4_open 0 = .ok (.aload_n 0, 1) := by decide +kernel
theorem dX4_open_1 : decode cX4_open 1 = .ok (.getfield 18, 3) := by decide +kernel
theorem dX4_open_4 : decode cX4_open 4 = .ok (.aload_n 0, 1) := by decide +kernel
theorem dX4_open_5 : decode cX4_open 5 = .ok (.getfield 40, 3) := by decide +kernel
theorem dX4_open_8 : decode cX4_open 8 = .ok (.lconst 0, 1) := by decide +kernel
theorem dX4_open_9 : decode cX4_open 9 = .ok (.lastore, 1) := by decide +kernel
theorem dX4_open_10 : decode cX4_open 10 = .ok (.aload_n 0, 1) := by decide +kernel
theorem dX4_open_11 : decode cX4_open 11 = .ok (.getfield 9, 3) := by decide +kernel
theorem dX4_open_14 : decode cX4_open 14 = .ok (.aload_n 0, 1) := by decide +kernel
theorem dX4_open_15 : decode cX4_open 15 = .ok (.getfield 40, 3) := by decide +kernel
theorem dX4_open_18 : decode cX4_open 18 = .ok (.laload, 1) := by decide +kernel
theorem dX4_open_19 : decode cX4_open 19 = .ok (.aload_n 0, 1) := by decide +kernel
theorem dX4_open_20 : decode cX4_open 20 = .ok (.getfield 25, 3) := by decide +kernel
theorem dX4_open_23 : decode cX4_open 23 = .ok (.lcmp, 1) := by decide +kernel
theorem dX4_open_24 : decode cX4_open 24 = .ok (.ifCond .ne 27, 3) := by decide +kernel
theorem dX4_open_27 : decode cX4_open 27 = .ok (.aload_n 0, 1) := by decide +kernel
theorem dX4_open_28 : decode cX4_open 28 = .ok (.dup, 1) := by decide +kernel
theorem dX4_open_29 : decode cX4_open 29 = .ok (.getfield 37, 3) := by decide +kernel
theorem dX4_open_32 : decode cX4_open 32 = .ok (.iconst 1, 1) := by decide +kernel
theorem dX4_open_33 : decode cX4_open 33 = .ok (.iadd, 1) := by decide +kernel
theorem dX4_open_34 : decode cX4_open 34 = .ok (.putfield 37, 3) := by decide +kernel
theorem dX4_open_37 : decode cX4_open 37 = .ok (.aload_n 0, 1) := by decide +kernel
theorem dX4_open_38 : decode cX4_open 38 = .ok (.aload_n 0, 1) := by decide +kernel
theorem dX4_open_39 : decode cX4_open 39 = .ok (.getfield 15, 3) := by decide +kernel
theorem dX4_open_42 : decode cX4_open 42 = .ok (.aload_n 0, 1) := by decide +kernel
theorem dX4_open_43 : decode cX4_open 43 = .ok (.getfield 40, 3) := by decide +kernel
theorem dX4_open_46 : decode cX4_open 46 = .ok (.laload, 1) := by decide +kernel
theorem dX4_open_47 : decode cX4_open 47 = .ok (.putfield 57, 3) := by decide +kernel
theorem dX4_open_50 : decode cX4_open 50 = .ok (.return_, 1) := by decide +kernel
theorem dX4_open_51 : decode cX4_open 51 = .ok (.aload_n 0, 1) := by decide +kernel
theorem dX4_open_52 : decode cX4_open 52 = .ok (.getfield 9, 3) := by decide +kernel
theorem dX4_open_55 : decode cX4_open 55 = .ok (.aload_n 0, 1) := by decide +kernel
theorem dX4_open_56 : decode cX4_open 56 = .ok (.getfield 40, 3) := by decide +kernel
theorem dX4_open_59 : decode cX4_open 59 = .ok (.laload, 1) := by decide +kernel
theorem dX4_open_60 : decode cX4_open 60 = .ok (.ldc2_w 55, 3) := by decide +kernel
theorem dX4_open_63 : decode cX4_open 63 = .ok (.lxor, 1) := by decide +kernel
theorem dX4_open_64 : decode cX4_open 64 = .ok (.invokestatic 51, 3) := by decide +kernel
theorem dX4_open_67 : decode cX4_open 67 = .ok (.istore_n 3, 1) := by decide +kernel
theorem dX4_open_68 : decode cX4_open 68 = .ok (.iload_n 3, 1) := by decide +kernel
theorem dX4_open_69 : decode cX4_open 69 = .ok (.bipush 45, 2) := by decide +kernel
theorem dX4_open_71 : decode cX4_open 71 = .ok (.if_icmp .lt 4, 3) := by decide +kernel
theorem dX4_open_74 : decode cX4_open 74 = .ok (.return_, 1) := by decide +kernel
theorem dX4_open_75 : decode cX4_open 75 = .ok (.iconst 0, 1) := by decide +kernel
theorem dX4_open_76 : decode cX4_open 76 = .ok (.istore 4, 2) := by decide +kernel
theorem dX4_open_78 : decode cX4_open 78 = .ok (.iload 4, 2) := by decide +kernel
theorem dX4_open_80 : decode cX4_open 80 = .ok (.bipush 45, 2) := by decide +kernel
theorem dX4_open_82 : decode cX4_open 82 = .ok (.if_icmp .ge 55, 3) := by decide +kernel
theorem dX4_open_85 : decode cX4_open 85 = .ok (.aload_n 1, 1) := by decide +kernel
theorem dX4_open_86 : decode cX4_open 86 = .ok (.iload_n 3, 1) := by decide +kernel
theorem dX4_open_87 : decode cX4_open 87 = .ok (.laload, 1) := by decide +kernel
theorem dX4_open_88 : decode cX4_open 88 = .ok (.iload 4, 2) := by decide +kernel
theorem dX4_open_90 : decode cX4_open 90 = .ok (.invokestatic 60, 3) := by decide +kernel
theorem dX4_open_93 : decode cX4_open 93 = .ok (.ifCond .eq 38, 3) := by decide +kernel
theorem dX4_open_96 : decode cX4_open 96 = .ok (.aload_n 2, 1) := by decide +kernel
theorem dX4_open_97 : decode cX4_open 97 = .ok (.iload 4, 2) := by decide +kernel
theorem dX4_open_99 : decode cX4_open 99 = .ok (.laload, 1) := by decide +kernel
theorem dX4_open_100 : decode cX4_open 100 = .ok (.aload_n 0, 1) := by decide +kernel
theorem dX4_open_101 : decode cX4_open 101 = .ok (.getfield 9, 3) := by decide +kernel
theorem dX4_open_104 : decode cX4_open 104 = .ok (.aload_n 0, 1) := by decide +kernel
theorem dX4_open_105 : decode cX4_open 105 = .ok (.getfield 40, 3) := by decide +kernel
theorem dX4_open_108 : decode cX4_open 108 = .ok (.laload, 1) := by decide +kernel
theorem dX4_open_109 : decode cX4_open 109 = .ok (.land, 1) := by decide +kernel
theorem dX4_open_110 : decode cX4_open 110 = .ok (.lconst 0, 1) := by decide +kernel
theorem dX4_open_111 : decode cX4_open 111 = .ok (.lcmp, 1) := by decide +kernel
theorem dX4_open_112 : decode cX4_open 112 = .ok (.ifCond .ne 19, 3) := by decide +kernel
theorem dX4_open_115 : decode cX4_open 115 = .ok (.aload_n 0, 1) := by decide +kernel
theorem dX4_open_116 : decode cX4_open 116 = .ok (.getfield 18, 3) := by decide +kernel
theorem dX4_open_119 : decode cX4_open 119 = .ok (.aload_n 0, 1) := by decide +kernel
theorem dX4_open_120 : decode cX4_open 120 = .ok (.getfield 40, 3) := by decide +kernel
theorem dX4_open_123 : decode cX4_open 123 = .ok (.dup2, 1) := by decide +kernel
theorem dX4_open_124 : decode cX4_open 124 = .ok (.laload, 1) := by decide +kernel
theorem dX4_open_125 : decode cX4_open 125 = .ok (.lconst 1, 1) := by decide +kernel
theorem dX4_open_126 : decode cX4_open 126 = .ok (.iload 4, 2) := by decide +kernel
theorem dX4_open_128 : decode cX4_open 128 = .ok (.lshl, 1) := by decide +kernel
theorem dX4_open_129 : decode cX4_open 129 = .ok (.lor, 1) := by decide +kernel
theorem dX4_open_130 : decode cX4_open 130 = .ok (.lastore, 1) := by decide +kernel
theorem dX4_open_131 : decode cX4_open 131 = .ok (.iinc 4 1, 3) := by decide +kernel
theorem dX4_open_134 : decode cX4_open 134 = .ok (.goto (-56), 3) := by decide +kernel
theorem dX4_open_137 : decode cX4_open 137 = .ok (.return_, 1) := by decide +kernel
theorem dX5_init_0 : decode cX5_init 0 = .ok (.aload_n 0, 1) := by decide +kernel
theorem dX5_init_1 : decode cX5_init 1 = .ok (.invokespecial 3, 3) := by decide +kernel
theorem dX5_init_4 : decode cX5_init 4 = .ok (.aload_n 0, 1) := by decide +kernel
theorem dX5_init_5 : decode cX5_init 5 = .ok (.bipush 45, 2) := by decide +kernel
theorem dX5_init_7 : decode cX5_init 7 = .ok (.newarray .long, 2) := by decide +kernel
theorem dX5_init_9 : decode cX5_init 9 = .ok (.putfield 9, 3) := by decide +kernel
theorem dX5_init_12 : decode cX5_init 12 = .ok (.aload_n 0, 1) := by decide +kernel
theorem dX5_init_13 : decode cX5_init 13 = .ok (.bipush 45, 2) := by decide +kernel
theorem dX5_init_15 : decode cX5_init 15 = .ok (.newarray .long, 2) := by decide +kernel
theorem dX5_init_17 : decode cX5_init 17 = .ok (.putfield 15, 3) := by decide +kernel
theorem dX5_init_20 : decode cX5_init 20 = .ok (.aload_n 0, 1) := by decide +kernel
theorem dX5_init_21 : decode cX5_init 21 = .ok (.bipush 45, 2) := by decide +kernel
theorem dX5_init_23 : decode cX5_init 23 = .ok (.newarray .long, 2) := by decide +kernel
theorem dX5_init_25 : decode cX5_init 25 = .ok (.putfield 18, 3) := by decide +kernel
theorem dX5_init_28 : decode cX5_init 28 = .ok (.return_, 1) := by decide +kernel
theorem dX5_begin_0 : decode cX5_begin 0 = .ok (.aload_n 0, 1) := by decide +kernel
theorem dX5_begin_1 : decode cX5_begin 1 = .ok (.iconst 1, 1) := by decide +kernel
theorem dX5_begin_2 : decode cX5_begin 2 = .ok (.putfield 21, 3) := by decide +kernel
theorem dX5_begin_5 : decode cX5_begin 5 = .ok (.aload_n 0, 1) := by decide +kernel
theorem dX5_begin_6 : decode cX5_begin 6 = .ok (.iload_n 1, 1) := by decide +kernel
theorem dX5_begin_7 : decode cX5_begin 7 = .ok (.putfield 25, 3) := by decide +kernel
theorem dX5_begin_10 : decode cX5_begin 10 = .ok (.aload_n 0, 1) := by decide +kernel
theorem dX5_begin_11 : decode cX5_begin 11 = .ok (.iload_n 2, 1) := by decide +kernel
theorem dX5_begin_12 : decode cX5_begin 12 = .ok (.putfield 29, 3) := by decide +kernel
theorem dX5_begin_15 : decode cX5_begin 15 = .ok (.aload_n 0, 1) := by decide +kernel
theorem dX5_begin_16 : decode cX5_begin 16 = .ok (.iload_n 3, 1) := by decide +kernel
theorem dX5_begin_17 : decode cX5_begin 17 = .ok (.putfield 32, 3) := by decide +kernel
theorem dX5_begin_20 : decode cX5_begin 20 = .ok (.aload_n 0, 1) := by decide +kernel
theorem dX5_begin_21 : decode cX5_begin 21 = .ok (.iconst 0, 1) := by decide +kernel
theorem dX5_begin_22 : decode cX5_begin 22 = .ok (.putfield 35, 3) := by decide +kernel
theorem dX5_begin_25 : decode cX5_begin 25 = .ok (.iconst 0, 1) := by decide +kernel
theorem dX5_begin_26 : decode cX5_begin 26 = .ok (.istore 4, 2) := by decide +kernel
theorem dX5_begin_28 : decode cX5_begin 28 = .ok (.iload 4, 2) := by decide +kernel
theorem dX5_begin_30 : decode cX5_begin 30 = .ok (.bipush 45, 2) := by decide +kernel
theorem dX5_begin_32 : decode cX5_begin 32 = .ok (.if_icmp .ge 28, 3) := by decide +kernel
theorem dX5_begin_35 : decode cX5_begin 35 = .ok (.aload_n 0, 1) := by decide +kernel
theorem dX5_begin_36 : decode cX5_begin 36 = .ok (.getfield 15, 3) := by decide +kernel
theorem dX5_begin_39 : decode cX5_begin 39 = .ok (.iload 4, 2) := by decide +kernel
theorem dX5_begin_41 : decode cX5_begin 41 = .ok (.lconst 0, 1) := by decide +kernel
theorem dX5_begin_42 : decode cX5_begin 42 = .ok (.lastore, 1) := by decide +kernel
theorem dX5_begin_43 : decode cX5_begin 43 = .ok (.aload_n 0, 1) := by decide +kernel
theorem dX5_begin_44 : decode cX5_begin 44 = .ok (.getfield 18, 3) := by decide +kernel
theorem dX5_begin_47 : decode cX5_begin 47 = .ok (.iload 4, 2) := by decide +kernel
theorem dX5_begin_49 : decode cX5_begin 49 = .ok (.lconst 1, 1) := by decide +kernel
theorem dX5_begin_50 : decode cX5_begin 50 = .ok (.iload 4, 2) := by decide +kernel
theorem dX5_begin_52 : decode cX5_begin 52 = .ok (.lshl, 1) := by decide +kernel
theorem dX5_begin_53 : decode cX5_begin 53 = .ok (.lastore, 1) := by decide +kernel
theorem dX5_begin_54 : decode cX5_begin 54 = .ok (.iinc 4 1, 3) := by decide +kernel
theorem dX5_begin_57 : decode cX5_begin 57 = .ok (.goto (-29), 3) := by decide +kernel
theorem dX5_begin_60 : decode cX5_begin 60 = .ok (.return_, 1) := by decide +kernel
set_option maxRecDepth 20000 in
theorem ggX5_add_X6_has : GoodIn wsX5_add wsX6_has := goodIn_r _ [8] (by decide +kernel) (by decide +kernel)
set_option maxRecDepth 20000 in
theorem gX5_add_X6_has_n38 : GoodIn wsX5_add (wsX6_has) := ggX5_add_X6_has
theorem dX5_add_0 : decode cX5_add 0 = .ok (.aload_n 0, 1) := by decide +kernel
theorem dX5_add_1 : decode cX5_add 1 = .ok (.getfield 35, 3) := by decide +kernel
theorem dX5_add_4 : decode cX5_add 4 = .ok (.bipush 45, 2) := by decide +kernel
theorem dX5_add_6 : decode cX5_add 6 = .ok (.if_icmp .lt 5, 3) := by decide +kernel
theorem dX5_add_9 : decode cX5_add 9 = .ok (.iconst 0, 1) := by decide +kernel
theorem dX5_add_10 : decode cX5_add 10 = .ok (.ireturn, 1) := by decide +kernel
theorem dX5_add_11 : decode cX5_add 11 = .ok (.aload_n 0, 1) := by decide +kernel
theorem dX5_add_12 : decode cX5_add 12 = .ok (.getfield 9, 3) := by decide +kernel
theorem dX5_add_15 : decode cX5_add 15 = .ok (.aload_n 0, 1) := by decide +kernel
theorem dX5_add_16 : decode cX5_add 16 = .ok (.getfield 35, 3) := by decide +kernel
theorem dX5_add_19 : decode cX5_add 19 = .ok (.lload_n 1, 1) := by decide +kernel
theorem dX5_add_20 : decode cX5_add 20 = .ok (.lastore, 1) := by decide +kernel
theorem dX5_add_21 : decode cX5_add 21 = .ok (.iconst 0, 1) := by decide +kernel
theorem dX5_add_22 : decode cX5_add 22 = .ok (.istore_n 3, 1) := by decide +kernel
theorem dX5_add_23 : decode cX5_add 23 = .ok (.iload_n 3, 1) := by decide +kernel
theorem dX5_add_24 : decode cX5_add 24 = .ok (.aload_n 0, 1) := by decide +kernel
theorem dX5_add_25 : decode cX5_add 25 = .ok (.getfield 29, 3) := by decide +kernel
theorem dX5_add_28 : decode cX5_add 28 = .ok (.if_icmp .ge 42, 3) := by decide +kernel
theorem dX5_add_31 : decode cX5_add 31 = .ok (.lload_n 1, 1) := by decide +kernel
theorem dX5_add_32 : decode cX5_add 32 = .ok (.iload_n 3, 1) := by decide +kernel
theorem dX5_add_33 : decode cX5_add 33 = .ok (.invokestatic 38, 3) := by decide +kernel
theorem dX5_add_36 : decode cX5_add 36 = .ok (.ifCond .eq 28, 3) := by decide +kernel
theorem dX5_add_39 : decode cX5_add 39 = .ok (.aload_n 0, 1) := by decide +kernel
theorem dX5_add_40 : decode cX5_add 40 = .ok (.getfield 15, 3) := by decide +kernel
theorem dX5_add_43 : decode cX5_add 43 = .ok (.iload_n 3, 1) := by decide +kernel
theorem dX5_add_44 : decode cX5_add 44 = .ok (.dup2, 1) := by decide +kernel
theorem dX5_add_45 : decode cX5_add 45 = .ok (.laload, 1) := by decide +kernel
theorem dX5_add_46 : decode cX5_add 46 = .ok (.lconst 1, 1) := by decide +kernel
theorem dX5_add_47 : decode cX5_add 47 = .ok (.aload_n 0, 1) := by decide +kernel
theorem dX5_add_48 : decode cX5_add 48 = .ok (.getfield 35, 3) := by decide +kernel
theorem dX5_add_51 : decode cX5_add 51 = .ok (.lshl, 1) := by decide +kernel
theorem dX5_add_52 : decode cX5_add 52 = .ok (.lor, 1) := by decide +kernel
theorem dX5_add_53 : decode cX5_add 53 = .ok (.lastore, 1) := by decide +kernel
theorem dX5_add_54 : decode cX5_add 54 = .ok (.aload_n 0, 1) := by decide +kernel
theorem dX5_add_55 : decode cX5_add 55 = .ok (.getfield 18, 3) := by decide +kernel
theorem dX5_add_58 : decode cX5_add 58 = .ok (.iload_n 3, 1) := by decide +kernel
theorem dX5_add_59 : decode cX5_add 59 = .ok (.dup2, 1) := by decide +kernel
theorem dX5_add_60 : decode cX5_add 60 = .ok (.laload, 1) := by decide +kernel
theorem dX5_add_61 : decode cX5_add 61 = .ok (.lload_n 1, 1) := by decide +kernel
theorem dX5_add_62 : decode cX5_add 62 = .ok (.lor, 1) := by decide +kernel
theorem dX5_add_63 : decode cX5_add 63 = .ok (.lastore, 1) := by decide +kernel
theorem dX5_add_64 : decode cX5_add 64 = .ok (.iinc 3 1, 3) := by decide +kernel
theorem dX5_add_67 : decode cX5_add 67 = .ok (.goto (-44), 3) := by decide +kernel
theorem dX5_add_70 : decode cX5_add 70 = .ok (.aload_n 0, 1) := by decide +kernel
theorem dX5_add_71 : decode cX5_add 71 = .ok (.dup, 1) := by decide +kernel
theorem dX5_add_72 : decode cX5_add 72 = .ok (.getfield 35, 3) := by decide +kernel
theorem dX5_add_75 : decode cX5_add 75 = .ok (.iconst 1, 1) := by decide +kernel
theorem dX5_add_76 : decode cX5_add 76 = .ok (.iadd, 1) := by decide +kernel
theorem dX5_add_77 : decode cX5_add 77 = .ok (.putfield 35, 3) := by decide +kernel
theorem dX5_add_80 : decode cX5_add 80 = .ok (.iconst 1, 1) := by decide +kernel
theorem dX5_add_81 : decode cX5_add 81 = .ok (.ireturn, 1) := by decide +kernel
theorem dX5_hasPoint_0 : decode cX5_hasPoint 0 = .ok (.iload_n 1, 1) := by decide +kernel
theorem dX5_hasPoint_1 : decode cX5_hasPoint 1 = .ok (.ifCond .lt 15, 3) := by decide +kernel
theorem dX5_hasPoint_4 : decode cX5_hasPoint 4 = .ok (.iload_n 1, 1) := by decide +kernel
theorem dX5_hasPoint_5 : decode cX5_hasPoint 5 = .ok (.aload_n 0, 1) := by decide +kernel
theorem dX5_hasPoint_6 : decode cX5_hasPoint 6 = .ok (.getfield 29, 3) := by decide +kernel
theorem dX5_hasPoint_9 : decode cX5_hasPoint 9 = .ok (.if_icmp .ge 7, 3) := by decide +kernel
theorem dX5_hasPoint_12 : decode cX5_hasPoint 12 = .ok (.iconst 1, 1) := by decide +kernel
theorem dX5_hasPoint_13 : decode cX5_hasPoint 13 = .ok (.goto 4, 3) := by decide +kernel
theorem dX5_hasPoint_16 : decode cX5_hasPoint 16 = .ok (.iconst 0, 1) := by decide +kernel
theorem dX5_hasPoint_17 : decode cX5_hasPoint 17 = .ok (.ireturn, 1) := by decide +kernel
set_option maxRecDepth 20000 in
theorem ggX5_hasAll_X6_below : GoodIn wsX5_hasAll wsX6_below := goodIn_r _ [5] (by decide +kernel) (by decide +kernel)
set_option maxRecDepth 20000 in
theorem gX5_hasAll_X6_below_n42 : GoodIn wsX5_hasAll (wsX6_below) := ggX5_hasAll_X6_below
theorem dX5_hasAll_0 : decode cX5_hasAll 0 = .ok (.lload_n 1, 1) := by decide +kernel
theorem dX5_hasAll_1 : decode cX5_hasAll 1 = .ok (.aload_n 0, 1) := by decide +kernel
theorem dX5_hasAll_2 : decode cX5_hasAll 2 = .ok (.getfield 29, 3) := by decide +kernel
theorem dX5_hasAll_5 : decode cX5_hasAll 5 = .ok (.invokestatic 42, 3) := by decide +kernel
theorem dX5_hasAll_8 : decode cX5_hasAll 8 = .ok (.ldc2_w 46, 3) := by decide +kernel
theorem dX5_hasAll_11 : decode cX5_hasAll 11 = .ok (.lxor, 1) := by decide +kernel
theorem dX5_hasAll_12 : decode cX5_hasAll 12 = .ok (.land, 1) := by decide +kernel
theorem dX5_hasAll_13 : decode cX5_hasAll 13 = .ok (.lconst 0, 1) := by decide +kernel
theorem dX5_hasAll_14 : decode cX5_hasAll 14 = .ok (.lcmp, 1) := by decide +kernel
theorem dX5_hasAll_15 : decode cX5_hasAll 15 = .ok (.ifCond .ne 7, 3) := by decide +kernel
theorem dX5_hasAll_18 : decode cX5_hasAll 18 = .ok (.iconst 1, 1) := by decide +kernel
theorem dX5_hasAll_19 : decode cX5_hasAll 19 = .ok (.goto 4, 3) := by decide +kernel
theorem dX5_hasAll_22 : decode cX5_hasAll 22 = .ok (.iconst 0, 1) := by decide +kernel
theorem dX5_hasAll_23 : decode cX5_hasAll 23 = .ok (.ireturn, 1) := by decide +kernel
set_option maxRecDepth 20000 in
theorem ggX5_areNear_X6_has : GoodIn wsX5_areNear wsX6_has := goodIn_r _ [4] (by decide +kernel) (by decide +kernel)
set_option maxRecDepth 20000 in
theorem gX5_areNear_X6_has_n38 : GoodIn wsX5_areNear (wsX6_has) := ggX5_areNear_X6_has
theorem dX5_areNear_0 : decode cX5_areNear 0 = .ok (.aload_n 0, 1) := by decide +kernel
theorem dX5_areNear_1 : decode cX5_areNear 1 = .ok (.getfield 18, 3) := by decide +kernel
theorem dX5_areNear_4 : decode cX5_areNear 4 = .ok (.iload_n 1, 1) := by decide +kernel
theorem dX5_areNear_5 : decode cX5_areNear 5 = .ok (.laload, 1) := by decide +kernel
